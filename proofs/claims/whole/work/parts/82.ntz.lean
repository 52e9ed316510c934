/-! the lowest set bit of an int -/
def nt74 (x y : Int32) : Int32 := y + iushr x 1
def nt62 (x y : Int32) : Int32 := if x ≤ 4 then nt74 x y else nt74 (iushr x 2) (y + 2)
def nt49 (x y : Int32) : Int32 := if x ≤ 16 then nt62 x y else nt62 (iushr x 4) (y + 4)
def nt34 (x y : Int32) : Int32 := if x ≤ 256 then nt49 x y else nt49 (iushr x 8) (y + 8)
def nt0 (x : Int32) : Int32 := if 0 < x then (if x ≤ 65536 then nt34 x 1 else nt34 (iushr x 16) (1 + 16)) else x &&& 32
theorem c_ntz0 {E : EE} {d : Nat} {x : Int32} {G : AH} : wp E d M_J6_numberOfTrailingZeros_0f7a4 0 [some (vi x), none] [] G (fun r G' => ∃ y, r = some (vi y) ∧ y = nt0 ((x ^^^ (-1)) &&& (x - 1)) ∧ G' = G) := by
  have k74 : ∀ (a b : Int32) (z : Int32), nt74 a b = z → wp E d M_J6_numberOfTrailingZeros_0f7a4 74 [some (vi a), some (vi b)] [] G (fun r G' => ∃ y, r = some (vi y) ∧ y = z ∧ G' = G) := fun a b z e => v_J6_numberOfTrailingZeros_0f7a4_74 ⟨_, rfl, e, rfl⟩
  have k62 : ∀ (a b : Int32) (z : Int32), nt62 a b = z → wp E d M_J6_numberOfTrailingZeros_0f7a4 62 [some (vi a), some (vi b)] [] G (fun r G' => ∃ y, r = some (vi y) ∧ y = z ∧ G' = G) := fun a b z e => v_J6_numberOfTrailingZeros_0f7a4_62 ⟨fun q => k74 _ _ _ (by rw [← e]; unfold nt62; rw [if_pos q]), fun q => k74 _ _ _ (by rw [← e]; unfold nt62; rw [if_neg q])⟩
  have k49 : ∀ (a b : Int32) (z : Int32), nt49 a b = z → wp E d M_J6_numberOfTrailingZeros_0f7a4 49 [some (vi a), some (vi b)] [] G (fun r G' => ∃ y, r = some (vi y) ∧ y = z ∧ G' = G) := fun a b z e => v_J6_numberOfTrailingZeros_0f7a4_49 ⟨fun q => k62 _ _ _ (by rw [← e]; unfold nt49; rw [if_pos q]), fun q => k62 _ _ _ (by rw [← e]; unfold nt49; rw [if_neg q])⟩
  have k34 : ∀ (a b : Int32) (z : Int32), nt34 a b = z → wp E d M_J6_numberOfTrailingZeros_0f7a4 34 [some (vi a), some (vi b)] [] G (fun r G' => ∃ y, r = some (vi y) ∧ y = z ∧ G' = G) := fun a b z e => v_J6_numberOfTrailingZeros_0f7a4_34 ⟨fun q => k49 _ _ _ (by rw [← e]; unfold nt34; rw [if_pos q]), fun q => k49 _ _ _ (by rw [← e]; unfold nt34; rw [if_neg q])⟩
  refine v_J6_numberOfTrailingZeros_0f7a4_0 ⟨fun q => ⟨fun q2 => k34 _ _ _ ?_, fun q2 => k34 _ _ _ ?_⟩, fun q => ⟨_, rfl, ?_, rfl⟩⟩
  · unfold nt0; rw [if_pos q, if_pos q2]
  · unfold nt0; rw [if_pos q, if_neg q2]
  · unfold nt0; rw [if_neg q]
theorem low_bits {x : Int32} {k : Nat} (hk : k < 32) (h : tst x k = true) (hl : ∀ i, i < k → tst x i = false) : (x ^^^ (-1)) &&& (x - 1) = Int32.ofBitVec (BitVec.ofNat 32 (2 ^ k - 1)) := by
  have tb : ∀ i, x.toBitVec.toNat.testBit i = tst x i := fun i => rfl
  generalize ex : x.toBitVec.toNat = X at tb
  have hp : 0 < 2 ^ k := Nat.two_pow_pos k
  have m0 : X % 2 ^ k = 0 := by
    apply Nat.eq_of_testBit_eq
    intro i
    rw [Nat.testBit_mod_two_pow, Nat.zero_testBit]
    by_cases c : i < k
    · rw [tb i, hl i c, Bool.and_false]
    · rw [decide_eq_false c, Bool.false_and]
  have mo : X / 2 ^ k % 2 = 1 := by
    have := tb k
    rw [h, Nat.testBit_eq_decide_div_mod_eq] at this
    exact of_decide_eq_true this
  have eX : X = 2 ^ k * (X / 2 ^ k) := by
    have := Nat.mod_add_div X (2 ^ k)
    rw [m0, Nat.zero_add] at this
    exact this.symm
  have hX : 1 ≤ X := by
    rcases Nat.eq_zero_or_pos X with z | z
    · rw [z, Nat.zero_div] at mo; exact absurd mo (by decide)
    · exact z
  have e1 : X - 1 = 2 ^ k * (X / 2 ^ k - 1) + (2 ^ k - 1) := by
    have : 2 ^ k * (X / 2 ^ k) = 2 ^ k * (X / 2 ^ k - 1) + 2 ^ k := by
      generalize X / 2 ^ k = Y at mo
      rw [← Nat.mul_succ, Nat.succ_eq_add_one, Nat.sub_add_cancel (by omega)]
    omega
  have es : (x - 1).toBitVec.toNat = X - 1 := by
    rw [i_sub x 1 (by rw [ex]; exact hX), ex]; rfl
  refine tst_ext (fun i hi => ?_)
  have ti : tst (x - 1) i = (X - 1).testBit i := by rw [← es]; rfl
  rw [tst_and, tst_xor, tst_n1 hi, ti, e1, Nat.testBit_two_pow_mul_add _ (by omega)]
  have er : tst (Int32.ofBitVec (BitVec.ofNat 32 (2 ^ k - 1))) i = decide (i < k) := by
    show (BitVec.ofNat 32 (2 ^ k - 1)).getLsbD i = _
    rw [BitVec.getLsbD_ofNat, Nat.testBit_two_pow_sub_one, decide_eq_true hi, Bool.true_and]
  rw [er]
  by_cases c : i < k
  · rw [if_pos c, hl i c, Nat.testBit_two_pow_sub_one]; rfl
  · rw [if_neg c, decide_eq_false c]
    by_cases c2 : i = k
    · subst c2
      rw [h]; rfl
    · have : (X / 2 ^ k - 1).testBit (i - k) = tst x i := by
        rw [← tb i]
        have e2 : i = i - k - 1 + 1 + k := by omega
        have e3 : i - k = i - k - 1 + 1 := by omega
        generalize i - k - 1 = j at e2 e3
        have e4 : X.testBit (j + 1 + k) = (X / 2 ^ k).testBit (j + 1) := Nat.testBit_add ..
        rw [e3, e2, e4]
        generalize X / 2 ^ k = Y at mo
        rw [Nat.testBit_succ, Nat.testBit_succ]
        congr 1
        omega
      rw [this]
      cases tst x i <;> rfl
theorem nt0_low : ∀ k, k < 32 → nt0 (Int32.ofBitVec (BitVec.ofNat 32 (2 ^ k - 1))) = nI k := by decide +kernel
theorem c_ntz {E : EE} {d : Nat} {V : VH} {x : Int32} {k : Nat} {K : Int32 → VH → Prop} (hk : k < 32) (h : tst x k = true) (hl : ∀ i, i < k → tst x i = false) (q : K (nI k) V) : vMI E d M_J6_numberOfTrailingZeros_0f7a4 [wi x] V K := by
  refine vMI.mono (vMI_pure (x := nI k) (fun G A => ?_)) (fun r V' z => by rw [z.1, z.2]; exact q)
  refine wpM_of mk_J6_numberOfTrailingZeros_0f7a4 (Nat.le_of_ble_eq_true rfl) ?_
  refine wp.mono c_ntz0 (fun r G' z => ?_)
  rw [low_bits hk h hl, nt0_low k hk] at z
  exact z
