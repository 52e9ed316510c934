/-! the tokens of a text -/
theorem nat_ne {a b : Nat} (h : Nat.beq a b = false) : a ≠ b := fun e => by rw [e, Nat.beq_refl] at h; cases h
/-- byte i of a row, 0 .. 255 -/
def bt (t : Nat → Int32) (i : Nat) : Nat := (t i &&& 255).toBitVec.toNat
theorem bt_lt (t : Nat → Int32) (i : Nat) : bt t i < 256 := by
  unfold bt
  have h : ((t i) &&& 255).toBitVec = (t i).toBitVec &&& 255#32 := rfl
  rw [h, BitVec.toNat_and]
  exact Nat.lt_of_le_of_lt Nat.and_le_right (by decide)
theorem bt_nI (t : Nat → Int32) (i : Nat) : t i &&& 255 = nI (bt t i) := by
  apply Int32.toBitVec_inj.mp
  apply BitVec.eq_of_toNat_eq
  show _ = (BitVec.ofNat 32 (bt t i)).toNat
  rw [BitVec.toNat_ofNat, Nat.mod_eq_of_lt (Nat.lt_trans (bt_lt t i) (by decide))]
  rfl
def isL (c : Nat) : Bool := decide (65 ≤ c ∧ c ≤ 90 ∨ 97 ≤ c ∧ c ≤ 122)
def isF (c : Nat) : Bool := decide (48 ≤ c ∧ c ≤ 57)
def isA (c : Nat) : Bool := isL c || isF c
/-- behind blanks and remarks; k bytes are left; r: in a remark -/
def skb (t : Nat → Int32) : Nat → Bool → Nat → Nat
  | 0, _, i => i
  | k + 1, r, i => if bt t i = 10 then skb t k false (i + 1) else if bt t i = 37 then skb t k true (i + 1) else if r = true ∨ bt t i = 32 ∨ bt t i = 9 ∨ bt t i = 13 then skb t k r (i + 1) else i
/-- behind a run of bytes -/
def rnw (P : Nat → Bool) (t : Nat → Int32) : Nat → Nat → Nat
  | 0, i => i
  | k + 1, i => if P (bt t i) = true then rnw P t k (i + 1) else i
theorem skb_in (t : Nat → Int32) : ∀ (k : Nat) (r : Bool) (i : Nat), i ≤ skb t k r i ∧ skb t k r i ≤ i + k := by
  intro k
  induction k with
  | zero => intro r i; exact ⟨Nat.le_refl _, Nat.le_refl _⟩
  | succ k ih =>
    intro r i
    rw [skb]
    have h1 := ih false (i + 1)
    have h2 := ih true (i + 1)
    have h3 := ih r (i + 1)
    split
    · omega
    · split
      · omega
      · split
        · omega
        · omega
theorem rnw_in (P : Nat → Bool) (t : Nat → Int32) : ∀ (k i : Nat), i ≤ rnw P t k i ∧ rnw P t k i ≤ i + k ∧ (∀ j, i ≤ j → j < rnw P t k i → P (bt t j) = true) := by
  intro k
  induction k with
  | zero => intro i; exact ⟨Nat.le_refl _, Nat.le_refl _, fun j h1 h2 => absurd h2 (by rw [rnw]; omega)⟩
  | succ k ih =>
    intro i
    rw [rnw]
    obtain ⟨h1, h2, h3⟩ := ih (i + 1)
    by_cases c : P (bt t i) = true
    · rw [if_pos c]
      refine ⟨by omega, by omega, fun j a b => ?_⟩
      by_cases cj : j = i
      · rw [cj]; exact c
      · exact h3 j (by omega) b
    · rw [if_neg c]
      exact ⟨Nat.le_refl _, by omega, fun j a b => absurd b (by omega)⟩
theorem rnw_pos {P : Nat → Bool} {t : Nat → Int32} {k i : Nat} (hk : 0 < k) (h : P (bt t i) = true) : i < rnw P t k i := by
  obtain ⟨k, rfl⟩ : ∃ j, k = j + 1 := ⟨k - 1, by omega⟩
  rw [rnw, if_pos h]
  have := (rnw_in P t k (i + 1)).1
  omega
/-- bytes as one number; figures as one number -/
def pkb (f : Nat → Nat) : Nat → Nat
  | 0 => 0
  | k + 1 => pkb f k * 256 + f k
def dcn (f : Nat → Nat) : Nat → Nat
  | 0 => 0
  | k + 1 => dcn f k * 10 + (f k - 48)
theorem pkb_lt {f : Nat → Nat} : ∀ k, (∀ j, j < k → f j < 256) → pkb f k < 256 ^ k := by
  intro k
  induction k with
  | zero => intro _; rw [pkb]; decide
  | succ k ih =>
    intro h
    have h1 := ih (fun j hj => h j (by omega))
    have h2 := h k (by omega)
    rw [pkb, Nat.pow_succ]
    omega
theorem pkb_inj {f f' : Nat → Nat} : ∀ k k', (∀ j, j < k → 0 < f j ∧ f j < 256) → (∀ j, j < k' → 0 < f' j ∧ f' j < 256) → pkb f k = pkb f' k' → k = k' ∧ ∀ j, j < k → f j = f' j := by
  intro k
  induction k with
  | zero =>
    intro k' _ h' e
    cases k' with
    | zero => exact ⟨rfl, fun j hj => absurd hj (Nat.not_lt_zero j)⟩
    | succ k' =>
      rw [pkb, pkb] at e
      have := (h' k' (by omega)).1
      omega
  | succ k ih =>
    intro k' h h' e
    cases k' with
    | zero =>
      rw [pkb, pkb] at e
      have := (h k (by omega)).1
      omega
    | succ k' =>
      rw [pkb, pkb] at e
      have a1 := h k (by omega)
      have a2 := h' k' (by omega)
      have e1 : f k = f' k' := by omega
      have e2 : pkb f k = pkb f' k' := by omega
      obtain ⟨q1, q2⟩ := ih k' (fun j hj => h j (by omega)) (fun j hj => h' j (by omega)) e2
      subst q1
      refine ⟨rfl, fun j hj => ?_⟩
      by_cases c : j = k
      · rw [c]; exact e1
      · exact q2 j (by omega)
theorem pkb_ext {f f' : Nat → Nat} : ∀ k, (∀ j, j < k → f j = f' j) → pkb f k = pkb f' k := by
  intro k
  induction k with
  | zero => intro _; rfl
  | succ k ih => intro h; rw [pkb, pkb, ih (fun j hj => h j (by omega)), h k (by omega)]
theorem dcn_lt {f : Nat → Nat} : ∀ k, (∀ j, j < k → f j < 58) → dcn f k < 10 ^ k := by
  intro k
  induction k with
  | zero => intro _; rw [dcn]; decide
  | succ k ih =>
    intro h
    have h1 := ih (fun j hj => h j (by omega))
    have h2 := h k (by omega)
    rw [dcn, Nat.pow_succ]
    omega
/-- bytes of a row from p on -/
def bf (t : Nat → Int32) (p : Nat) : Nat → Nat := fun j => bt t (p + j)
def nL (n : Nat) : Int64 := Int64.ofNat n
theorem nL_inj {a b : Nat} (ha : a < 2 ^ 64) (hb : b < 2 ^ 64) (h : nL a = nL b) : a = b := by
  have h : (Int64.ofNat a).toBitVec.toNat = (Int64.ofNat b).toBitVec.toNat := by
    show (nL a).toBitVec.toNat = (nL b).toBitVec.toNat
    rw [h]
  have e : ∀ n, (Int64.ofNat n).toBitVec.toNat = n % 2 ^ 64 := fun n => by
    show (BitVec.ofNat 64 n).toNat = _
    rw [BitVec.toNat_ofNat]
  rw [e, e, Nat.mod_eq_of_lt ha, Nat.mod_eq_of_lt hb] at h
  exact h
theorem i2l_nI {b : Nat} (h : b < 2 ^ 31) : Int32.toInt64 (nI b) = nL b := by
  apply Int64.toInt_inj.mp
  rw [Int32.toInt_toInt64]
  show (nI b).toInt = (Int64.ofNat b).toInt
  rw [nI_toInt h, Int64.toInt_ofNat_of_lt (by omega)]
theorem pkb_step {a b : Nat} (hb : b < 256) : (nL a <<< (Int32.toInt64 8 &&& 63)) ||| Int32.toInt64 (nI b) = nL (a * 256 + b) := by
  rw [i2l_nI (by omega)]
  apply Int64.toBitVec_inj.mp
  apply BitVec.eq_of_toNat_eq
  show (((BitVec.ofNat 64 a) <<< ((Int32.toInt64 8 &&& 63).toBitVec.smod 64#64)) ||| BitVec.ofNat 64 b).toNat = (BitVec.ofNat 64 (a * 256 + b)).toNat
  rw [show ((Int32.toInt64 8 &&& 63).toBitVec.smod 64#64) = 8#64 from by decide, BitVec.toNat_or, BitVec.shiftLeft_eq', BitVec.toNat_shiftLeft, BitVec.toNat_ofNat, BitVec.toNat_ofNat, BitVec.toNat_ofNat]
  rw [show 8 % 2 ^ 64 = 8 from rfl, BitVec.toNat_ofNat, Nat.mod_eq_of_lt (show b < 2 ^ 64 by omega)]
  have e : (a % 2 ^ 64) <<< 8 % 2 ^ 64 = (a % 2 ^ 56) <<< 8 := by
    rw [Nat.shiftLeft_eq, Nat.shiftLeft_eq]; omega
  rw [e, ← Nat.shiftLeft_add_eq_or_of_lt (show b < 2 ^ 8 by omega), Nat.shiftLeft_eq]
  omega
theorem dcn_step {a b : Nat} (hb : b < 256) (h48 : 48 ≤ b) : ((10 * nL a) + Int32.toInt64 (nI b)) - 48 = nL (a * 10 + (b - 48)) := by
  rw [i2l_nI (by omega)]
  unfold nL
  rw [show (10 : Int64) = Int64.ofNat 10 from rfl, show (48 : Int64) = Int64.ofNat 48 from rfl, ← Int64.ofNat_mul, ← Int64.ofNat_add]
  rw [show 10 * a + b = a * 10 + (b - 48) + 48 from by omega, Int64.ofNat_add, Int64.add_sub_cancel]
/-- a token: code (as the reference has it), key of a name, value of a number, from, to -/
abbrev TK : Type := Nat × Int64 × Nat × Nat × Nat
def TK.f (T : TK) : Nat := T.2.2.2.1
def TK.e (T : TK) : Nat := T.2.2.2.2
def tkName (t : Nat → Int32) (n p : Nat) : TK :=
  if 8 < rnw isA t (n - p) p - p then (3, 0, 0, p, rnw isA t (n - p) p)
  else match fsb (fun w => decide (wordsF w = nL (pkb (bf t p) (rnw isA t (n - p) p - p)))) 17 with
    | some w => (300 + w, 0, 0, p, rnw isA t (n - p) p)
    | none => (1, nL (pkb (bf t p) (rnw isA t (n - p) p - p)), 0, p, rnw isA t (n - p) p)
def tkNum (t : Nat → Int32) (n p : Nat) : TK :=
  if 4 < rnw isF t (n - p) p - p then (3, 0, 0, p, rnw isF t (n - p) p) else (2, 0, dcn (bf t p) (rnw isF t (n - p) p - p), p, rnw isF t (n - p) p)
def tkPair (b s : Nat) : Nat := if b = 60 ∧ s = 61 then 200 else if b = 62 ∧ s = 61 then 201 else if b = 46 ∧ s = 46 then 202 else if b = 45 ∧ s = 62 then 203 else 0
def tkSign (t : Nat → Int32) (n p : Nat) : TK :=
  if tkPair (bt t p) (if p + 1 < n then bt t (p + 1) else 0) ≠ 0 then (tkPair (bt t p) (if p + 1 < n then bt t (p + 1) else 0), 0, 0, p, p + 2)
  else if isS (bt t p) = true then (bt t p, 0, 0, p, p + 1) else (3, 0, 0, p, p + 1)
def tkP (t : Nat → Int32) (n p : Nat) : TK :=
  if n ≤ p then (0, 0, 0, n, n) else if isL (bt t p) = true then tkName t n p else if isF (bt t p) = true then tkNum t n p else tkSign t n p
/-- the token behind place i -/
def tkA (t : Nat → Int32) (n i : Nat) : TK := tkP t n (skb t (n - i) false i)
/-- where token j is looked for; token j -/
def tps (t : Nat → Int32) (n : Nat) : Nat → Nat
  | 0 => 0
  | j + 1 => (tkA t n (tps t n j)).e
def tkT (t : Nat → Int32) (n j : Nat) : TK := tkA t n (tps t n j)
/-- codes that there are -/
def vcd (c : Nat) : Bool := decide (c < 4 ∨ 33 ≤ c ∧ c ≤ 126 ∨ 200 ≤ c ∧ c ≤ 203 ∨ 300 ≤ c ∧ c ≤ 316)
theorem tkName_ok (t : Nat → Int32) {n p : Nat} (h : p < n) (hl : isL (bt t p) = true) : vcd (tkName t n p).1 = true ∧ (tkName t n p).1 ≠ 0 ∧ (tkName t n p).f = p ∧ p < (tkName t n p).e ∧ (tkName t n p).e ≤ n ∧ ((tkName t n p).1 = 1 → (tkName t n p).e ≤ p + 8 ∧ (tkName t n p).2.1 = nL (pkb (bf t p) ((tkName t n p).e - p)) ∧ ∀ j, p ≤ j → j < (tkName t n p).e → isA (bt t j) = true) ∧ (tkName t n p).1 ≠ 2 := by
  have h1 := rnw_pos (P := isA) (t := t) (k := n - p) (i := p) (by omega) (by unfold isA; rw [hl]; rfl)
  obtain ⟨_, h2, h3⟩ := rnw_in isA t (n - p) p
  unfold tkName
  by_cases c : 8 < rnw isA t (n - p) p - p
  · rw [if_pos c]
    exact ⟨rfl, nat_ne rfl, rfl, h1, by show rnw isA t (n - p) p ≤ n; omega, fun z => absurd z (nat_ne rfl), nat_ne rfl⟩
  · rw [if_neg c]
    cases w : fsb (fun w => decide (wordsF w = nL (pkb (bf t p) (rnw isA t (n - p) p - p)))) 17 with
    | some v =>
      have := fsb_lt w
      refine ⟨decide_eq_true ?_, ?_, rfl, h1, ?_, fun z => ?_, ?_⟩
      · show 300 + v < 4 ∨ 33 ≤ 300 + v ∧ 300 + v ≤ 126 ∨ 200 ≤ 300 + v ∧ 300 + v ≤ 203 ∨ 300 ≤ 300 + v ∧ 300 + v ≤ 316
        omega
      · show 300 + v ≠ 0; omega
      · show rnw isA t (n - p) p ≤ n; omega
      · have z : 300 + v = 1 := z; omega
      · show 300 + v ≠ 2; omega
    | none => exact ⟨rfl, nat_ne rfl, rfl, h1, by show rnw isA t (n - p) p ≤ n; omega, fun _ => ⟨by show rnw isA t (n - p) p ≤ p + 8; omega, rfl, h3⟩, nat_ne rfl⟩
theorem tkNum_ok (t : Nat → Int32) {n p : Nat} (h : p < n) (hl : isF (bt t p) = true) : vcd (tkNum t n p).1 = true ∧ (tkNum t n p).1 ≠ 0 ∧ (tkNum t n p).f = p ∧ p < (tkNum t n p).e ∧ (tkNum t n p).e ≤ n ∧ (tkNum t n p).1 ≠ 1 ∧ (tkNum t n p).2.2.1 ≤ 9999 := by
  have h1 := rnw_pos (P := isF) (t := t) (k := n - p) (i := p) (by omega) hl
  obtain ⟨_, h2, h3⟩ := rnw_in isF t (n - p) p
  unfold tkNum
  by_cases c : 4 < rnw isF t (n - p) p - p
  · rw [if_pos c]
    exact ⟨rfl, nat_ne rfl, rfl, h1, by show rnw isF t (n - p) p ≤ n; omega, nat_ne rfl, Nat.zero_le _⟩
  · rw [if_neg c]
    refine ⟨rfl, nat_ne rfl, rfl, h1, by show rnw isF t (n - p) p ≤ n; omega, nat_ne rfl, ?_⟩
    show dcn (bf t p) (rnw isF t (n - p) p - p) ≤ 9999
    have z := dcn_lt (f := bf t p) (rnw isF t (n - p) p - p) (fun j hj => by
      have := h3 (p + j) (by omega) (by omega)
      have := of_decide_eq_true this
      show bt t (p + j) < 58
      omega)
    have : rnw isF t (n - p) p - p = 0 ∨ rnw isF t (n - p) p - p = 1 ∨ rnw isF t (n - p) p - p = 2 ∨ rnw isF t (n - p) p - p = 3 ∨ rnw isF t (n - p) p - p = 4 := by omega
    rcases this with q | q | q | q | q <;> rw [q] at z ⊢ <;> omega
theorem tkPair_v (b s : Nat) : tkPair b s = 0 ∨ (200 ≤ tkPair b s ∧ tkPair b s ≤ 203) := by
  unfold tkPair
  split
  · omega
  · split
    · omega
    · split
      · omega
      · split <;> omega
theorem isS_v (c : Nat) (h : isS c = true) : 33 ≤ c ∧ c ≤ 126 := by
  have := of_decide_eq_true h
  omega
theorem tkSign_ok (t : Nat → Int32) {n p : Nat} (h : p < n) : vcd (tkSign t n p).1 = true ∧ (tkSign t n p).1 ≠ 0 ∧ (tkSign t n p).f = p ∧ p < (tkSign t n p).e ∧ (tkSign t n p).e ≤ n ∧ (tkSign t n p).1 ≠ 1 ∧ (tkSign t n p).1 ≠ 2 := by
  unfold tkSign
  have v := tkPair_v (bt t p) (if p + 1 < n then bt t (p + 1) else 0)
  by_cases c : tkPair (bt t p) (if p + 1 < n then bt t (p + 1) else 0) ≠ 0
  · rw [if_pos c]
    have hn : p + 1 < n := by
      by_cases c1 : p + 1 < n
      · exact c1
      · exfalso
        apply c
        rw [if_neg c1]
        unfold tkPair
        rw [if_neg (fun z => by omega), if_neg (fun z => by omega), if_neg (fun z => by omega), if_neg (fun z => by omega)]
    refine ⟨decide_eq_true ?_, c, rfl, ?_, ?_, ?_, ?_⟩
    · show tkPair (bt t p) (if p + 1 < n then bt t (p + 1) else 0) < 4 ∨ 33 ≤ tkPair (bt t p) (if p + 1 < n then bt t (p + 1) else 0) ∧ tkPair (bt t p) (if p + 1 < n then bt t (p + 1) else 0) ≤ 126 ∨ 200 ≤ tkPair (bt t p) (if p + 1 < n then bt t (p + 1) else 0) ∧ tkPair (bt t p) (if p + 1 < n then bt t (p + 1) else 0) ≤ 203 ∨ 300 ≤ tkPair (bt t p) (if p + 1 < n then bt t (p + 1) else 0) ∧ tkPair (bt t p) (if p + 1 < n then bt t (p + 1) else 0) ≤ 316
      omega
    · show p < p + 2; omega
    · show p + 2 ≤ n; omega
    · show tkPair (bt t p) (if p + 1 < n then bt t (p + 1) else 0) ≠ 1; omega
    · show tkPair (bt t p) (if p + 1 < n then bt t (p + 1) else 0) ≠ 2; omega
  · rw [if_neg c]
    by_cases c1 : isS (bt t p) = true
    · rw [if_pos c1]
      have := isS_v _ c1
      refine ⟨decide_eq_true ?_, ?_, rfl, ?_, ?_, ?_, ?_⟩
      · show bt t p < 4 ∨ 33 ≤ bt t p ∧ bt t p ≤ 126 ∨ 200 ≤ bt t p ∧ bt t p ≤ 203 ∨ 300 ≤ bt t p ∧ bt t p ≤ 316
        omega
      · show bt t p ≠ 0; omega
      · show p < p + 1; omega
      · show p + 1 ≤ n; omega
      · show bt t p ≠ 1; omega
      · show bt t p ≠ 2; omega
    · rw [if_neg c1]
      exact ⟨rfl, nat_ne rfl, rfl, Nat.lt_succ_self p, h, nat_ne rfl, nat_ne rfl⟩
/-- what a token always is -/
theorem tkP_ok (t : Nat → Int32) {n p : Nat} (h : p ≤ n) : vcd (tkP t n p).1 = true ∧ p ≤ (tkP t n p).f ∧ (tkP t n p).f ≤ (tkP t n p).e ∧ (tkP t n p).e ≤ n ∧ ((tkP t n p).1 = 0 ↔ n ≤ p) ∧ ((tkP t n p).1 ≠ 0 → p < (tkP t n p).e ∧ (tkP t n p).f = p) ∧ ((tkP t n p).1 = 0 → (tkP t n p).f = n ∧ (tkP t n p).e = n) ∧ ((tkP t n p).1 = 1 → (tkP t n p).e ≤ p + 8 ∧ (tkP t n p).2.1 = nL (pkb (bf t p) ((tkP t n p).e - p)) ∧ ∀ j, p ≤ j → j < (tkP t n p).e → isA (bt t j) = true) ∧ ((tkP t n p).1 = 2 → (tkP t n p).2.2.1 ≤ 9999) := by
  unfold tkP
  by_cases c : n ≤ p
  · rw [if_pos c]
    exact ⟨rfl, h, Nat.le_refl _, Nat.le_refl _, ⟨fun _ => c, fun _ => rfl⟩, fun z => absurd rfl z, fun _ => ⟨rfl, rfl⟩, fun z => absurd z (nat_ne rfl), fun z => absurd z (nat_ne rfl)⟩
  · rw [if_neg c]
    by_cases c1 : isL (bt t p) = true
    · rw [if_pos c1]
      obtain ⟨a1, a2, a3, a4, a5, a6, a7⟩ := tkName_ok t (n := n) (p := p) (by omega) c1
      exact ⟨a1, by omega, by omega, a5, ⟨fun z => absurd z a2, fun z => absurd z c⟩, fun _ => ⟨a4, a3⟩, fun z => absurd z a2, a6, fun z => absurd z a7⟩
    · rw [if_neg c1]
      by_cases c2 : isF (bt t p) = true
      · rw [if_pos c2]
        obtain ⟨a1, a2, a3, a4, a5, a6, a7⟩ := tkNum_ok t (n := n) (p := p) (by omega) c2
        exact ⟨a1, by omega, by omega, a5, ⟨fun z => absurd z a2, fun z => absurd z c⟩, fun _ => ⟨a4, a3⟩, fun z => absurd z a2, fun z => absurd z a6, fun _ => a7⟩
      · rw [if_neg c2]
        obtain ⟨a1, a2, a3, a4, a5, a6, a7⟩ := tkSign_ok t (n := n) (p := p) (by omega)
        exact ⟨a1, by omega, by omega, a5, ⟨fun z => absurd z a2, fun z => absurd z c⟩, fun _ => ⟨a4, a3⟩, fun z => absurd z a2, fun z => absurd z a6, fun z => absurd z a7⟩
/-- the first token that is the end or none -/
def tle (T : Nat → TK) : Nat → Nat → Nat
  | 0, j => j
  | k + 1, j => if (T j).1 = 0 ∨ (T j).1 = 3 then j else tle T k (j + 1)
theorem tle_in (T : Nat → TK) : ∀ k j, j ≤ tle T k j ∧ tle T k j ≤ j + k ∧ (∀ i, j ≤ i → i < tle T k j → (T i).1 ≠ 0 ∧ (T i).1 ≠ 3) ∧ (tle T k j < j + k → (T (tle T k j)).1 = 0 ∨ (T (tle T k j)).1 = 3) := by
  intro k
  induction k with
  | zero => intro j; exact ⟨Nat.le_refl _, Nat.le_refl _, fun i h1 h2 => absurd h2 (by rw [tle]; omega), fun z => absurd z (by rw [tle]; omega)⟩
  | succ k ih =>
    intro j
    rw [tle]
    by_cases c : (T j).1 = 0 ∨ (T j).1 = 3
    · rw [if_pos c]
      exact ⟨Nat.le_refl _, by omega, fun i h1 h2 => absurd h2 (by omega), fun _ => c⟩
    · rw [if_neg c]
      obtain ⟨h1, h2, h3, h4⟩ := ih (j + 1)
      refine ⟨by omega, by omega, fun i a b => ?_, fun z => h4 (by omega)⟩
      by_cases ci : i = j
      · rw [ci]; exact ⟨fun z => c (Or.inl z), fun z => c (Or.inr z)⟩
      · exact h3 i (by omega) b
theorem tps_le (t : Nat → Int32) (n : Nat) : ∀ j, tps t n j ≤ n := by
  intro j
  cases j with
  | zero => exact Nat.zero_le _
  | succ j =>
    have s := skb_in t (n - tps t n j) false (tps t n j)
    show (tkA t n (tps t n j)).e ≤ n
    by_cases c : tps t n j ≤ n
    · exact (tkP_ok t (p := skb t (n - tps t n j) false (tps t n j)) (by omega)).2.2.2.1
    · unfold tkA tkP
      rw [if_pos (by omega)]
      exact Nat.le_refl _
/-- place of token j: behind that of the ones before -/
theorem tkT_ok (t : Nat → Int32) (n j : Nat) : vcd (tkT t n j).1 = true ∧ tps t n j ≤ (tkT t n j).f ∧ (tkT t n j).f ≤ (tkT t n j).e ∧ (tkT t n j).e ≤ n ∧ ((tkT t n j).1 ≠ 0 → (tkT t n j).f < (tkT t n j).e) ∧ ((tkT t n j).1 = 0 → (tkT t n j).f = n ∧ (tkT t n j).e = n) ∧ ((tkT t n j).1 = 1 → (tkT t n j).e ≤ (tkT t n j).f + 8 ∧ (tkT t n j).2.1 = nL (pkb (bf t (tkT t n j).f) ((tkT t n j).e - (tkT t n j).f)) ∧ ∀ i, (tkT t n j).f ≤ i → i < (tkT t n j).e → isA (bt t i) = true) ∧ ((tkT t n j).1 = 2 → (tkT t n j).2.2.1 ≤ 9999) := by
  have h0 := tps_le t n j
  have s := skb_in t (n - tps t n j) false (tps t n j)
  unfold tkT tkA
  obtain ⟨a1, a2, a3, a4, a5, a6, a7, a8, a9⟩ := tkP_ok t (n := n) (p := skb t (n - tps t n j) false (tps t n j)) (by omega)
  refine ⟨a1, by omega, a3, a4, fun z => ?_, a7, fun z => ?_, a9⟩
  · have := a6 z; omega
  · have y := a8 z
    have e := (a6 (by rw [z]; decide)).2
    rw [e]
    exact y
theorem tps_ge (t : Nat → Int32) (n : Nat) : ∀ j, (∀ i, i < j → (tkT t n i).1 ≠ 0) → j ≤ tps t n j := by
  intro j
  induction j with
  | zero => intro _; exact Nat.zero_le _
  | succ j ih =>
    intro h
    have h1 := ih (fun i hi => h i (by omega))
    obtain ⟨_, a2, _, _, a5, _⟩ := tkT_ok t n j
    have := a5 (h j (by omega))
    show j + 1 ≤ (tkT t n j).e
    omega
/-- how many tokens there are before the end, or one that is none -/
def tln (t : Nat → Int32) (n : Nat) : Nat := tle (tkT t n) (n + 1) 0
theorem tln_ok (t : Nat → Int32) (n : Nat) : tln t n ≤ n ∧ (∀ i, i < tln t n → (tkT t n i).1 ≠ 0 ∧ (tkT t n i).1 ≠ 3) ∧ ((tkT t n (tln t n)).1 = 0 ∨ (tkT t n (tln t n)).1 = 3) := by
  obtain ⟨h1, h2, h3, h4⟩ := tle_in (tkT t n) (n + 1) 0
  have h3 : ∀ i, i < tln t n → (tkT t n i).1 ≠ 0 ∧ (tkT t n i).1 ≠ 3 := fun i hi => h3 i (Nat.zero_le _) hi
  have h5 := tps_ge t n (tln t n) (fun i hi => (h3 i hi).1)
  have h6 := tps_le t n (tln t n)
  have h2 : tln t n ≤ 0 + (n + 1) := h2
  refine ⟨by omega, h3, h4 ?_⟩
  show tln t n < _
  omega
/-- the class's kind, mark and key -/
def clK (c : Nat) : Int32 := if c = 0 then 0 else if c = 1 then 2 else if c = 2 then 3 else if c = 3 then 1 else 4
def clM (c : Nat) : Nat := if 300 ≤ c then c - 300 else if c = 200 then 15421 else if c = 201 then 15933 else if c = 202 then 11822 else if c = 203 then 11582 else c
def mkc (m : Nat) : Nat := if m < 17 then 300 + m else if m = 15421 then 200 else if m = 15933 then 201 else if m = 11822 then 202 else if m = 11582 then 203 else m
theorem mkc_clM : ∀ c : Fin 317, vcd c.val = true → 4 ≤ c.val → mkc (clM c.val) = c.val := by decide +kernel
theorem vcd_lt {c : Nat} (h : vcd c = true) : c < 317 := by
  have := of_decide_eq_true h
  omega
theorem clM_inj {c c' : Nat} (h : vcd c = true) (h' : vcd c' = true) (h4 : 4 ≤ c) (h4' : 4 ≤ c') (e : clM c = clM c') : c = c' := by
  have e1 : mkc (clM c) = c := mkc_clM ⟨c, vcd_lt h⟩ h h4
  have e2 : mkc (clM c') = c' := mkc_clM ⟨c', vcd_lt h'⟩ h' h4'
  rw [← e1, ← e2, e]
def clX (T : TK) : Int64 := if T.1 = 1 then T.2.1 else if T.1 = 2 then nL T.2.2.1 else nL (clM T.1)
theorem clM_lt (c : Nat) (h : c < 317) : clM c < 20000 := by
  unfold clM
  split
  · omega
  · split
    · decide
    · split
      · decide
      · split
        · decide
        · split
          · decide
          · omega
