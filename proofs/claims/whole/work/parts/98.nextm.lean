/-! the reference comes to the next token -/
/-- the text that is read: n bytes as t has them -/
def SrcM (V : VH) (t : Nat → Int32) (n : Nat) : Prop := vI V 6 0 39 = nI n ∧ n ≤ 20000 ∧ ((vI V 6 0 37 = 0 ∧ ∃ B, vI V 6 0 38 = nI B ∧ B + n ≤ 100000 ∧ ∀ i, i < n → bt (vI V 6 3) (B + i) = bt t i) ∨ (¬ vI V 6 0 37 = 0 ∧ ∀ i, i < n → bt (vI V 6 1) i = bt t i))
/-- the cells of the token that is come to -/
def nxS : Nat → Nat → Nat → Prop := fun a f i => a = 6 ∧ f = 0 ∧ 40 ≤ i ∧ i ≤ 44
/-- token T is come to -/
def RT (V : VH) (T : TK) : Prop := vI V 6 0 40 = nI T.e ∧ vI V 6 0 41 = nI T.1 ∧ vI V 6 0 43 = nI T.f ∧ vI V 6 0 44 = nI T.e ∧ (T.1 = 2 → vI V 6 0 42 = nI T.2.2.1)
theorem isL_M : ∀ b : Fin 256, isL b.val = true ↔ (¬ (nI b.val < 97) ∧ nI b.val ≤ 122) ∨ (¬ (nI b.val < 65) ∧ ¬ (90 < nI b.val)) := by decide +kernel
theorem isS_M : ∀ b : Fin 256, isS b.val = true ↔ (nI b.val = 59 ∨ nI b.val = 61 ∨ nI b.val = 35 ∨ nI b.val = 60 ∨ nI b.val = 62 ∨ nI b.val = 43 ∨ nI b.val = 45 ∨ nI b.val = 42 ∨ nI b.val = 40 ∨ nI b.val = 41 ∨ nI b.val = 91 ∨ nI b.val = 93 ∨ nI b.val = 123 ∨ nI b.val = 125 ∨ nI b.val = 44 ∨ nI b.val = 58 ∨ nI b.val = 38 ∨ nI b.val = 124 ∨ nI b.val = 126 ∨ nI b.val = 33 ∨ nI b.val = 46) := by decide +kernel
theorem words_pk : ∀ w : Fin 17, wordsF w.val = nL (pkb (txB (5 + w.val)) (txN (5 + w.val))) := by decide +kernel
section
variable {E : EE} {d : Nat} {V : VH} {t : Nat → Int32} {n : Nat}
theorem SrcM.fc {V' : VH} {S : Nat → Nat → Nat → Prop} (h : SrcM V t n) (k : Fc V V' S) (q : ∀ f i, f = 1 ∨ f = 3 ∨ f = 0 ∧ (i = 37 ∨ i = 38 ∨ i = 39) → ¬ S 6 f i) : SrcM V' t n := by
  obtain ⟨h1, h2, h3⟩ := h
  have b : ∀ f i, f = 1 ∨ f = 3 → bt (vI V' 6 f) i = bt (vI V 6 f) i := fun f i z => by unfold bt; rw [k.i (q f i (by omega))]
  refine ⟨by rw [k.i (q 0 39 (by omega))]; exact h1, h2, ?_⟩
  rw [k.i (q 0 37 (by omega)), k.i (q 0 38 (by omega))]
  rcases h3 with ⟨a1, B, a2, a3, a4⟩ | ⟨a1, a2⟩
  · exact Or.inl ⟨a1, B, a2, a3, fun i hi => by rw [b 3 _ (by omega)]; exact a4 i hi⟩
  · exact Or.inr ⟨a1, fun i hi => by rw [b 1 _ (by omega)]; exact a2 i hi⟩
theorem c_lookM {i : Nat} {K : Int32 → VH → Prop} (h : SrcM V t n) (hi : i < n) (hk : K (nI (bt t i)) V) : vMI E d M_X12_look [sl 6 0, wi (nI i)] V K := by
  obtain ⟨h1, h2, h3⟩ := h
  refine w_X12_look_0 ⟨fun _ => ⟨fun q => ?_, fun q => ?_⟩, fun q => absurd (by rw [h1]; exact nI_lt hi (by omega)) q⟩
  · rcases h3 with ⟨_, B, a2, a3, a4⟩ | ⟨a1, _⟩
    · rw [a2, nI_add, nI_clamp (show B + i < 2 ^ 31 by omega)]
      refine ⟨vp_in_nI (by omega) (by decide), w_X12_look_39 ?_⟩
      rw [bt_nI, a4 i hi]; exact hk
    · exact absurd q a1
  · rcases h3 with ⟨a1, _⟩ | ⟨_, a2⟩
    · exact absurd a1 q
    · rw [nI_clamp (show i < 2 ^ 31 by omega)]
      refine ⟨vp_in_nI (by omega) (by decide), w_X12_look_39 ?_⟩
      rw [bt_nI, a2 i hi]; exact hk
theorem c_isLetterM {x : Nat} {K : Int32 → VH → Prop} (hx : x < 256) (hk : K (bI (isL x)) V) : vMI E d M_X12_isLetter [wi (nI x)] V K := by
  have z := isL_M ⟨x, hx⟩
  have hk1 : isL x = true → K 1 V := fun q => by rw [q] at hk; exact hk
  have hk0 : ¬ isL x = true → K 0 V := fun q => by rw [Bool.not_eq_true] at q; rw [q] at hk; exact hk
  have r12 : ¬ (¬ (nI x < 97) ∧ nI x ≤ 122) → vwp E d M_X12_isLetter 12 [some (wi (nI x))] [] V (zi K) := fun q => w_X12_isLetter_12 ⟨fun w => hk0 (fun y => by
    rcases z.mp y with y | y
    · exact q y
    · exact y.1 w), fun w => ⟨fun w2 => hk0 (fun y => by
    rcases z.mp y with y | y
    · exact q y
    · exact y.2 w2), fun w2 => w_X12_isLetter_24 (hk1 (z.mpr (Or.inr ⟨w, w2⟩)))⟩⟩
  exact w_X12_isLetter_0 ⟨fun w => r12 (fun y => y.1 w), fun w => ⟨fun w2 => w_X12_isLetter_24 (hk1 (z.mpr (Or.inl ⟨w, w2⟩))), fun w2 => r12 (fun y => w2 y.2)⟩⟩
theorem c_isFigureM {x : Nat} {K : Int32 → VH → Prop} (hx : x < 256) (hk : K (bI (isF x)) V) : vMI E d M_X12_isFigure [wi (nI x)] V K := by
  have z := isF_32 ⟨x, hx⟩
  cases q : isF x with
  | true =>
    rw [q] at hk
    have y := z.mp q
    exact w_X12_isFigure_0 ⟨fun w => absurd w y.1, fun _ => ⟨fun w => absurd w y.2, fun _ => hk⟩⟩
  | false =>
    rw [q] at hk
    refine w_X12_isFigure_0 ⟨fun _ => hk, fun w => ⟨fun _ => hk, fun w2 => ?_⟩⟩
    have := z.mpr ⟨w, w2⟩
    rw [q] at this; cases this
theorem c_isSignM {x : Nat} {K : Int32 → VH → Prop} (hx : x < 256) (hk : K (bI (isS x)) V) : vMI E d M_X12_isSign [wi (nI x)] V K := by
  have z := isS_M ⟨x, hx⟩
  have y : isS x = true → vwp E d M_X12_isSign 126 [some (wi (nI x))] [] V (zi K) := fun q => w_X12_isSign_126 (by rw [q] at hk; exact hk)
  have hk0 : ¬ isS x = true → K 0 V := fun q => by rw [Bool.not_eq_true] at q; rw [q] at hk; exact hk
  exact w_X12_isSign_0 ⟨fun q => y (z.mpr (Or.inl q)), fun q0 => ⟨fun q => y (z.mpr (Or.inr (Or.inl q))), fun q1 => ⟨fun q => y (z.mpr (Or.inr (Or.inr (Or.inl q)))), fun q2 => ⟨fun q => y (z.mpr (Or.inr (Or.inr (Or.inr (Or.inl q))))), fun q3 => ⟨fun q => y (z.mpr (Or.inr (Or.inr (Or.inr (Or.inr (Or.inl q)))))), fun q4 => ⟨fun q => y (z.mpr (Or.inr (Or.inr (Or.inr (Or.inr (Or.inr (Or.inl q))))))), fun q5 => ⟨fun q => y (z.mpr (Or.inr (Or.inr (Or.inr (Or.inr (Or.inr (Or.inr (Or.inl q)))))))), fun q6 => ⟨fun q => y (z.mpr (Or.inr (Or.inr (Or.inr (Or.inr (Or.inr (Or.inr (Or.inr (Or.inl q))))))))), fun q7 => ⟨fun q => y (z.mpr (Or.inr (Or.inr (Or.inr (Or.inr (Or.inr (Or.inr (Or.inr (Or.inr (Or.inl q)))))))))), fun q8 => ⟨fun q => y (z.mpr (Or.inr (Or.inr (Or.inr (Or.inr (Or.inr (Or.inr (Or.inr (Or.inr (Or.inr (Or.inl q))))))))))), fun q9 => ⟨fun q => y (z.mpr (Or.inr (Or.inr (Or.inr (Or.inr (Or.inr (Or.inr (Or.inr (Or.inr (Or.inr (Or.inr (Or.inl q)))))))))))), fun q10 => ⟨fun q => y (z.mpr (Or.inr (Or.inr (Or.inr (Or.inr (Or.inr (Or.inr (Or.inr (Or.inr (Or.inr (Or.inr (Or.inr (Or.inl q))))))))))))), fun q11 => ⟨fun q => y (z.mpr (Or.inr (Or.inr (Or.inr (Or.inr (Or.inr (Or.inr (Or.inr (Or.inr (Or.inr (Or.inr (Or.inr (Or.inr (Or.inl q)))))))))))))), fun q12 => ⟨fun q => y (z.mpr (Or.inr (Or.inr (Or.inr (Or.inr (Or.inr (Or.inr (Or.inr (Or.inr (Or.inr (Or.inr (Or.inr (Or.inr (Or.inr (Or.inl q))))))))))))))), fun q13 => ⟨fun q => y (z.mpr (Or.inr (Or.inr (Or.inr (Or.inr (Or.inr (Or.inr (Or.inr (Or.inr (Or.inr (Or.inr (Or.inr (Or.inr (Or.inr (Or.inr (Or.inl q)))))))))))))))), fun q14 => ⟨fun q => y (z.mpr (Or.inr (Or.inr (Or.inr (Or.inr (Or.inr (Or.inr (Or.inr (Or.inr (Or.inr (Or.inr (Or.inr (Or.inr (Or.inr (Or.inr (Or.inr (Or.inl q))))))))))))))))), fun q15 => ⟨fun q => y (z.mpr (Or.inr (Or.inr (Or.inr (Or.inr (Or.inr (Or.inr (Or.inr (Or.inr (Or.inr (Or.inr (Or.inr (Or.inr (Or.inr (Or.inr (Or.inr (Or.inr (Or.inl q)))))))))))))))))), fun q16 => ⟨fun q => y (z.mpr (Or.inr (Or.inr (Or.inr (Or.inr (Or.inr (Or.inr (Or.inr (Or.inr (Or.inr (Or.inr (Or.inr (Or.inr (Or.inr (Or.inr (Or.inr (Or.inr (Or.inr (Or.inl q))))))))))))))))))), fun q17 => ⟨fun q => y (z.mpr (Or.inr (Or.inr (Or.inr (Or.inr (Or.inr (Or.inr (Or.inr (Or.inr (Or.inr (Or.inr (Or.inr (Or.inr (Or.inr (Or.inr (Or.inr (Or.inr (Or.inr (Or.inr (Or.inl q)))))))))))))))))))), fun q18 => ⟨fun q => y (z.mpr (Or.inr (Or.inr (Or.inr (Or.inr (Or.inr (Or.inr (Or.inr (Or.inr (Or.inr (Or.inr (Or.inr (Or.inr (Or.inr (Or.inr (Or.inr (Or.inr (Or.inr (Or.inr (Or.inr (Or.inl q))))))))))))))))))))), fun q19 => ⟨fun q20 => hk0 (fun v => by rcases z.mp v with v | v | v | v | v | v | v | v | v | v | v | v | v | v | v | v | v | v | v | v | v <;> contradiction), fun q => y (z.mpr (Or.inr (Or.inr (Or.inr (Or.inr (Or.inr (Or.inr (Or.inr (Or.inr (Or.inr (Or.inr (Or.inr (Or.inr (Or.inr (Or.inr (Or.inr (Or.inr (Or.inr (Or.inr (Or.inr (Or.inr (q))))))))))))))))))))))⟩⟩⟩⟩⟩⟩⟩⟩⟩⟩⟩⟩⟩⟩⟩⟩⟩⟩⟩⟩⟩
theorem c_passBlanks {i : Nat} {K : VH → Prop} (h0 : 0 < d) (h : SrcM V t n) (ha : vI V 6 0 40 = nI i) (hi : i ≤ n) (hk : ∀ V', Fc V V' (fun a f i => a = 6 ∧ f = 0 ∧ i = 40) → vI V' 6 0 40 = nI (skb t (n - i) false i) → K V') : vMV E d M_X12_passBlanks [sl 6 0] V K := by
  have hn := h.2.1
  let S : Nat → Nat → Nat → Prop := fun a f i => a = 6 ∧ f = 0 ∧ i = 40
  have src : ∀ {W : VH}, Fc V W S → SrcM W t n := fun w => h.fc w (fun f i z y => by have := y.2; omega)
  have go : ∀ (k : Nat), (∀ (j : Nat) (W : VH), j + k = n → Fc V W S → vI W 6 0 40 = nI j → (∀ V', Fc V V' S → vI V' 6 0 40 = nI (skb t k false j) → K V') → vwp E d M_X12_passBlanks 2 [some (sl 6 0), some (wi 1), none] [] W (zv K)) ∧ (∀ (j : Nat) (W : VH) (x2 : Int32), j + k = n → Fc V W S → vI W 6 0 40 = nI j → (∀ V', Fc V V' S → vI V' 6 0 40 = nI (skb t k true j) → K V') → vwp E d M_X12_passBlanks 69 [some (sl 6 0), some (wi 1), some (wi x2)] [] W (zv K)) := by
    intro k
    induction k with
    | zero =>
      have o : ∀ (j : Nat) (W : VH) (r : Bool), j + 0 = n → Fc V W S → vI W 6 0 40 = nI j → (∀ V', Fc V V' S → vI V' 6 0 40 = nI (skb t 0 r j) → K V') → vwp E d M_X12_passBlanks 2 [some (sl 6 0), some (wi 1), none] [] W (zv K) := fun j W r e w wa hk => by
        have s := src w
        refine w_X12_passBlanks_2 (by omega) ⟨fun _ => hk W w wa, fun _ => ⟨fun _ => hk W w wa, fun q => absurd (by rw [s.1, wa]; exact nI_le (by omega) (by omega)) q⟩⟩
      refine ⟨fun j W e w wa hk => o j W false e w wa hk, fun j W x2 e w wa hk => ?_⟩
      have s := src w
      refine w_X12_passBlanks_69 (by omega) ⟨fun _ => w_X12_passBlanks_108 (o j W true e w wa hk), fun q => absurd (by rw [s.1, wa]; exact nI_le (by omega) (by omega)) q⟩
    | succ k ih =>
      have step : ∀ (j : Nat) (W : VH), j + (k + 1) = n → Fc V W S → vI W 6 0 40 = nI j → ∀ V1, V1 = wrI W 6 0 40 (vI W 6 0 40 + 1) → Fc V V1 S ∧ vI V1 6 0 40 = nI (j + 1) := fun j W e w wa V1 e1 => by
        refine ⟨w.trans (by rw [e1]; exact Fc_wrI ⟨rfl, rfl, rfl⟩), ?_⟩
        rw [e1, wrI_at, wa, nI_1]
      have outer : ∀ (j : Nat) (W : VH), j + (k + 1) = n → Fc V W S → vI W 6 0 40 = nI j → (∀ V', Fc V V' S → vI V' 6 0 40 = nI (skb t (k + 1) false j) → K V') → vwp E d M_X12_passBlanks 2 [some (sl 6 0), some (wi 1), none] [] W (zv K) := fun j W e w wa hk => by
        have s := src w
        have hb := bt_lt t j
        have d10 := nI_eqc (a := bt t j) 10 (by omega) (by decide)
        have d37 := nI_eqc (a := bt t j) 37 (by omega) (by decide)
        have d32 := nI_eqc (a := bt t j) 32 (by omega) (by decide)
        have d9 := nI_eqc (a := bt t j) 9 (by omega) (by decide)
        have d13 := nI_eqc (a := bt t j) 13 (by omega) (by decide)
        rw [skb] at hk
        have blank : ∀ x2 : Int32, (∀ V', Fc V V' S → vI V' 6 0 40 = nI (skb t k false (j + 1)) → K V') → vwp E d M_X12_passBlanks 50 [some (sl 6 0), some (wi 1), some (wi x2)] [] W (zv K) := fun x2 hk => w_X12_passBlanks_50 (fun V1 e1 => by
          obtain ⟨f1, a1⟩ := step j W e w wa V1 e1
          exact w_X12_passBlanks_108 (ih.1 (j + 1) V1 (by omega) f1 a1 hk))
        refine w_X12_passBlanks_2 (by omega) ⟨fun q => absurd q (by decide), fun _ => ⟨fun q => absurd q (by rw [s.1, wa]; exact nI_ge (by omega) (by omega)), fun _ => ?_⟩⟩
        rw [wa]
        refine c_lookM s (by omega) ⟨fun q => ?_, fun q9 => ⟨fun q => ?_, fun q10 => ⟨fun q => ?_, fun q13 => ⟨fun q32 => ⟨fun q37 => ?_, fun q => ?_⟩, fun q => ?_⟩⟩⟩⟩
        · have y := d9.mp q
          rw [if_neg (by omega), if_neg (by omega), if_pos (Or.inr (Or.inr (Or.inl y)))] at hk
          exact blank _ hk
        · rw [if_pos (d10.mp q)] at hk
          exact blank _ hk
        · have y := d13.mp q
          rw [if_neg (by omega), if_neg (by omega), if_pos (Or.inr (Or.inr (Or.inr y)))] at hk
          exact blank _ hk
        · rw [if_neg (fun z => q10 (d10.mpr z)), if_neg (fun z => q37 (d37.mpr z)), if_neg (fun z => by
            rcases z with z | z | z | z
            · exact absurd z (by decide)
            · exact q32 (d32.mpr z)
            · exact q9 (d9.mpr z)
            · exact q13 (d13.mpr z))] at hk
          exact w_X12_passBlanks_108 (w_X12_passBlanks_2 (by omega) ⟨fun _ => hk W w wa, fun q => absurd rfl q⟩)
        · have y := d37.mp q
          rw [if_neg (by omega), if_pos y] at hk
          refine w_X12_passBlanks_69 (by omega) ⟨fun q => absurd q (by rw [s.1, wa]; exact nI_ge (by omega) (by omega)), fun _ => ?_⟩
          rw [wa]
          refine c_lookM s (by omega) ⟨fun q => absurd (d10.mp q) (by omega), fun _ V3 e3 => ?_⟩
          obtain ⟨f1, a1⟩ := step j W e w wa V3 (by rw [e3, wa])
          exact ih.2 (j + 1) V3 _ (by omega) f1 a1 hk
        · have y := d32.mp q
          rw [if_neg (by omega), if_neg (by omega), if_pos (Or.inr (Or.inl y))] at hk
          exact blank _ hk
      refine ⟨outer, fun j W x2 e w wa hk => ?_⟩
      have s := src w
      have hb := bt_lt t j
      have d10 := nI_eqc (a := bt t j) 10 (by omega) (by decide)
      refine w_X12_passBlanks_69 (by omega) ⟨fun q => absurd q (by rw [s.1, wa]; exact nI_ge (by omega) (by omega)), fun _ => ?_⟩
      rw [wa]
      refine c_lookM s (by omega) ⟨fun q => w_X12_passBlanks_108 (outer j W e w wa (fun V' f a => hk V' f ?_)), fun q V3 e3 => ?_⟩
      · rw [a, skb, skb, if_pos (d10.mp q), if_pos (d10.mp q)]
      · obtain ⟨f1, a1⟩ := step j W e w wa V3 (by rw [e3, wa])
        refine ih.2 (j + 1) V3 _ (by omega) f1 a1 (fun V' f a => hk V' f ?_)
        rw [a, skb, if_neg (fun z => q (d10.mpr z))]
        by_cases c : bt t j = 37
        · rw [if_pos c]
        · rw [if_neg c, if_pos (Or.inl rfl)]
  exact w_X12_passBlanks_0 ((go (n - i)).1 i V (by omega) Fc.refl ha hk)
/-- bytes p .. e - 1 spell text m -/
theorem c_isSpelt {p e m : Nat} {K : Int32 → VH → Prop} (hF : eFr E) (h0 : 4 < d) (h : SrcM V t n) (hm : m < 22) (hp : vI V 6 0 43 = nI p) (he : vI V 6 0 44 = nI e) (hpe : p ≤ e) (hen : e ≤ n) (hy : e - p = txN m → (∀ j, j < txN m → bt t (p + j) = txB m j) → K 1 V) (hn0 : ¬ (e - p = txN m ∧ ∀ j, j < txN m → bt t (p + j) = txB m j) → K 0 V) : vMI E d M_X12_isSpelt [sl 6 0, wt m] V K := by
  have hn := h.2.1
  have tl := (tx_lt m hm).1
  have stop : ∀ k : Int32, ¬ (e - p = txN m ∧ ∀ j, j < txN m → bt t (p + j) = txB m j) → vwp E d M_X12_isSpelt 24 [some (sl 6 0), some (wt m), some (wi 0), some (wi k)] [] V (zi K) := fun k q => w_X12_isSpelt_24 (by omega) ⟨fun _ => ⟨Or.inl rfl, hn0 q⟩, fun z => absurd rfl z⟩
  have go : ∀ (q k : Nat), k + q = txN m → e - p = txN m → (∀ j, j < k → bt t (p + j) = txB m j) → vwp E d M_X12_isSpelt 24 [some (sl 6 0), some (wt m), some (wi 1), some (wi (nI k))] [] V (zi K) := by
    intro q
    induction q with
    | zero =>
      intro k ek el hb
      refine w_X12_isSpelt_24 (by omega) ⟨fun z => absurd z (by decide), fun _ => ⟨hm, c_tlen hm (by omega) ⟨fun _ => ⟨Or.inr rfl, hy el (fun j hj => hb j (by omega))⟩, fun z => absurd (nI_le (by omega) (by omega)) z⟩⟩⟩
    | succ q ih =>
      intro k ek el hb
      refine w_X12_isSpelt_24 (by omega) ⟨fun z => absurd z (by decide), fun _ => ⟨hm, c_tlen hm (by omega) ⟨fun z => absurd z (nI_ge (by omega) (by omega)), fun _ => ?_⟩⟩⟩
      rw [hp, nI_add]
      refine c_lookM h (by omega) (c_charAt hF hm (by omega) (by omega) ?_)
      have hx := bt_lt t (p + k)
      have hx2 := ((tx_lt m hm).2 k (by omega)).2.2
      have de := nI_eqc (a := bt t (p + k)) (txB m k) (by omega) (by show (txAt m k).toBitVec.toNat < _; omega)
      refine ⟨fun z => w_X12_isSpelt_59 ?_, fun z => w_X12_isSpelt_59 ?_⟩
      · rw [nI_1]
        exact stop _ (fun y => z (de.mpr (y.2 k (by omega))))
      · rw [nI_1]
        refine ih (k + 1) (by omega) el (fun j hj => ?_)
        by_cases cj : j = k
        · rw [cj]; exact de.mp z
        · exact hb j (by omega)
  have es : vI V 6 0 44 - vI V 6 0 43 = nI (e - p) := by rw [hp, he]; exact nI_sub hpe
  refine w_X12_isSpelt_0 (by omega) ⟨hm, c_tlen hm (by omega) ?_⟩
  rw [es]
  have de := nI_eqc (a := e - p) (txN m) (by omega) (by omega)
  refine ⟨fun z => w_X12_isSpelt_21 (stop 0 (fun y => z (de.mpr y.1))), fun z => w_X12_isSpelt_21 (go (txN m) 0 (by omega) (de.mp z) (fun j hj => absurd hj (Nat.not_lt_zero j)))⟩
theorem isA_v (c : Nat) (h : isA c = true) : 0 < c ∧ c < 256 := by
  unfold isA at h
  rw [Bool.or_eq_true] at h
  rcases h with h | h
  · have := of_decide_eq_true h; omega
  · have := of_decide_eq_true h; omega
theorem spl_iff {p e w : Nat} (hw : w < 17) (hpe : p ≤ e) (h8 : e - p ≤ 8) (ha : ∀ j, p ≤ j → j < e → isA (bt t j) = true) : (e - p = txN (5 + w) ∧ ∀ j, j < txN (5 + w) → bt t (p + j) = txB (5 + w) j) ↔ wordsF w = nL (pkb (bf t p) (e - p)) := by
  have ew : wordsF w = nL (pkb (txB (5 + w)) (txN (5 + w))) := words_pk ⟨w, hw⟩
  obtain ⟨tl, tb⟩ := tx_lt (5 + w) (by omega)
  rw [ew]
  constructor
  · rintro ⟨h1, h2⟩
    rw [h1, pkb_ext (txN (5 + w)) (fun j hj => (h2 j hj).symm)]
    rfl
  · intro h
    have a : ∀ j, j < e - p → 0 < bf t p j ∧ bf t p j < 256 := fun j hj => isA_v _ (ha (p + j) (by omega) (by omega))
    have b : ∀ j, j < txN (5 + w) → 0 < txB (5 + w) j ∧ txB (5 + w) j < 256 := fun j hj => ⟨(tb j hj).2.1, by have := (tb j hj).2.2; show (txAt (5 + w) j).toBitVec.toNat < 256; omega⟩
    have t8 : txN (5 + w) ≤ 8 := by
      have z : ∀ w : Fin 17, txN (5 + w.val) ≤ 8 := by decide
      exact z ⟨w, hw⟩
    have l1 : pkb (bf t p) (e - p) < 2 ^ 64 := Nat.lt_of_lt_of_le (pkb_lt _ (fun j hj => (a j hj).2)) (Nat.le_trans (Nat.pow_le_pow_right (by decide) h8) (by decide))
    have l2 : pkb (txB (5 + w)) (txN (5 + w)) < 2 ^ 64 := Nat.lt_of_lt_of_le (pkb_lt _ (fun j hj => (b j hj).2)) (Nat.le_trans (Nat.pow_le_pow_right (by decide) t8) (by decide))
    obtain ⟨h1, h2⟩ := pkb_inj _ _ b a (nL_inj l2 l1 h)
    exact ⟨h1.symm, fun j hj => (h2 j hj).symm⟩
theorem lw_ {P : Nat → Bool} {w : Nat} (h : ∀ j, j < w → P j = false) (k : P w = false) : ∀ j, j < w + 1 → P j = false := fun j hj => by
  by_cases c : j = w
  · rw [c]; exact k
  · exact h j (by omega)
/-- a word's number, or a name -/
def wrd (key : Int64) : Nat := match fsb (fun w => decide (wordsF w = key)) 17 with
  | some w => 300 + w
  | none => 1
theorem c_wordOf {p e : Nat} {K : Int32 → VH → Prop} (hF : eFr E) (h0 : 5 < d) (h : SrcM V t n) (hp : vI V 6 0 43 = nI p) (he : vI V 6 0 44 = nI e) (hpe : p ≤ e) (hen : e ≤ n) (h8 : e - p ≤ 8) (ha : ∀ j, p ≤ j → j < e → isA (bt t j) = true) (hk : K (nI (wrd (nL (pkb (bf t p) (e - p))))) V) : vMI E d M_X12_wordOf [sl 6 0] V K := by
  have sp : ∀ (w : Nat) (K' : Int32 → VH → Prop), w < 17 → K' (bI (decide (wordsF w = nL (pkb (bf t p) (e - p))))) V → vMI E (d - 1) M_X12_isSpelt [sl 6 0, wt (5 + w)] V K' := fun w K' hw q => by
    have s := spl_iff (t := t) hw hpe h8 ha
    refine c_isSpelt hF (by omega) h (by omega) hp he hpe hen (fun a b => ?_) (fun a => ?_)
    · rw [decide_eq_true (s.mp ⟨a, b⟩)] at q; exact q
    · rw [decide_eq_false (fun z => a (s.mpr z))] at q; exact q
  have l0 : ∀ j, j < 0 → (fun w => decide (wordsF w = nL (pkb (bf t p) (e - p)))) j = false := fun j hj => absurd hj (Nat.not_lt_zero j)
  have hit : ∀ w, w < 17 → (∀ j, j < w → (fun w => decide (wordsF w = nL (pkb (bf t p) (e - p)))) j = false) → ¬ bI (decide (wordsF w = nL (pkb (bf t p) (e - p)))) = 0 → K (nI (300 + w)) V := fun w hw hl hy => by
    have y : (fun w => decide (wordsF w = nL (pkb (bf t p) (e - p)))) w = true := by
      cases q : decide (wordsF w = nL (pkb (bf t p) (e - p))) with
      | true => exact q
      | false => rw [q] at hy; exact absurd rfl hy
    unfold wrd at hk
    rw [fsb_ne hw hl y] at hk
    exact hk
  have non : (∀ j, j < 17 → (fun w => decide (wordsF w = nL (pkb (bf t p) (e - p)))) j = false) → K 1 V := fun hl => by
    unfold wrd at hk
    rw [fsb_none (n := 17) hl] at hk
    exact hk
  exact w_X12_wordOf_0 (by omega) (sp 0 _ (by decide) ⟨fun z0 => sp 1 _ (by decide) ⟨fun z1 => sp 2 _ (by decide) ⟨fun z2 => sp 3 _ (by decide) ⟨fun z3 => sp 4 _ (by decide) ⟨fun z4 => sp 5 _ (by decide) ⟨fun z5 => sp 6 _ (by decide) ⟨fun z6 => sp 7 _ (by decide) ⟨fun z7 => sp 8 _ (by decide) ⟨fun z8 => sp 9 _ (by decide) ⟨fun z9 => sp 10 _ (by decide) ⟨fun z10 => sp 11 _ (by decide) ⟨fun z11 => sp 12 _ (by decide) ⟨fun z12 => sp 13 _ (by decide) ⟨fun z13 => sp 14 _ (by decide) ⟨fun z14 => sp 15 _ (by decide) ⟨fun z15 => sp 16 _ (by decide) ⟨fun z16 => non (lw_ (lw_ (lw_ (lw_ (lw_ (lw_ (lw_ (lw_ (lw_ (lw_ (lw_ (lw_ (lw_ (lw_ (lw_ (lw_ (lw_ l0 (bI_0.mp z0)) (bI_0.mp z1)) (bI_0.mp z2)) (bI_0.mp z3)) (bI_0.mp z4)) (bI_0.mp z5)) (bI_0.mp z6)) (bI_0.mp z7)) (bI_0.mp z8)) (bI_0.mp z9)) (bI_0.mp z10)) (bI_0.mp z11)) (bI_0.mp z12)) (bI_0.mp z13)) (bI_0.mp z14)) (bI_0.mp z15)) (bI_0.mp z16)), fun y => hit 16 (by decide) (lw_ (lw_ (lw_ (lw_ (lw_ (lw_ (lw_ (lw_ (lw_ (lw_ (lw_ (lw_ (lw_ (lw_ (lw_ (lw_ l0 (bI_0.mp z0)) (bI_0.mp z1)) (bI_0.mp z2)) (bI_0.mp z3)) (bI_0.mp z4)) (bI_0.mp z5)) (bI_0.mp z6)) (bI_0.mp z7)) (bI_0.mp z8)) (bI_0.mp z9)) (bI_0.mp z10)) (bI_0.mp z11)) (bI_0.mp z12)) (bI_0.mp z13)) (bI_0.mp z14)) (bI_0.mp z15)) y⟩, fun y => hit 15 (by decide) (lw_ (lw_ (lw_ (lw_ (lw_ (lw_ (lw_ (lw_ (lw_ (lw_ (lw_ (lw_ (lw_ (lw_ (lw_ l0 (bI_0.mp z0)) (bI_0.mp z1)) (bI_0.mp z2)) (bI_0.mp z3)) (bI_0.mp z4)) (bI_0.mp z5)) (bI_0.mp z6)) (bI_0.mp z7)) (bI_0.mp z8)) (bI_0.mp z9)) (bI_0.mp z10)) (bI_0.mp z11)) (bI_0.mp z12)) (bI_0.mp z13)) (bI_0.mp z14)) y⟩, fun y => hit 14 (by decide) (lw_ (lw_ (lw_ (lw_ (lw_ (lw_ (lw_ (lw_ (lw_ (lw_ (lw_ (lw_ (lw_ (lw_ l0 (bI_0.mp z0)) (bI_0.mp z1)) (bI_0.mp z2)) (bI_0.mp z3)) (bI_0.mp z4)) (bI_0.mp z5)) (bI_0.mp z6)) (bI_0.mp z7)) (bI_0.mp z8)) (bI_0.mp z9)) (bI_0.mp z10)) (bI_0.mp z11)) (bI_0.mp z12)) (bI_0.mp z13)) y⟩, fun y => hit 13 (by decide) (lw_ (lw_ (lw_ (lw_ (lw_ (lw_ (lw_ (lw_ (lw_ (lw_ (lw_ (lw_ (lw_ l0 (bI_0.mp z0)) (bI_0.mp z1)) (bI_0.mp z2)) (bI_0.mp z3)) (bI_0.mp z4)) (bI_0.mp z5)) (bI_0.mp z6)) (bI_0.mp z7)) (bI_0.mp z8)) (bI_0.mp z9)) (bI_0.mp z10)) (bI_0.mp z11)) (bI_0.mp z12)) y⟩, fun y => hit 12 (by decide) (lw_ (lw_ (lw_ (lw_ (lw_ (lw_ (lw_ (lw_ (lw_ (lw_ (lw_ (lw_ l0 (bI_0.mp z0)) (bI_0.mp z1)) (bI_0.mp z2)) (bI_0.mp z3)) (bI_0.mp z4)) (bI_0.mp z5)) (bI_0.mp z6)) (bI_0.mp z7)) (bI_0.mp z8)) (bI_0.mp z9)) (bI_0.mp z10)) (bI_0.mp z11)) y⟩, fun y => hit 11 (by decide) (lw_ (lw_ (lw_ (lw_ (lw_ (lw_ (lw_ (lw_ (lw_ (lw_ (lw_ l0 (bI_0.mp z0)) (bI_0.mp z1)) (bI_0.mp z2)) (bI_0.mp z3)) (bI_0.mp z4)) (bI_0.mp z5)) (bI_0.mp z6)) (bI_0.mp z7)) (bI_0.mp z8)) (bI_0.mp z9)) (bI_0.mp z10)) y⟩, fun y => hit 10 (by decide) (lw_ (lw_ (lw_ (lw_ (lw_ (lw_ (lw_ (lw_ (lw_ (lw_ l0 (bI_0.mp z0)) (bI_0.mp z1)) (bI_0.mp z2)) (bI_0.mp z3)) (bI_0.mp z4)) (bI_0.mp z5)) (bI_0.mp z6)) (bI_0.mp z7)) (bI_0.mp z8)) (bI_0.mp z9)) y⟩, fun y => hit 9 (by decide) (lw_ (lw_ (lw_ (lw_ (lw_ (lw_ (lw_ (lw_ (lw_ l0 (bI_0.mp z0)) (bI_0.mp z1)) (bI_0.mp z2)) (bI_0.mp z3)) (bI_0.mp z4)) (bI_0.mp z5)) (bI_0.mp z6)) (bI_0.mp z7)) (bI_0.mp z8)) y⟩, fun y => hit 8 (by decide) (lw_ (lw_ (lw_ (lw_ (lw_ (lw_ (lw_ (lw_ l0 (bI_0.mp z0)) (bI_0.mp z1)) (bI_0.mp z2)) (bI_0.mp z3)) (bI_0.mp z4)) (bI_0.mp z5)) (bI_0.mp z6)) (bI_0.mp z7)) y⟩, fun y => hit 7 (by decide) (lw_ (lw_ (lw_ (lw_ (lw_ (lw_ (lw_ l0 (bI_0.mp z0)) (bI_0.mp z1)) (bI_0.mp z2)) (bI_0.mp z3)) (bI_0.mp z4)) (bI_0.mp z5)) (bI_0.mp z6)) y⟩, fun y => hit 6 (by decide) (lw_ (lw_ (lw_ (lw_ (lw_ (lw_ l0 (bI_0.mp z0)) (bI_0.mp z1)) (bI_0.mp z2)) (bI_0.mp z3)) (bI_0.mp z4)) (bI_0.mp z5)) y⟩, fun y => hit 5 (by decide) (lw_ (lw_ (lw_ (lw_ (lw_ l0 (bI_0.mp z0)) (bI_0.mp z1)) (bI_0.mp z2)) (bI_0.mp z3)) (bI_0.mp z4)) y⟩, fun y => hit 4 (by decide) (lw_ (lw_ (lw_ (lw_ l0 (bI_0.mp z0)) (bI_0.mp z1)) (bI_0.mp z2)) (bI_0.mp z3)) y⟩, fun y => hit 3 (by decide) (lw_ (lw_ (lw_ l0 (bI_0.mp z0)) (bI_0.mp z1)) (bI_0.mp z2)) y⟩, fun y => hit 2 (by decide) (lw_ (lw_ l0 (bI_0.mp z0)) (bI_0.mp z1)) y⟩, fun y => hit 1 (by decide) (lw_ l0 (bI_0.mp z0)) y⟩, fun y => hit 0 (by decide) l0 y⟩)
end
