/-! prove: the proof of all plans one by one; the class writes it -/
section
variable {sz : Nat → Nat} {fx : Nat → Bool} {ln : Nat → Nat} {nf : Nat → Nat → Nat} {nv : Nat}
/-- k trees, each behind its sign -/
def brL (T : List Nat) : Nat → List Nat
  | 0 => []
  | k + 1 => brL T k ++ ((if k = 0 then 40 else 44) :: T)
def nmL (ln : Nat → Nat) (nf : Nat → Nat → Nat) (v : Nat) : List Nat := (List.range (ln v)).map (nf v)
/-- the tree over the last m vars -/
def trL (sz : Nat → Nat) (fx : Nat → Bool) (ln : Nat → Nat) (nf : Nat → Nat → Nat) (nv : Nat) : Nat → List Nat
  | 0 => [46]
  | m + 1 => if fx (nv - (m + 1)) = true then trL sz fx ln nf nv m else nmL ln nf (nv - (m + 1)) ++ (brL (trL sz fx ln nf nv m) (sz (nv - (m + 1))) ++ [41])
theorem nmL_len {v : Nat} : (nmL ln nf v).length = ln v := by unfold nmL; rw [List.length_map, List.length_range]
theorem brL_len {T : List Nat} : ∀ k, (brL T k).length = k * (T.length + 1) := by
  intro k
  induction k with
  | zero => rw [brL, Nat.zero_mul]; rfl
  | succ k ih => rw [brL, List.length_append, ih, List.length_cons, Nat.succ_mul]
theorem trL_f {m : Nat} (h : fx (nv - (m + 1)) = true) : trL sz fx ln nf nv (m + 1) = trL sz fx ln nf nv m := by rw [trL, if_pos h]
theorem trL_t {m : Nat} (h : fx (nv - (m + 1)) = false) : trL sz fx ln nf nv (m + 1) = nmL ln nf (nv - (m + 1)) ++ (brL (trL sz fx ln nf nv m) (sz (nv - (m + 1))) ++ [41]) := by rw [trL, h, if_neg (by decide)]
theorem trL_len {m : Nat} (h : fx (nv - (m + 1)) = false) : (trL sz fx ln nf nv (m + 1)).length = ln (nv - (m + 1)) + (sz (nv - (m + 1)) * ((trL sz fx ln nf nv m).length + 1) + 1) := by
  rw [trL_t h, List.length_append, List.length_append, nmL_len, brL_len]
  rfl
theorem trL_pos : ∀ m, 0 < (trL sz fx ln nf nv m).length := by
  intro m
  induction m with
  | zero => exact Nat.one_pos
  | succ m ih =>
    cases c : fx (nv - (m + 1)) with
    | true => rw [trL_f c]; exact ih
    | false => rw [trL_len c]; omega
theorem trL_mono (hs : ∀ v, v < nv → 0 < sz v) : ∀ m, m < nv → (trL sz fx ln nf nv m).length ≤ (trL sz fx ln nf nv (m + 1)).length := by
  intro m hm
  cases c : fx (nv - (m + 1)) with
  | true => rw [trL_f c]; exact Nat.le_refl _
  | false =>
    rw [trL_len c]
    have := Nat.le_mul_of_pos_left ((trL sz fx ln nf nv m).length + 1) (hs (nv - (m + 1)) (by omega))
    omega
theorem trL_up (hs : ∀ v, v < nv → 0 < sz v) {a b : Nat} (h : a ≤ b) (hb : b ≤ nv) : (trL sz fx ln nf nv a).length ≤ (trL sz fx ln nf nv b).length := by
  induction b with
  | zero => have : a = 0 := by omega
            subst this; exact Nat.le_refl _
  | succ b ih =>
    by_cases c : a = b + 1
    · subst c; exact Nat.le_refl _
    · exact Nat.le_trans (ih (by omega) (by omega)) (trL_mono hs b (by omega))
end
/-- names of vars: so many letters, these bytes -/
def NmV (R : List SR) (ln : Nat → Nat) (nf : Nat → Nat → Nat) : Prop := ∀ v, v < tcR R 1 → 1 ≤ ln v ∧ ln v ≤ 8 ∧ (∀ j, j < ln v → 0 < nf v j ∧ nf v j < 256) ∧ nmR R 1 v = nL (pkb (nf v) (ln v))
theorem i2b_ii {y : Int32} {b : Nat} (h : y &&& 255 = nI b) (hb : b < 256) : i2b (i2b y) = i2b (nI b) := by
  have a := bt_i2b (fun _ => y) 0
  have e : bt (fun _ => y) 0 = b := by
    unfold bt
    rw [h]
    show (BitVec.ofNat 32 b).toNat = b
    rw [BitVec.toNat_ofNat, Nat.mod_eq_of_lt (by omega)]
  refine i2b_eq ?_
  have c := bt_of (y := b) (i := 0) hb
  unfold bt at a e c
  rw [c, ← e]
  exact a
theorem bof_nm {f : Nat → Nat} {l j : Nat} (hl : l ≤ 8) (hf : ∀ j, j < l → f j < 256) (hj : j < l) : bof (nL (pkb f l)) (l - 1 - j) = i2b (nI (f j)) := by
  have a := pkb_lt (f := f) l hf
  have b : 256 ^ l ≤ 256 ^ 8 := Nat.pow_le_pow_right (by decide) hl
  have e8 : (256 : Nat) ^ 8 = 2 ^ 64 := by decide
  unfold bof
  rw [show (8 : Int32) = nI 8 from rfl, nI_mul, lushr_nL (by omega) (by omega)]
  have ed : pkb f l / 256 ^ (l - 1 - j) = pkb f (j + 1) := by
    have := pkb_div (f := f) (l - 1 - j) (j + 1) (fun i hi => hf i (by omega))
    rw [show j + 1 + (l - 1 - j) = l by omega] at this
    exact this
  rw [ed, pkb]
  exact i2b_ii (low8 (hf j hj)) (hf j hj)
section
variable {E : EE} {d : Nat} {V V' V1 V2 : VH} {q g B : Nat} {t : Nat → Int32} {n : Nat} {R : List SR} {nt fa : Nat → Int32} {h : Nat} {x : Int32} {cs : Nat → Int32} {ln : Nat → Nat} {nf : Nat → Nat → Nat}
/-- the class's tape has grown by L -/
def TLs (V V' : VH) (n : Nat) (L : List Nat) : Prop := Fr V V' (bR 0 0) ∧ Byt V' 0 0 (n + L.length) ∧ (∀ j, j < n → vI V' 0 1 j = vI V 0 1 j) ∧ ∀ j, j < L.length → vI V' 0 1 (n + j) = i2b (nI (L.getD j 0))
theorem gDn_l {L M : List Nat} {j : Nat} (h : j < L.length) : (L ++ M).getD j 0 = L.getD j 0 := by
  rw [List.getD_eq_getElem?_getD, List.getD_eq_getElem?_getD, List.getElem?_append_left h]
theorem gDn_r {L M : List Nat} {j : Nat} : (L ++ M).getD (L.length + j) 0 = M.getD j 0 := by
  rw [List.getD_eq_getElem?_getD, List.getD_eq_getElem?_getD, List.getElem?_append_right (Nat.le_add_right _ _), Nat.add_sub_cancel_left]
theorem TLs.trans {L M : List Nat} (h : TLs V V1 n L) (k : TLs V1 V2 (n + L.length) M) : TLs V V2 n (L ++ M) := by
  obtain ⟨h1, h2, h3, h4⟩ := h
  obtain ⟨k1, k2, k3, k4⟩ := k
  refine ⟨h1.trans k1, by rw [List.length_append, ← Nat.add_assoc]; exact k2, fun j hj => by rw [k3 j (by omega), h3 j hj], fun j hj => ?_⟩
  rw [List.length_append] at hj
  by_cases c : j < L.length
  · rw [k3 (n + j) (by omega), h4 j c, gDn_l c]
  · obtain ⟨i, rfl⟩ : ∃ i, j = L.length + i := ⟨j - L.length, by omega⟩
    rw [← Nat.add_assoc, k4 i (by omega), gDn_r]
theorem c_addT {y : Int32} {b : Nat} {K : VH → Prop} (h0 : 2 < d) (h : Byt V 0 0 n) (hn : n < 30000) (hy : i2b (i2b y) = i2b (nI b)) (hk : ∀ V', TLs V V' n [b] → K V') : vMV E d M_X0_add [sl 0 0, wi y] V K := by
  refine c_add h0 h hn (fun V' bx e => hk V' ⟨bx.1, bx.2.1, bx.2.2, fun j hj => ?_⟩)
  have : j = 0 := by
    have : j < 1 := hj
    omega
  subst this
  rw [Nat.add_zero, e, hy]; rfl
theorem c_addN {v : Nat} {K : VH → Prop} (h0 : 3 < d) (hN : NmV R ln nf) (hv : v < tcR R 1) (h : Byt V 0 0 n) (hn : n + 8 ≤ 30000) (hk : ∀ V', TLs V V' n (nmL ln nf v) → K V') : vMV E d M_X0_addNumber [sl 0 0, wj (nmR R 1 v), wi (nI (ln v))] V K := by
  obtain ⟨n1, n8, nb, ne⟩ := hN v hv
  rw [ne]
  refine c_addNumber h0 h n8 (by omega) (fun V' bx e => hk V' ⟨bx.1, by rw [nmL_len]; exact bx.2.1, bx.2.2, fun j hj => ?_⟩)
  rw [nmL_len] at hj
  rw [e j hj, bof_nm n8 (fun j hj => (nb j hj).2) hj]
  congr 2
  unfold nmL
  rw [List.getD_eq_getElem?_getD, List.getElem?_map, List.getElem?_range hj]
  rfl
/-- what the class needs of a problem to write -/
def WrC (V : VH) (g : Nat) (R : List SR) (x : Int32) : Prop := Sp V g (tcR R 1) (szR R) (vlR R) ∧ vI V g 0 9 = x ∧ ∀ v, v < tcR R 1 → vJ V g 3 (24 + v) = nmR R 1 v
theorem WrC.fr {L : List Nat} (h : WrC V g R x) (k : TLs V V' n L) : WrC V' g R x := by
  obtain ⟨h1, h2, h3⟩ := h
  have ng : ∀ f, ¬ bR 0 0 g f := fun f y => h1.1.2.1 y.1
  exact ⟨h1.fro (by rw [k.1.1]) (fun f _ => k.1.i (ng f)), by rw [k.1.i (ng 0)]; exact h2, fun v hv => by rw [k.1.j (ng 3)]; exact h3 v hv⟩
theorem c_fits {K : Int32 → VH → Prop} (h0 : 0 < d) (hw : WrC V g R x) (hN : NmV R ln nf) (hk0 : 20000 < (trL (szR R) (tst x) ln nf (tcR R 1) (tcR R 1)).length → K 0 V) (hk1 : (trL (szR R) (tst x) ln nf (tcR R 1) (tcR R 1)).length ≤ 20000 → K 1 V) : vMI E d M_X4_fits [sl 0 20, sl g 0] V K := by
  obtain ⟨sp, h9, h3⟩ := hw
  have hg := sp.1
  have n12 := sp.2.2.1
  have go : ∀ m v, m + v = tcR R 1 → (trL (szR R) (tst x) ln nf (tcR R 1) m).length ≤ 20000 → vwp E d M_X4_fits 12 [some (sl 0 20), some (sl g 0), some (wi (nI (trL (szR R) (tst x) ln nf (tcR R 1) m).length)), some (wi (nI v - 1)), none] [] V (zi K) := by
    intro m v
    induction v generalizing m with
    | zero =>
      intro e le
      have : m = tcR R 1 := by omega
      subst this
      exact w_X4_fits_12 hg h0 ⟨fun _ => hk1 le, fun z => absurd (by decide) z⟩
    | succ v ih =>
      intro e le
      have hv : v < tcR R 1 := by omega
      have em : tcR R 1 - (m + 1) = v := by omega
      have sv := sp.2.2.2.2.2 v hv
      obtain ⟨n1, n8, nb, ne⟩ := hN v hv
      rw [nI_pred]
      refine w_X4_fits_12 hg h0 ⟨fun z => absurd z (nI_pos (by omega)), fun _ => ?_⟩
      have step : ∀ l, (trL (szR R) (tst x) ln nf (tcR R 1) (m + 1)).length = l → l ≤ 20000 → vwp E d M_X4_fits 75 [some (sl 0 20), some (sl g 0), some (wi (nI l)), some (wi (nI v)), none] [] V (zi K) := fun l el ll => by
        refine w_X4_fits_75 hg ?_
        rw [show nI v + (-1 : Int32) = nI v - 1 by rw [Int32.sub_eq_add_neg], ← el]
        exact ih (m + 1) (by omega) (by rw [el]; exact ll)
      rw [h9, bit_is _ (show v < 32 by omega)]
      cases c : tst x v with
      | true =>
        refine ⟨fun z => absurd z (by decide), fun _ => step _ (by rw [trL_f (by rw [em]; exact c)]) le⟩
      | false =>
        refine ⟨fun _ => ?_, fun z => absurd rfl z⟩
        have e24 : (24 : Int32) + nI v = nI (24 + v) := by rw [show (24 : Int32) = nI 24 from rfl, nI_add]
        have tl := trL_len (sz := szR R) (fx := tst x) (ln := ln) (nf := nf) (nv := tcR R 1) (m := m) (by rw [em]; exact c)
        rw [em] at tl
        generalize el : (trL (szR R) (tst x) ln nf (tcR R 1) m).length = l at *
        rw [e24, nI_clamp (show 24 + v < 2 ^ 31 by omega), nI_clamp (show v < 2 ^ 31 by omega), h3 v hv, ne, sv.1]
        refine ⟨vp_in_nI (by omega) (by decide), vp_in_nI (by omega) (by decide), c_letters n8 nb ?_⟩
        have s1 : 1 ≤ szR R v := sv.2.1
        have s20 : szR R v ≤ 20 := sv.2.2.1
        have ml : szR R v * l ≤ 20 * 20000 := Nat.mul_le_mul s20 le
        have eq : nI (ln v) + 2 + nI (szR R v) * nI l + nI (szR R v) - 1 = nI (ln v + (szR R v * (l + 1) + 1)) := by
          rw [show (2 : Int32) = nI 2 from rfl, show (1 : Int32) = nI 1 from rfl, nI_mul, nI_add, nI_add, nI_add, nI_sub (by omega)]
          congr 1
          rw [Nat.mul_add]
          omega
        rw [eq]
        have bl : ln v + (szR R v * (l + 1) + 1) < 2 ^ 31 := by rw [Nat.mul_add]; omega
        refine ⟨fun z => step _ tl (Nat.le_of_not_lt (fun u => absurd z (nI_ge (b := ln v + (szR R v * (l + 1) + 1)) (a := 20000) u bl))), fun z => hk0 ?_⟩
        have big : 20000 < ln v + (szR R v * (l + 1) + 1) := Nat.lt_of_not_le (fun u => z (nI_le (b := 20000) u (by decide)))
        have up := trL_up (sz := szR R) (fx := tst x) (ln := ln) (nf := nf) (nv := tcR R 1) sp.pos (show m + 1 ≤ tcR R 1 by omega) (Nat.le_refl _)
        omega
  refine w_X4_fits_0 hg ?_
  rw [sp.2.1]
  exact go 0 (tcR R 1) (Nat.zero_add _) (by show 1 ≤ 20000; decide)
theorem c_wtree (hN : NmV R ln nf) : ∀ (m : Nat) (d : Nat) (V : VH) (n : Nat) (x2 : Int32) (K : VH → Prop), m + 5 < d → m ≤ tcR R 1 → WrC V g R x → Byt V 0 0 n → n + (trL (szR R) (tst x) ln nf (tcR R 1) m).length ≤ 20000 → (∀ V', TLs V V' n (trL (szR R) (tst x) ln nf (tcR R 1) m) → K V') → vwp E d M_X4_writeTree 2 [some (sl g 0), some (sl 0 0), some (wi x2), some (wi (nI (tcR R 1 - m))), none, none, none] [] V (zv K) := by
  intro m
  induction m with
  | zero =>
    intro d V n x2 K h0 hm hw tp le hk
    obtain ⟨sp, h9, h3⟩ := hw
    have hg := sp.1
    have n12 := sp.2.2.1
    refine w_X4_writeTree_2 hg tp.1 ⟨fun _ => w_X4_writeTree_30 hg tp.1 (by omega) ⟨fun _ => w_X4_writeTree_47 hg tp.1 (by omega) (c_addT (b := 46) (by omega) tp (by have : (trL (szR R) (tst x) ln nf (tcR R 1) 0).length = 1 := rfl; omega) (by decide) (fun V' k => hk V' k)), fun z => absurd (by rw [sp.2.1]; exact nI_le (Nat.le_refl _) (by omega)) z⟩, fun z => absurd (by rw [sp.2.1]; exact nI_le (Nat.le_refl _) (by omega)) z⟩
  | succ m ih =>
    intro d V n x2 K h0 hm hw tp le hk
    have hw0 := hw
    obtain ⟨sp, h9, h3⟩ := hw
    have hg := sp.1
    have n12 := sp.2.2.1
    generalize ev : tcR R 1 - (m + 1) = v at *
    have hv : v < tcR R 1 := by omega
    have ev1 : tcR R 1 - m = v + 1 := by omega
    rw [ev1] at ih
    have sv := sp.2.2.2.2.2 v hv
    obtain ⟨n1, n8, nb, ne⟩ := hN v hv
    refine w_X4_writeTree_2 hg tp.1 ⟨fun z => absurd z (by rw [sp.2.1]; exact nI_ge hv (by omega)), fun _ => ?_⟩
    rw [h9, bit_is _ (show v < 32 by omega)]
    cases c : tst x v with
    | true =>
      rw [trL_f (by rw [ev]; exact c)] at le hk
      refine ⟨fun z => absurd z (by decide), fun _ => ?_⟩
      rw [nI_1]
      exact ih d V n x2 K (by omega) (by omega) hw0 tp le hk
    | false =>
      have tt := trL_t (sz := szR R) (fx := tst x) (ln := ln) (nf := nf) (nv := tcR R 1) (m := m) (by rw [ev]; exact c)
      rw [ev] at tt
      have ttl := congrArg List.length tt
      rw [List.length_append, List.length_append, brL_len, nmL_len] at ttl
      have one : ([41] : List Nat).length = 1 := rfl
      rw [one] at ttl
      rw [ttl] at le
      rw [tt] at hk
      generalize eT : trL (szR R) (tst x) ln nf (tcR R 1) m = T at *
      refine ⟨fun _ => ?_, fun z => absurd rfl z⟩
      have e24 : (24 : Int32) + nI v = nI (24 + v) := by rw [show (24 : Int32) = nI 24 from rfl, nI_add]
      refine w_X4_writeTree_30 hg tp.1 (by omega) ⟨fun z => absurd z (by rw [sp.2.1]; exact nI_ge hv (by omega)), fun _ => ⟨fun _ => ?_, fun z => absurd (Int32.not_le.mp (nI_ge (b := 12) (show v < 12 by omega) (by decide))) z⟩⟩
      rw [e24, nI_clamp (show 24 + v < 2 ^ 31 by omega), h3 v hv]
      refine ⟨vp_in_nI (by omega) (by decide), ?_⟩
      have lt : ∀ {K : Int32 → VH → Prop}, K (nI (ln v)) V → vMI E (d - 1) M_X3_letters [wj (nmR R 1 v)] V K := fun hK => by rw [ne]; exact c_letters n8 nb hK
      refine lt (c_addN (by omega) hN hv tp (by omega) (fun V7 k7 => ?_))
      -- the branches
      have go : ∀ r k W, k + r = szR R v → TLs V W n (nmL ln nf v ++ brL T k) → vwp E d M_X4_writeTree 79 [some (sl g 0), some (sl 0 0), some (wi x2), some (wi (nI v)), some (wj (nmR R 1 v)), none, some (wi (nI k))] [] W (zv K) := by
        intro r
        induction r with
        | zero =>
          intro k W ek kw
          have : k = szR R v := by omega
          subst this
          have sw := (hw0.fr kw).1
          have lw : (nmL ln nf v ++ brL T (szR R v)).length = ln v + szR R v * (T.length + 1) := by rw [List.length_append, nmL_len, brL_len]
          have tw := kw.2.1
          rw [lw] at tw
          refine w_X4_writeTree_79 sw.1 tw.1 (by omega) ?_
          rw [nI_clamp (show v < 2 ^ 31 by omega), (sw.2.2.2.2.2 v hv).1]
          refine ⟨vp_in_nI (by omega) (by decide), fun _ => c_addT (b := 41) (by omega) tw (by omega) (by decide) (fun V' k' => ?_), fun z => absurd (nI_le (Nat.le_refl _) (by omega)) z⟩
          refine hk V' ?_
          rw [← List.append_assoc]
          exact kw.trans (by rw [lw]; exact k')
        | succ r ihr =>
          intro k W ek kw
          have sw := (hw0.fr kw).1
          have lw : (nmL ln nf v ++ brL T k).length = ln v + k * (T.length + 1) := by rw [List.length_append, nmL_len, brL_len]
          have tw := kw.2.1
          rw [lw] at tw
          have room : (k + 1) * (T.length + 1) ≤ szR R v * (T.length + 1) := Nat.mul_le_mul_right _ (by omega)
          have room2 : (k + 1) * (T.length + 1) = k * (T.length + 1) + (T.length + 1) := Nat.succ_mul _ _
          have sign : ∀ (y : Int32) (b : Nat), b = (if k = 0 then 40 else 44) → i2b (i2b y) = i2b (nI b) → vwp E d M_X4_writeTree 106 [some (sl g 0), some (sl 0 0), some (wi x2), some (wi (nI v)), some (wj (nmR R 1 v)), none, some (wi (nI k))] [wi y, sl 0 0] W (zv K) := fun y b eb hy => by
            refine w_X4_writeTree_106 sw.1 tw.1 tw.1 (by omega) (c_addT (by omega) tw (by omega) hy (fun W1 k1 => ?_))
            have kw1 : TLs V W1 n ((nmL ln nf v ++ brL T k) ++ [b]) := kw.trans (by rw [lw]; exact k1)
            have lw1 : ((nmL ln nf v ++ brL T k) ++ [b]).length = ln v + k * (T.length + 1) + 1 := by rw [List.length_append, lw]; rfl
            have tw1 := kw1.2.1
            rw [lw1] at tw1
            rw [nI_1]
            refine w_X4_writeTree_0 (hw0.fr kw1).1.1 tw1.1 (ih (d - 1) W1 _ _ _ (by omega) (by omega) (hw0.fr kw1) tw1 (by omega) (fun W2 k2 => ?_))
            have kw2 := kw1.trans (by rw [lw1]; exact k2)
            rw [nI_1]
            refine ihr (k + 1) W2 (by omega) ?_
            have : nmL ln nf v ++ brL T (k + 1) = ((nmL ln nf v ++ brL T k) ++ [b]) ++ T := by rw [brL, ← eb]; simp
            rw [this]
            exact kw2
          refine w_X4_writeTree_79 sw.1 tw.1 (by omega) ?_
          rw [nI_clamp (show v < 2 ^ 31 by omega), (sw.2.2.2.2.2 v hv).1]
          refine ⟨vp_in_nI (by omega) (by decide), fun z => absurd z (nI_ge (by omega) (by have := sv.2.2.1; omega)), fun _ => ⟨fun z => sign 44 44 (by rw [if_neg (fun u => z (by rw [u]; rfl))]) (by decide), fun z => sign 40 40 (by rw [if_pos ((nI_eq (b := 0) (by have := sv.2.2.1; omega) (by decide)).mp z)]) (by decide)⟩⟩
      exact go (szR R v) 0 V7 (Nat.zero_add _) (by rw [brL, List.append_nil]; exact k7)
end
