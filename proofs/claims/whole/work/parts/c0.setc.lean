/-! the class's sets of hard rules -/
theorem nz_b (b : Bool) : nz (bI b) = bI b := by cases b <;> decide
theorem fA_list {A : Nat → Bool} {b : Nat} : fA A (fun (L : List Nat) p => L ++ [p]) [] b = (List.range b).filter A := by
  rw [fA_foldl]
  have : ∀ (l m : List Nat), l.foldl (fun L p => L ++ [p]) m = m ++ l := by
    intro l
    induction l with
    | nil => intro m; exact (List.append_nil m).symm
    | cons a l ih => intro m; show List.foldl _ (m ++ [a]) l = _; rw [ih, List.append_assoc]; rfl
  rw [this, List.nil_append]
def lrS (a f j : Nat) : Prop := a = 0 ∧ (f = 10 ∧ j = 4 ∨ f = 14)
def seR (a f j : Nat) : Prop := a = 0 ∧ (f = 10 ∧ j = 4 ∨ f = 14 ∨ f = 15)
/-- the class has listed the hard rules -/
def LsH (V : VH) (R : List SR) : Prop := vI V 0 10 4 = nI (HL R).length ∧ ∀ k, k < (HL R).length → vI V 0 14 k = nI ((HL R).getD k 0)
section
variable {E : EE} {d : Nat} {V V' V1 V2 : VH} {q B : Nat} {t : Nat → Int32} {n : Nat} {R : List SR} {nt fa : Nat → Int32} {h h' : Nat} {x b : Int32} {cs : Nat → Int32}
theorem PbI.lr {S : Nat → Nat → Nat → Prop} (hI : PbI V q t n R nt fa h x cs) (k : Fc V V' S) (z : ∀ a f j, S a f j → a = 0 ∧ 7 ≤ f ∧ f ≤ 22) : PbI V' q t n R nt fa h x cs := by
  have n6 : ∀ f j, ¬ S 6 f j := fun f j y => absurd (z _ _ _ y).1 (by decide)
  refine hI.en (k.mono (fun a f j y => Or.inr (Or.inr ⟨(z _ _ _ y).1, Or.inr (Or.inl (z _ _ _ y).2)⟩))) (hI.2.2.2.2.2.2.1.cl k n6) ⟨?_, hI.hnd.2⟩ ⟨hI.hq.1, fun v hv => by rw [k.i (n6 _ _)]; exact hI.hq.2 v hv⟩
  rw [k.i (fun y => absurd (z _ _ _ y).1 (by omega))]; exact hI.hnd.1
theorem c_listRules {K : VH → Prop} (hI : PbI V q t n R nt fa h x cs) (hk : ∀ V', Fc V V' lrS → LsH V' R → K V') : vMV E d M_X1_listRules [sl 0 10, sl (q + 1) 0] V K := by
  have hs := hI.1
  have hh := hI.2.1.2.2.2.2.1.1
  have h12 := HL_12 hs hh
  have go : ∀ m r V1, r + m = 24 → Fc V V1 lrS → vI V1 0 10 4 = nI (hL R r).length → (∀ k, k < (hL R r).length → vI V1 0 14 k = nI ((hL R r).getD k 0)) → vwp E d M_X1_listRules 7 [some (sl 0 10), some (sl (q + 1) 0), some (wi (nI r))] [] V1 (zv K) := by
    intro m
    induction m with
    | zero =>
      intro r V1 e f1 e4 e14
      have : r = 24 := by omega
      subst this
      exact w_X1_listRules_7 (by rw [f1.l]; exact hI.2.1.1) ⟨fun _ => hk V1 f1 ⟨e4, e14⟩, fun z => absurd (by decide) z⟩
    | succ m ih =>
      intro r V1 e f1 e4 e14
      have hr : r < 24 := by omega
      have hg1 : PG (vL V1) (q + 1) := by rw [f1.l]; exact hI.2.1.1
      have e9 : vI V1 (q + 1) 9 0 = vI V (q + 1) 9 0 := f1.i (fun y => absurd y.1 (by omega))
      have hls := hL_s R r
      refine w_X1_listRules_7 hg1 ⟨fun z => absurd z (nI_ge (b := 24) hr (by decide)), fun _ => ?_⟩
      rw [e9]
      refine ⟨fun z => ?_, fun z => ?_⟩
      · have c : hdB R r = false := by rw [← hd_t hs hh (by omega)]; exact (tst_0 _ (by omega)).mp z
        rw [if_neg (by rw [c]; decide)] at hls
        refine w_X1_listRules_53 hg1 ?_
        rw [nI_1]
        exact ih (r + 1) V1 (by omega) f1 (by rw [hls]; exact e4) (by rw [hls]; exact e14)
      · have c : hdB R r = true := by rw [← hd_t hs hh (by omega)]; exact (tst_1 _ (by omega)).mp z
        rw [if_pos c] at hls
        have l1 : (hL R r).length + 1 ≤ 12 := by
          have := hL_le R (show r + 1 ≤ 24 by omega)
          rw [hls, List.length_append] at this
          have : (hL R r).length + 1 ≤ (HL R).length := this
          omega
        rw [e4, nI_clamp (show (hL R r).length < 2 ^ 31 by omega), nI_1]
        refine ⟨fun y => absurd y (nI_ge (b := 12) (by omega) (by decide)), fun _ V2 e2 => ⟨vp_in_nI (by omega) (by decide), fun V3 e3 => w_X1_listRules_53 ?_ ?_⟩⟩
        · rw [e3, e2]; exact hg1
        · rw [nI_1]
          have k2 : Fc V1 V2 lrS := by rw [e2]; exact Fc_wrI ⟨rfl, Or.inl ⟨rfl, rfl⟩⟩
          have k3 : Fc V2 V3 lrS := by rw [e3]; exact Fc_wrI ⟨rfl, Or.inr rfl⟩
          refine ih (r + 1) V3 (by omega) (f1.trans (k2.trans k3)) ?_ (fun k hk => ?_)
          · rw [hls, List.length_append, e3, wrI_ne (fun z => by omega), e2, wrI_at]; rfl
          · rw [hls] at hk ⊢
            rw [getD_app hk]
            rw [List.length_append] at hk
            have hk : k < (hL R r).length + 1 := hk
            by_cases y : k < (hL R r).length
            · rw [if_pos y, e3, wrI_ne (fun z => by omega), e2, wrI_ne (fun z => by omega)]; exact e14 k y
            · have : k = (hL R r).length := by omega
              rw [if_neg y, this, e3, wrI_at]
  exact w_X1_listRules_0 hI.2.1.1 (fun V1 e1 => go 24 0 V1 rfl (by rw [e1]; exact Fc_wrI ⟨rfl, Or.inl ⟨rfl, rfl⟩⟩) (by rw [e1, wrI_at]; rfl) (fun k hk => absurd hk (Nat.not_lt_zero k)))
theorem sh_1 (y : Bool) (v : Nat) : (if y = true then (1 : Int32) else 0) <<< (nI v &&& 31) = if y = true then (1 : Int32) <<< (nI v &&& 31) else 0 := by
  cases y with
  | true => rfl
  | false => exact Int32.zero_shiftLeft
theorem c_among {p : Nat} {K : Int32 → VH → Prop} (h12 : (HL R).length ≤ 12) (hl : LsH V R) (hk : K (mkQ R nt fa p) V) : vMI E d M_X1_among [sl 0 10, wi (stQ R nt fa p)] V K := by
  have go : ∀ m k, k + m = (HL R).length → vwp E d M_X1_among 4 [some (sl 0 10), some (wi (stQ R nt fa p)), some (wi (mkI (mkb R nt fa p) k)), some (wi (nI k))] [] V (zi K) := by
    intro m
    induction m with
    | zero =>
      intro k e
      have : k = (HL R).length := by omega
      subst this
      refine w_X1_among_4 ⟨fun _ => hk, fun z => absurd ?_ z⟩
      rw [hl.1]; exact nI_le (Nat.le_refl _) (by omega)
    | succ m ih =>
      intro k e
      have hk' : k < (HL R).length := by omega
      have i := ih (k + 1) (by omega)
      rw [mkI_s] at i
      refine w_X1_among_4 ⟨fun z => absurd z (by rw [hl.1]; exact nI_ge hk' (by omega)), fun _ => ⟨vp_in_nI (by omega) (by decide), ?_⟩⟩
      rw [nI_clamp (show k < 2 ^ 31 by omega), hl.2 k hk', bit_is _ (by have := (HL_mem hk').2.1; omega), sh_1, nI_1]
      exact i
  exact w_X1_among_0 (go (HL R).length 0 (Nat.zero_add _))
/-- a set by the rules' numbers -/
def bnI (L : List Nat) (y : Int32) : Nat → Int32
  | 0 => 0
  | h + 1 => bnI L y h ||| (if tst y h = true then (1 : Int32) <<< (nI (L.getD h 0) &&& 31) else 0)
theorem bnI_s {L : List Nat} {y : Int32} {h : Nat} : bnI L y (h + 1) = bnI L y h ||| (if tst y h = true then (1 : Int32) <<< (nI (L.getD h 0) &&& 31) else 0) := by rw [bnI]
theorem bnI_0 {L : List Nat} : ∀ h, bnI L 0 h = 0 := by
  intro h
  induction h with
  | zero => rw [bnI]
  | succ h ih => rw [bnI_s, ih, tst_z, if_neg (by decide)]; rfl
theorem c_byNumber {y : Int32} {K : Int32 → VH → Prop} (h12 : (HL R).length ≤ 12) (hl : LsH V R) (hk : K (bnI (HL R) y (HL R).length) V) : vMI E d M_X1_byNumber [sl 0 10, wi y] V K := by
  have go : ∀ m k, k + m = (HL R).length → vwp E d M_X1_byNumber 4 [some (sl 0 10), some (wi y), some (wi (bnI (HL R) y k)), some (wi (nI k))] [] V (zi K) := by
    intro m
    induction m with
    | zero =>
      intro k e
      have : k = (HL R).length := by omega
      subst this
      refine w_X1_byNumber_4 ⟨fun _ => hk, fun z => absurd ?_ z⟩
      rw [hl.1]; exact nI_le (Nat.le_refl _) (by omega)
    | succ m ih =>
      intro k e
      have hk' : k < (HL R).length := by omega
      have i := ih (k + 1) (by omega)
      rw [bnI_s] at i
      refine w_X1_byNumber_4 ⟨fun z => absurd z (by rw [hl.1]; exact nI_ge hk' (by omega)), fun _ => ⟨vp_in_nI (by omega) (by decide), ?_⟩⟩
      rw [nI_clamp (show k < 2 ^ 31 by omega), hl.2 k hk', bit_is _ (by omega), sh_1, nI_1]
      exact i
  exact w_X1_byNumber_0 (go (HL R).length 0 (Nat.zero_add _))
/-- the class knows which sets suffice -/
def SfC (V : VH) (R : List SR) (nt fa : Nat → Int32) (L : List Nat) : Prop := LsH V R ∧ 4096 ≤ vN V 0 15 ∧ vN V 0 15 < 2 ^ 31 ∧ ∀ m, m < 2 ^ (HL R).length → vI V 0 15 m = bI (suB R nt fa L (nI m))
theorem two12 {H : Nat} (h : H ≤ 12) : 2 ^ H ≤ 4096 := Nat.pow_le_pow_right (n := 2) (by decide) h
theorem c_isClash {y : Int32} {L : List Nat} {K : Int32 → VH → Prop} (h12 : (HL R).length ≤ 12) (hS : SfC V R nt fa L) (hk : K (bI (clB R nt fa L y)) V) : vMI E d M_X1_isClash [sl 0 10, wi y, wi (nI (2 ^ (HL R).length - 1))] V K := by
  have p2 := two12 h12
  have p0 : 0 < 2 ^ (HL R).length := Nat.two_pow_pos _
  have tt : ∀ v, v < 32 → tst (nI (2 ^ (HL R).length - 1) &&& (y ^^^ (-1))) v = (decide (v < (HL R).length) && !tst y v) := fun v hv => by
    rw [tst_and, tst_nI hv, Nat.testBit_two_pow_sub_one, tst_xor, tst_n1 hv, Bool.xor_true]
  obtain ⟨m, hm, e⟩ := set_nI (x := nI (2 ^ (HL R).length - 1) &&& (y ^^^ (-1))) (H := (HL R).length) (fun v hv h32 => by rw [tt v h32, decide_eq_false (by omega), Bool.false_and])
  have neg : clB R nt fa L y = !suB R nt fa L (nI m) := cl_neg (fun v hv => by rw [← e, tt v (by omega), decide_eq_true hv, Bool.true_and])
  rw [neg] at hk
  obtain ⟨_, n1, n2, n3⟩ := hS
  refine w_X1_isClash_0 ?_
  rw [e, nI_clamp (show m < 2 ^ 31 by omega), n3 m hm]
  refine ⟨fun z => absurd z (nI_pos (by omega)), fun _ => ⟨fun z => absurd z (nI_ge (by omega) (by omega)), fun _ => ⟨vp_in_nI (by omega) n2, fun z => ?_, fun z => w_X1_isClash_28 ?_⟩⟩⟩
  · rw [bI_1.mp z] at hk; exact hk
  · rw [bI_0.mp z] at hk; exact hk
end
