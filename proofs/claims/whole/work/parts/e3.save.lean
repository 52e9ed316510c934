/-! save: the reference writes a row -/
def sv6 (a f j : Nat) : Prop := a = 6 ∧ (f = 0 ∧ j = 89 ∨ f = 59)
section
variable {E : EE} {d : Nat} {V V' V1 V2 : VH} {q B : Nat} {t : Nat → Int32} {n : Nat} {R : List SR} {nt fa : Nat → Int32} {h h' : Nat} {x b : Int32} {cs : Nat → Int32}
theorem c_storeBytes {w : Int64} {K : VH → Prop} {k s : Nat} (h8 : k ≤ 8) (hs : vI V 6 0 89 = nI s) (h20 : s + k ≤ 20000) (hk : ∀ V', Fc V V' (fun a f j => a = 6 ∧ (f = 0 ∧ j = 89 ∨ f = 59 ∧ s ≤ j)) → vI V' 6 0 89 = nI (s + k) → (∀ j, j < k → vI V' 6 59 (s + j) = (bofL w k).getD j 0) → K V') : vMV E d M_X12_storeBytes [sl 6 0, wj w, wi (nI k)] V K := by
  have go : ∀ (i : Nat) (V1 : VH), i ≤ k → Fc V V1 (fun a f j => a = 6 ∧ (f = 0 ∧ j = 89 ∨ f = 59 ∧ s ≤ j)) → vI V1 6 0 89 = nI (s + (k - i)) → (∀ j, j < k - i → vI V1 6 59 (s + j) = bof w (k - 1 - j)) → vwp E d M_X12_storeBytes 5 [some (sl 6 0), some (wj w), none, some (wi (nI k)), some (wi (nI i - 1))] [] V1 (zv K) := by
    intro i
    induction i with
    | zero =>
      intro V1 hi f1 e1 r1
      refine w_X12_storeBytes_5 ⟨fun _ => hk V1 f1 e1 (fun j hj => by rw [bofL_at hj]; exact r1 j hj), fun z => absurd (by decide) z⟩
    | succ i ih =>
      intro V1 hi f1 e1 r1
      rw [show nI (i + 1) - 1 = nI i from nI_pred i]
      refine w_X12_storeBytes_5 ⟨fun z => absurd z (nI_pos (by omega)), fun _ => ?_⟩
      rw [e1]
      refine ⟨vp_in_nI (by omega) (by decide), fun V2 e2 V3 e3 => ?_⟩
      rw [nI_clamp (show s + (k - (i + 1)) < 2 ^ 31 by omega), byte_eq w (show i < 8 by omega)] at e2
      have e21 : vI V2 6 0 89 = nI (s + (k - (i + 1))) := by rw [e2, wrI_ne (fun z => by omega)]; exact e1
      rw [e21, nI_1] at e3
      rw [show nI i + (-1) = nI i - 1 from (Int32.sub_eq_add_neg _ _).symm]
      have k2 : Fc V1 V2 (fun a f j => a = 6 ∧ (f = 0 ∧ j = 89 ∨ f = 59 ∧ s ≤ j)) := by rw [e2]; exact Fc_wrI ⟨rfl, Or.inr ⟨rfl, by omega⟩⟩
      have k3 : Fc V2 V3 (fun a f j => a = 6 ∧ (f = 0 ∧ j = 89 ∨ f = 59 ∧ s ≤ j)) := by rw [e3]; exact Fc_wrI ⟨rfl, Or.inl ⟨rfl, rfl⟩⟩
      refine ih V3 (by omega) (f1.trans (k2.trans k3)) (by rw [e3, wrI_at]; congr 1; omega) (fun j hj => ?_)
      by_cases c : j = k - (i + 1)
      · rw [c, e3, wrI_ne (fun z => by omega), e2, wrI_at, show k - 1 - (k - (i + 1)) = i by omega]; rfl
      · rw [e3, wrI_ne (fun z => by omega), e2, wrI_ne (fun z => by omega)]; exact r1 j (by omega)
  exact w_X12_storeBytes_0 (go k V (Nat.le_refl k) Fc.refl (by rw [Nat.sub_self]; exact hs) (fun j hj => absurd hj (by omega)))
/-- bytes L stand at the reference's store's end, from s on -/
def MLs (V V' : VH) (s : Nat) (L : List Int32) : Prop := Fc V V' (fun a f j => a = 6 ∧ (f = 0 ∧ j = 89 ∨ f = 59 ∧ s ≤ j)) ∧ vI V' 6 0 89 = nI (s + L.length) ∧ ∀ j, j < L.length → vI V' 6 59 (s + j) = L.getD j 0
theorem c_sto {w : Int64} {K : VH → Prop} {k s : Nat} {L : List Int32} (h8 : k ≤ 8) (hL : MLs V V1 s L) (h20 : s + L.length + k ≤ 20000) (hk : ∀ V', MLs V V' s (L ++ bofL w k) → K V') : vMV E d M_X12_storeBytes [sl 6 0, wj w, wi (nI k)] V1 K := by
  obtain ⟨f1, e1, r1⟩ := hL
  refine c_storeBytes h8 e1 h20 (fun V2 f2 e2 r2 => hk V2 ⟨f1.trans (f2.mono (fun a f j y => ⟨y.1, by have := y.2; omega⟩)), by rw [List.length_append, bofL_len, ← Nat.add_assoc]; exact e2, ap_at (fun j hj => ?_) (fun i hi => ?_)⟩)
  · rw [f2.i (fun y => by have := y.2; omega)]; exact r1 j hj
  · rw [bofL_len] at hi; exact r2 i hi
theorem bofL_1 {y : Int32} : bofL (Int32.toInt64 y) 1 = [i2b (i2b y)] := by
  show [bof (Int32.toInt64 y) 0] = _
  have : lushr (Int32.toInt64 y) (8 * nI 0) = Int32.toInt64 y := by
    have ew : Int32.toInt64 y = nL (Int32.toInt64 y).toBitVec.toNat := by
      refine Int64.toBitVec_inj.mp ?_
      show (Int32.toInt64 y).toBitVec = BitVec.ofNat 64 (Int32.toInt64 y).toBitVec.toNat
      simp
    have l := lushr_nL (a := (Int32.toInt64 y).toBitVec.toNat) (m := 0) (Int32.toInt64 y).toBitVec.isLt (by decide)
    rw [← ew, Nat.pow_zero, Nat.div_one, ← ew] at l
    exact l
  unfold bof
  rw [this, l2i_i2l]
theorem c_mixed {s : Int64} {y : Int32} {K : Int64 → VH → Prop} (hk : K (mixS s y) V) : vMJ E d M_X12_mixed [wj s, wi y] V K := w_X12_mixed_0 hk
theorem save_go {s c : Nat} {K : Int32 → VH → Prop} (h0 : 3 < d) (hs : PrS t n R nt) (hm : MiQ V q t n R fa h x cs) (hW : ∀ i, okT 1 (vI V 6 3 i)) (ht : ∀ i, i < n → i2b (t i) = t i) (px : ∀ v, tcR R 1 ≤ v → tst x v = false) (hc : vI V 6 0 91 = nI c) (cc : c + 1 ≤ 100) (hs9 : vI V 6 0 89 = nI s) (ss : s + (3 + n + (4 * tcR R 0 + 3 * tcR R 1 + 2) + 8) ≤ 19990)
    (hk : ∀ V1 V', MLs V V1 s (rwQ t n R fa h x cs ++ bofL (sumS (vI V1 6 59) s (rwQ t n R fa h x cs).length 0) 8) → V' = wrI (wrI (wrI (wrI V1 6 0 92 (nI c)) 6 60 c (nI s)) 6 0 91 (nI (c + 1))) 6 60 (c + 1) (nI (s + (3 + n + (4 * tcR R 0 + 3 * tcR R 1 + 2) + 8))) → K (nI c) V') : vMV E (d - 1) M_X12_storeBytes [sl 6 0, wj 211, wi 1] V (fun V5 => vp_in (nI q) 5 ∧ (vMV E (d - 1) M_X12_storeBytes [sl 6 0, wj (Int32.toInt64 (vI V5 6 4 (Int32.toNatClampNeg (nI q)))), wi 2] V5 (fun V8 => vwp E d M_X12_save 65 [some (sl 6 0), some (wi (nI q)), some (wi (nI s)), some (wi 0), none, none, none] [] V8 (zi K)))) := by
  have sq0 := hm.1.2.2.2.2.1
  have q5 := sq0.1
  have n12 : tcR R 1 ≤ 12 := sq0.2.2.1
  have n16 : tcR R 0 ≤ 16 := hs.2.2.2.1.1 0 (by decide)
  have n20 := hs.1
  have tx := hm.1.2.1
  have i6 : ∀ {W L}, MLs V W s L → ∀ f j, ¬ (f = 0 ∧ j = 89) → f ≠ 59 → vI W 6 f j = vI V 6 f j := fun k f j h1 h2 => k.1.i (fun y => by have := y.2; omega)
  have e4 : ∀ {W L}, MLs V W s L → vI W 6 4 q = nI n := fun k => by rw [i6 k _ _ (by omega) (by omega)]; exact tx.2
  have miw : ∀ {W L}, MLs V W s L → MiQ W q t n R fa h x cs := fun k => hm.fc hs k.1 (fun f j y => by have := y.2; omega)
  have lR := rowL_len (t := t) (n := n) (nf := tcR R 0) (nv := tcR R 1) (fa := fa) (vv := vvR R h) (cs := cs) (x := x)
  have m0 : MLs V V s [] := ⟨Fc.refl, hs9, fun j hj => absurd hj (Nat.not_lt_zero j)⟩
  refine c_sto (k := 1) (L := []) (by decide) m0 (by show s + 0 + 1 ≤ 20000; omega) (fun V5 k5 => ⟨vp_in_nI q5 (by decide), ?_⟩)
  have b211 : bofL 211 1 = [i2b (i2b 211)] := bofL_1 (y := 211)
  rw [b211, List.nil_append] at k5
  rw [nI_clamp (show q < 2 ^ 31 by omega), e4 k5]
  refine c_sto (k := 2) (by decide) k5 (by show s + 1 + 2 ≤ 20000; omega) (fun V8 k8 => ?_)
  generalize eA0 : [i2b (i2b 211)] ++ bofL (Int32.toInt64 (nI n)) 2 = A0 at k8
  have lA0 : A0.length = 3 := by rw [← eA0, List.length_append, bofL_len]; rfl
  -- sum
  have sums : ∀ m k W (y : Int64) (x3 : Int32), k + m = (rwQ t n R fa h x cs).length → MLs V W s (rwQ t n R fa h x cs) → y = sumS (vI W 6 59) s k 0 → vwp E d M_X12_save 248 [some (sl 6 0), some (wi (nI q)), some (wi (nI s)), some (wi x3), some (wj y), none, some (wi (nI (s + k)))] [] W (zi K) := by
    intro m
    induction m with
    | zero =>
      intro k W y x3 e kw ey
      have ek : k = (rwQ t n R fa h x cs).length := by omega
      subst ek
      refine w_X12_save_248 (by omega) ⟨fun _ => ?_, fun z => absurd (by rw [kw.2.1]; exact nI_le (Nat.le_refl _) (by rw [lR]; omega)) z⟩
      rw [ey]
      refine c_sto (k := 8) (by decide) kw (by rw [lR]; omega) (fun W1 k1 => ?_)
      have es : sumS (vI W 6 59) s (rwQ t n R fa h x cs).length 0 = sumS (vI W1 6 59) s (rwQ t n R fa h x cs).length 0 := sumS_congr _ _ _ (fun i hi => by
        rw [kw.2.2 i hi, k1.2.2 i (by rw [List.length_append]; omega), gD_l hi])
      rw [es] at k1
      have g91 : vI W1 6 0 91 = nI c := by rw [i6 k1 _ _ (by omega) (by decide)]; exact hc
      have g89 : vI W1 6 0 89 = nI (s + (3 + n + (4 * tcR R 0 + 3 * tcR R 1 + 2) + 8)) := by
        rw [k1.2.1, List.length_append, lR, bofL_len]
        congr 1; omega
      intro V3 e3
      rw [g91] at e3
      have h3 : vI V3 6 0 91 = nI c := by rw [e3, wrI_ne (fun z => by omega)]; exact g91
      rw [h3, nI_clamp (show c < 2 ^ 31 by omega)]
      refine ⟨vp_in_nI (by omega) (by decide), fun V5 e5 V6 e6 => ?_⟩
      have h5 : vI V5 6 0 91 = nI c := by rw [e5, wrI_ne (fun z => by omega)]; exact h3
      rw [h5, nI_1] at e6
      have h6 : vI V6 6 0 91 = nI (c + 1) := by rw [e6, wrI_at]
      have h89 : vI V6 6 0 89 = nI (s + (3 + n + (4 * tcR R 0 + 3 * tcR R 1 + 2) + 8)) := by rw [e6, wrI_ne (fun z => by omega), e5, wrI_ne (fun z => by omega), e3, wrI_ne (fun z => by omega)]; exact g89
      rw [h6, nI_clamp (show c + 1 < 2 ^ 31 by omega), h89]
      refine ⟨vp_in_nI (by omega) (by decide), fun V8 e8 => ?_⟩
      have h8 : vI V8 6 0 91 = nI (c + 1) := by rw [e8, wrI_ne (fun z => by omega)]; exact h6
      rw [h8, show nI (c + 1) - 1 = nI c from nI_pred c]
      exact hk W1 V8 k1 (by rw [e8, e6, e5, e3])
    | succ m ih =>
      intro k W y x3 e kw ey
      refine w_X12_save_248 (by omega) ⟨fun z => absurd z (by rw [kw.2.1]; exact nI_ge (by omega) (by rw [lR]; omega)), fun _ => ⟨vp_in_nI (by rw [lR] at e; omega) (by decide), c_mixed ?_⟩⟩
      rw [nI_clamp (show s + k < 2 ^ 31 by rw [lR] at e; omega), nI_1, Nat.add_assoc]
      refine ih (k + 1) W _ x3 (by omega) kw ?_
      rw [ey]
      unfold sumS
      rw [List.range'_1_concat, List.foldl_append]
      rfl
  -- pins
  have vars : ∀ m v W (y : Int32), v + m = tcR R 1 → MLs V W s (((A0 ++ (List.range n).map t) ++ faL fa (tcR R 0)) ++ vaL (vvR R h) cs v) → (∀ u, u < 32 → tst y u = (decide (u < v) && tst x u)) → vwp E d M_X12_save 141 [some (sl 6 0), some (wi (nI q)), some (wi (nI s)), some (wi y), some (wi (nI v)), none, none] [] W (zi K) := by
    intro m
    induction m with
    | zero =>
      intro v W y e kw hy
      have ev : v = tcR R 1 := by omega
      subst ev
      have yx : y = x := tst_ext (fun u hu => by
        rw [hy u hu]
        by_cases c : u < tcR R 1
        · rw [decide_eq_true c, Bool.true_and]
        · rw [decide_eq_false c, Bool.false_and, px u (by omega)])
      refine w_X12_save_141 (by omega) (c_vars (miw kw).1.2.2.2.2.1 ⟨fun _ => ?_, fun z => absurd (nI_le (Nat.le_refl _) (by omega)) z⟩)
      rw [yx]
      have lB : (((A0 ++ (List.range n).map t) ++ faL fa (tcR R 0)) ++ vaL (vvR R h) cs (tcR R 1)).length = 3 + n + 4 * tcR R 0 + 3 * tcR R 1 := by rw [List.length_append, List.length_append, List.length_append, lA0, faL_len, vaL_len, List.length_map, List.length_range]
      refine c_sto (k := 2) (by decide) kw (by rw [lB]; omega) (fun W1 k1 => ?_)
      have eR : (((A0 ++ (List.range n).map t) ++ faL fa (tcR R 0)) ++ vaL (vvR R h) cs (tcR R 1)) ++ bofL (Int32.toInt64 x) 2 = rwQ t n R fa h x cs := by rw [← eA0]; rfl
      rw [eR] at k1
      exact sums (rwQ t n R fa h x cs).length 0 W1 0 x (Nat.zero_add _) k1 (sumS_zero).symm
    | succ m ih =>
      intro v W y e kw hy
      have hv : v < tcR R 1 := by omega
      have mw := miw kw
      have hq' := mw.1.2.2.2.2.2.2.2.2.1
      have e19 := hq'.2 v hv
      have e18 := (mw.1.2.2.2.2.1.2.2.2.2.2 v hv)
      have dl : Dg (szR R) (tcR R 1) v h < szR R v := Dg_lt mw.1.2.2.2.2.1.pos hv
      have lB : (((A0 ++ (List.range n).map t) ++ faL fa (tcR R 0)) ++ vaL (vvR R h) cs v).length = 3 + n + 4 * tcR R 0 + 3 * v := by rw [List.length_append, List.length_append, List.length_append, lA0, faL_len, vaL_len, List.length_map, List.length_range]
      refine w_X12_save_141 (by omega) (c_vars mw.1.2.2.2.2.1 ⟨fun z => absurd z (nI_ge hv (by omega)), fun _ => ?_⟩)
      rw [i12, nI_clamp (show 12 * q + v < 2 ^ 31 by omega), e19, i20, nI_clamp (show 20 * (12 * q + v) + Dg (szR R) (tcR R 1) v h < 2 ^ 31 by have := e18.2.2.1; omega), e18.2.2.2.2 _ dl]
      refine ⟨vp_in_nI (by omega) (by decide), vp_in_nI (by have := e18.2.2.1; omega) (by decide), c_sto (k := 1) (by decide) kw (by rw [lB]; omega) (fun W1 k1 => ?_)⟩
      rw [bofL_1] at k1
      have e20 : vI W1 6 20 (12 * q + v) = cs v := (miw k1).1.2.2.2.2.2.2.2.2.2.2 v hv
      rw [e20]
      have l1 : ((((A0 ++ (List.range n).map t) ++ faL fa (tcR R 0)) ++ vaL (vvR R h) cs v) ++ [i2b (i2b (vlR R v (Dg (szR R) (tcR R 1) v h)))]).length = 3 + n + 4 * tcR R 0 + 3 * v + 1 := by rw [List.length_append, lB]; rfl
      refine ⟨vp_in_nI (by omega) (by decide), c_sto (k := 2) (by decide) k1 (by rw [l1]; omega) (fun W2 k2 => ?_)⟩
      have e21 := (miw k2).1.2.2.2.2.2.2.2.2.2.1 v hv
      have eL : ((A0 ++ (List.range n).map t) ++ faL fa (tcR R 0)) ++ vaL (vvR R h) cs (v + 1) = ((((A0 ++ (List.range n).map t) ++ faL fa (tcR R 0)) ++ vaL (vvR R h) cs v) ++ [i2b (i2b (vlR R v (Dg (szR R) (tcR R 1) v h)))]) ++ bofL (Int32.toInt64 (cs v)) 2 := by rw [vaL_s]; simp
      rw [← eL] at k2
      refine ⟨vp_in_nI (by omega) (by decide), fun z => w_X12_save_227 ?_, fun z => w_X12_save_227 ?_⟩
      · rw [nI_1, Int32.or_zero]
        refine ih (v + 1) W2 y (by omega) k2 (fun u hu => ?_)
        rw [hy u hu]
        by_cases c : u = v
        · rw [c, e21.mp z, Bool.and_false, Bool.and_false]
        · congr 1
          exact decide_eq_decide.mpr ⟨fun z => by omega, fun z => by omega⟩
      · rw [nI_1]
        refine ih (v + 1) W2 _ (by omega) k2 (fun u hu => ?_)
        have tx1 : tst x v = true := by
          cases c : tst x v with
          | true => rfl
          | false => exact absurd (e21.mpr c) z
        rw [tst_or, hy u hu, tst_one (by omega) hu]
        by_cases c : u = v
        · rw [c, tx1, decide_eq_true rfl, Bool.or_true, decide_eq_true (Nat.lt_succ_self v)]; rfl
        · rw [decide_eq_false c, Bool.or_false]
          congr 1
          exact decide_eq_decide.mpr ⟨fun z => by omega, fun z => by omega⟩
  have facts : ∀ m f W, f + m = tcR R 0 → MLs V W s ((A0 ++ (List.range n).map t) ++ faL fa f) → vwp E d M_X12_save 101 [some (sl 6 0), some (wi (nI q)), some (wi (nI s)), some (wi (nI f)), none, none, none] [] W (zi K) := by
    intro m
    induction m with
    | zero =>
      intro f W e kw
      have ef : f = tcR R 0 := by omega
      subst ef
      have n14 : vI W 6 14 (4 * q) = nI (tcR R 0) := ((miw kw).1.2.2.1.1 0 (by decide)).1
      refine w_X12_save_101 (by omega) ?_
      rw [show (4 : Int32) = nI 4 from rfl, nI_mul, nI_clamp (show 4 * q < 2 ^ 31 by omega), n14]
      refine ⟨vp_in_nI (by omega) (by decide), fun _ => vars (tcR R 1) 0 W 0 (Nat.zero_add _) (by rw [vaL, List.append_nil]; exact kw) (fun u hu => ?_), fun z => absurd (nI_le (Nat.le_refl _) (by omega)) z⟩
      rw [tst_z, decide_eq_false (Nat.not_lt_zero u), Bool.false_and]
    | succ m ih =>
      intro f W e kw
      have hf : f < tcR R 0 := by omega
      have n14 : vI W 6 14 (4 * q) = nI (tcR R 0) := ((miw kw).1.2.2.1.1 0 (by decide)).1
      have e15 : vI W 6 15 (16 * q + f) = fa f := (miw kw).1.2.2.2.2.2.2.2.1 f hf
      have lB : ((A0 ++ (List.range n).map t) ++ faL fa f).length = 3 + n + 4 * f := by rw [List.length_append, List.length_append, lA0, faL_len, List.length_map, List.length_range]
      refine w_X12_save_101 (by omega) ?_
      rw [show (4 : Int32) = nI 4 from rfl, nI_mul, nI_clamp (show 4 * q < 2 ^ 31 by omega), n14, show (16 : Int32) = nI 16 from rfl, nI_mul, nI_add, nI_clamp (show 16 * q + f < 2 ^ 31 by omega), e15]
      refine ⟨vp_in_nI (by omega) (by decide), fun z => absurd z (nI_ge hf (by omega)), fun _ => ⟨vp_in_nI (by omega) (by decide), c_sto (k := 4) (by decide) kw (by rw [lB]; omega) (fun W1 k1 => ?_)⟩⟩
      rw [nI_1]
      refine ih (f + 1) W1 (by omega) ?_
      rw [faL_s, ← List.append_assoc]
      exact k1
  have text : ∀ m i W, i + m = n → MLs V W s (A0 ++ (List.range i).map t) → vwp E d M_X12_save 65 [some (sl 6 0), some (wi (nI q)), some (wi (nI s)), some (wi (nI i)), none, none, none] [] W (zi K) := by
    intro m
    induction m with
    | zero =>
      intro i W e kw
      have ei : i = n := by omega
      subst ei
      refine w_X12_save_65 (by omega) ?_
      rw [nI_clamp (show q < 2 ^ 31 by omega), e4 kw]
      exact ⟨vp_in_nI q5 (by decide), fun _ => facts (tcR R 0) 0 W (Nat.zero_add _) (by rw [faL, List.append_nil]; exact kw), fun z => absurd (nI_le (Nat.le_refl _) (by omega)) z⟩
    | succ m ih =>
      intro i W e kw
      have hi : i < n := by omega
      have lB : (A0 ++ (List.range i).map t).length = 3 + i := by rw [List.length_append, lA0, List.length_map, List.length_range]
      have e3 : i2b (i2b (vI W 6 3 (20000 * q + i))) = t i := by
        rw [i6 kw _ _ (by omega) (by decide), i2b_fit (hW _), i2b_eq (b := t i) (tx.1 i hi)]
        exact ht i hi
      refine w_X12_save_65 (by omega) ?_
      rw [nI_clamp (show q < 2 ^ 31 by omega), e4 kw, i20k, nI_clamp (show 20000 * q + i < 2 ^ 31 by omega)]
      refine ⟨vp_in_nI q5 (by decide), fun z => absurd z (nI_ge hi (by omega)), fun _ => ⟨vp_in_nI (by omega) (by decide), c_sto (k := 1) (by decide) kw (by rw [lB]; omega) (fun W1 k1 => ?_)⟩⟩
      rw [bofL_1, e3] at k1
      rw [nI_1]
      refine ih (i + 1) W1 (by omega) ?_
      rw [List.range_succ, List.map_append, ← List.append_assoc]
      exact k1
  exact text n 0 V8 (Nat.zero_add _) (by show MLs V V8 s (A0 ++ []); rw [List.append_nil]; exact k8)
end
