/-! check: the class's leaves -/
/-- all plans that are given break rule r -/
def bkR (R : List SR) (nt fa : Nat → Int32) (y : Int32) (p r : Nat) : Bool := fA (agr (szR R) (tcR R 1) (tst y) p) (fun s a => s && decide (¬ DR R nt r fa (sn (szR R) (tcR R 1) (vlR R) a) ≤ 0)) true (plR R)
/-- one plan is given, and it is no gain -/
def ptR (R : List SR) (nt fa : Nat → Int32) (h : Nat) (y : Int32) (p : Nat) : Bool := (List.range (tcR R 1)).all (fun v => tst y v) && (decide (¬ scQ R nt fa p 0 = 0) || !btr (scQ R nt fa) p h)
/-- the value of part i at plan a -/
def vpR (R : List SR) (nt fa : Nat → Int32) (i a : Nat) : Int32 := if i < 24 then DR R nt i fa (sn (szR R) (tcR R 1) (vlR R) a) else DRa R nt (i - 24) fa (sn (szR R) (tcR R 1) (vlR R) a)
/-- the least values of the plans that are given -/
def lsR (R : List SR) (nt fa : Nat → Int32) (y : Int32) (p : Nat) : Nat → Int32 := fA (agr (szR R) (tcR R 1) (tst y) p) (fun s a i => imin (s i) (vpR R nt fa i a)) (fun _ => 2147483647) (plR R)
/-- the bound -/
def bnR (R : List SR) (nt fa : Nat → Int32) (y : Int32) (p l : Nat) : Int64 := wsA (aln R) (fun k _ _ => lsR R nt fa y p (24 + k)) fa fa (wsR (lvn R) (wtR R) (fun r _ _ => lsR R nt fa y p r) fa fa (tcR R 2)) (tcR R 3) l
def cmpB (s b : Nat → Int64) : Bool := if s 0 ≠ b 0 then decide (s 0 < b 0) else if s 1 ≠ b 1 then decide (s 1 < b 1) else if s 2 ≠ b 2 then decide (s 2 < b 2) else true
def bdR (R : List SR) (nt fa : Nat → Int32) (h : Nat) (y : Int32) (p : Nat) : Bool := cmpB (scQ R nt fa h) (bnR R nt fa y p)
theorem cmpB_t {s b : Nat → Int64} (h : ∀ j, j < 3 → s j = b j) : cmpB s b = true := by
  unfold cmpB
  rw [if_neg (fun z => z (h 0 (by decide))), if_neg (fun z => z (h 1 (by decide))), if_neg (fun z => z (h 2 (by decide)))]
theorem cmpB_f {s b : Nat → Int64} {l : Nat} (hl : l < 3) (h : ∀ j, j < l → s j = b j) (n : s l ≠ b l) : cmpB s b = decide (s l < b l) := by
  unfold cmpB
  have c : l = 0 ∨ l = 1 ∨ l = 2 := by omega
  rcases c with c | c | c
  · subst c; rw [if_pos n]
  · subst c; rw [if_neg (fun z => z (h 0 (by decide))), if_pos n]
  · subst c; rw [if_neg (fun z => z (h 0 (by decide))), if_neg (fun z => z (h 1 (by decide))), if_pos n]
theorem full_t : ∀ (nv : Fin 13) (v : Fin 32), tst (((1 : Int32) <<< (nI nv.val &&& 31)) - 1) v.val = decide (v.val < nv.val) := by decide +kernel
theorem full_iff {nv : Nat} {y : Int32} (hn : nv ≤ 12) (hz : ∀ v, nv ≤ v → tst y v = false) : y = ((1 : Int32) <<< (nI nv &&& 31)) - 1 ↔ (List.range nv).all (fun v => tst y v) = true := by
  have ft : ∀ v, v < 32 → tst (((1 : Int32) <<< (nI nv &&& 31)) - 1) v = decide (v < nv) := fun v hv => full_t ⟨nv, by omega⟩ ⟨v, hv⟩
  rw [List.all_eq_true]
  constructor
  · intro e v hv
    have hv := List.mem_range.mp hv
    rw [e, ft v (by omega)]
    exact decide_eq_true hv
  · intro a
    refine tst_ext (fun v hv => ?_)
    rw [ft v hv]
    by_cases c : v < nv
    · rw [decide_eq_true c]; exact a v (List.mem_range.mpr c)
    · rw [decide_eq_false c]; exact hz v (by omega)
theorem lt_of_nI {a b : Nat} (h : nI a < nI b) (ha : a < 2 ^ 31) : a < b := Nat.lt_of_not_le (fun u => absurd (nI_le u ha) (Int32.not_le.mpr h))
theorem ge_of_nI {a b : Nat} (h : ¬ nI a < nI b) (hb : b < 2 ^ 31) : b ≤ a := Nat.le_of_not_lt (fun u => h (Int32.not_le.mp (nI_ge u hb)))
section
variable {E : EE} {d : Nat} {V0 V : VH} {q g : Nat} {t : Nat → Int32} {n : Nat} {R : List SR} {nt fa : Nat → Int32} {h : Nat} {x y : Int32} {cs : Nat → Int32} {T : Nat → TK} {L i p : Nat}
theorem CoC.wz {r : (Nat × Nat) ⊕ Nat} {K : Int32 → VH → Prop} (hk : CoC V0 q L r K) : CoC V0 q L r (fun r V => bz r ∧ K r V) := by
  cases r with
  | inl e => exact fun V' f fl => ⟨Or.inl rfl, hk V' f fl⟩
  | inr j => exact fun V' l => ⟨Or.inr rfl, hk V' l⟩
theorem ck_gp (hI : PbI V0 q t n R nt fa h x cs) (f : Fc V0 V (ckS q)) : PG (vL V) (q + 1) := by rw [f.l]; exact hI.2.1.1
theorem ck_sp (hI : PbI V0 q t n R nt fa h x cs) (f : Fc V0 V (ckS q)) : Sp V (q + 1) (tcR R 1) (szR R) (vlR R) := hI.sp.fc f (fun f i z => ckS_g (by omega) (by omega) (by omega))
theorem ck_tb (s : Scd V0 q R nt fa) (f : Fc V0 V (ckS q)) : Tb V (q + 1) (plR R) (stQ R nt fa) (scQ R nt fa) := s.1.fc f (fun i => ⟨ckS_g (by omega) (by omega) (by omega), ckS_g (by omega) (by omega) (by omega)⟩)
theorem ck_nm (hI : PbI V0 q t n R nt fa h x cs) (f : Fc V0 V (ckS q)) : NmC V (q + 1) (tcR R) (nmR R) := hI.2.1.2.2.1.fc f (fun f j z => ckS_g (by omega) (by omega) (by omega))
theorem ck_hd (hI : PbI V0 q t n R nt fa h x cs) (f : Fc V0 V (ckS q)) : HsC (vI V (q + 1) 9 0) R := by
  rw [f.i (ckS_g (by omega) (by omega) (by omega))]
  exact hI.2.1.2.2.2.2.1.1
theorem k_ruledOut {pt bd : Bool} {K : Int32 → VH → Prop} (h0 : 1 < d) (c0 : CkC V0 q T L) (hI : PbI V0 q t n R nt fa h x cs) (s : Scd V0 q R nt fa) (hv : LvC V0 V q L i) (h33 : (T i).1 = 33) (hp : p < plR R) (hk : CoC V0 q L (ckL T (lku (tcR R) (nmR R)) (fun r => decide (lvR R r = 0)) (bkR R nt fa y p) pt bd i) K) : vMI E d M_X4_ruledOut [sl 0 20, sl (q + 1) 0, wi y, wi (nI p)] V K := by
  have r24 : tcR R 2 ≤ 24 := hI.1.2.2.2.1.1 2 (by decide)
  have t20 := hI.sp.2.2.2.2.1
  have e8 := (hv.tok c0).2.2
  refine w_X4_ruledOut_0 (ck_gp hI hv.1) (by omega) (k_step hv c0 (by omega) (by omega) (fun V1 l1 => ⟨fun z => ?_, fun z => ?_⟩))
  · rw [(l1.tok c0).1] at z
    have h1 := clK_2.mp z
    have e8' := (l1.tok c0).2.2
    rw [l1.key c0 h1]
    have hg := ck_gp hI l1.1
    refine c_lookUp hg (ck_nm hI l1.1) ?_
    cases w : lku (tcR R) (nmR R) (T (i + 1)).2.1 with
    | none =>
      rw [ckL_2 h33 h1 w] at hk
      exact ⟨fun _ => w_X4_ruledOut_69 hg (by omega) (k_fail (c := 4) l1.1 rfl e8' (fun V' f fl => ⟨Or.inl rfl, hk V' f fl⟩)), fun z => absurd (show (-1 : Int32) < 0 by decide) z⟩
    | some y2 =>
      obtain ⟨s4, k4, _⟩ := lku_lt w
      have m24 : y2.2 < 24 := by
        have := ((ck_nm hI l1.1).1 y2.1 s4).2
        omega
      obtain ⟨d1, d2⟩ := lk_div (s := y2.1) (k := y2.2) s4 m24
      refine ⟨fun z => absurd z (nI_pos (show 24 * y2.1 + y2.2 < 2 ^ 31 by omega)), fun _ => ?_⟩
      have el : lkI (some y2) = nI (24 * y2.1 + y2.2) := rfl
      rw [el, d2, d1]
      have e2 : nI y2.1 = 2 ↔ y2.1 = 2 := nI_eq (b := 2) (by omega) (by decide)
      have hd := ck_hd hI l1.1
      have f4 : ¬ (y2.1 = 2 ∧ decide (lvR R y2.2 = 0) = true) → ∀ V', Fc V0 V' (ckS q) → Flt V' (4, (T (i + 1)).f) → K 0 V' := fun no => by
        rw [ckL_3 (hb := fun r => decide (lvR R r = 0)) h33 h1 w no] at hk
        exact hk
      refine ⟨fun z2 => ⟨fun z3 => ?_, fun z3 => ?_⟩, fun z2 => w_X4_ruledOut_69 hg (by omega) (k_fail (c := 4) l1.1 rfl e8' (fun V' f fl => ⟨Or.inl rfl, f4 (fun u => z2 (e2.mpr u.1)) V' f fl⟩))⟩
      · have y21 := e2.mp z2
        have lv0 := ((hd.1 y2.2 (by omega)).mp ((tst_1 _ (by omega)).mp z3)).2
        have yes : y2.1 = 2 ∧ decide (lvR R y2.2 = 0) = true := ⟨y21, decide_eq_true lv0⟩
        rw [e8]
        refine c_lowest (by omega) (ck_sp hI l1.1) hp ?_
        refine en_loop (fx := tst y) (h := p) (f := fun s a => s && decide (¬ DR R nt y2.2 fa (sn (szR R) (tcR R 1) (vlR R) a) ≤ 0)) (a := true) hI.sp.pos hp (fun c n s' => s' = true → vwp E d M_X4_ruledOut 130 [some (sl 0 20), some (sl (q + 1) 0), some (wi y), some (wi (nI p)), some (wi (nI (T i).f)), some (wi (nI (24 * y2.1 + y2.2))), some (wi (nI y2.2)), some (wi (cuI c)), some (wi (nI n))] [] V1 (zi K)) (fun n hs => ?_) (fun p1 n s' hp1 hnp ha ih hs => ?_) rfl
        · have hs : bkR R nt fa y p y2.2 = true := hs
          rw [ckL_5 (hb := fun r => decide (lvR R r = 0)) h33 h1 w yes hs] at hk
          have fin : ∀ x7 x8 : Int32, vwp E d M_X4_ruledOut 194 [some (sl 0 20), some (sl (q + 1) 0), some (wi y), some (wi (nI p)), some (wi (nI (T i).f)), some (wi (nI (24 * y2.1 + y2.2))), some (wi (nI y2.2)), some (wi x7), some (wi x8)] [] V1 (zi K) := fun x7 x8 => w_X4_ruledOut_194 hg (by omega) (k_step l1 c0 (by omega) (by omega) (fun V' l' => hk V' l'))
          exact w_X4_ruledOut_130 hg (by omega) ⟨fun _ => fin _ _, fun _ => ⟨fun _ => fin _ _, fun z => absurd (show cuI none < 0 by decide) z⟩⟩
        · subst hs
          have sp := ck_sp hI l1.1
          refine w_X4_ruledOut_130 hg (by omega) ⟨fun z => absurd z (by rw [sp.2.2.2.1]; exact nI_ge (by omega) (by omega)), fun _ => ⟨fun z => absurd z (nI_pos (by omega)), fun _ => c_setOf hg (ck_tb s l1.1) hp1 ⟨fun z => ?_, fun z => ?_⟩⟩⟩
          · have b := (tst_1 _ (show y2.2 < 32 by omega)).mp z
            rw [show stQ R nt fa p1 = wst (DR R nt) fa (sn (szR R) (tcR R 1) (vlR R) p1) (tcR R 2) from rfl, tst_wst _ _ (by omega) (by omega)] at b
            have b2 := (of_decide_eq_true b).2
            have ih3 := ih (show (true && decide (¬ DR R nt y2.2 fa (sn (szR R) (tcR R 1) (vlR R) p1) ≤ 0)) = true by rw [Bool.true_and]; exact decide_eq_true b2)
            refine c_following (by omega) sp hp1 (fun e => ?_) (fun q2 e => ?_)
            · rw [e] at ih3; rw [nI_1]; exact ih3
            · rw [e] at ih3; rw [nI_1]; exact ih3
          · have b := (tst_0 _ (show y2.2 < 32 by omega)).mp z
            rw [show stQ R nt fa p1 = wst (DR R nt) fa (sn (szR R) (tcR R 1) (vlR R) p1) (tcR R 2) from rfl, tst_wst _ _ (by omega) (by omega)] at b
            have b2 := of_decide_eq_false b
            have y2r : y2.2 < tcR R 2 := by rw [y21] at k4; exact k4
            have no : bkR R nt fa y p y2.2 = false := by
              cases c : bkR R nt fa y p y2.2 with
              | false => rfl
              | true =>
                have c : fA (agr (szR R) (tcR R 1) (tst y) p) (fun s a => s && decide (¬ DR R nt y2.2 fa (sn (szR R) (tcR R 1) (vlR R) a) ≤ 0)) true (plR R) = true := c
                have := (fA_all (G := fun a => decide (¬ DR R nt y2.2 fa (sn (szR R) (tcR R 1) (vlR R) a) ≤ 0)) (plR R)).mp c p1 hp1 ha
                exact absurd ⟨y2r, of_decide_eq_true this⟩ b2
            rw [ckL_4 (hb := fun r => decide (lvR R r = 0)) h33 h1 w yes no] at hk
            exact k_fail (c := 8) l1.1 rfl rfl (fun V' f fl => ⟨Or.inl rfl, hk V' f fl⟩)
      · have b := (tst_0 _ (show y2.2 < 32 by omega)).mp z3
        refine k_fail (c := 4) l1.1 rfl e8' (fun V' f fl => ⟨Or.inl rfl, f4 (fun u => ?_) V' f fl⟩)
        have := (hd.1 y2.2 (by omega)).mpr ⟨by rw [u.1] at k4; exact k4, of_decide_eq_true u.2⟩
        rw [this] at b
        exact absurd b (by decide)
  · have h1 : (T (i + 1)).1 ≠ 1 := fun u => z (by rw [(l1.tok c0).1]; exact clK_2.mpr u)
    rw [ckL_1 h33 h1] at hk
    exact k_refuse l1 c0 (fun V' f fl => ⟨Or.inl rfl, hk V' f fl⟩)
theorem k_noGain {K : Int32 → VH → Prop} (h0 : 1 < d) (hI : PbI V0 q t n R nt fa h x cs) (s : Scd V0 q R nt fa) (f : Fc V0 V (ckS q)) (hp : p < plR R) (hz : ∀ v, tcR R 1 ≤ v → tst y v = false) (hk : K (bI (ptR R nt fa h y p)) V) : vMI E d M_X4_isNoGain [sl (q + 1) 0, wi y, wi (nI p)] V K := by
  have hg := ck_gp hI f
  have fi := full_iff hI.v12 hz
  have fe := fea_sc E hI.1 hI.bd.2 (ck_hd hI f) p
  have hh : vI V (q + 1) 0 8 = nI h := by rw [f.i (ckS_g (by omega) (by omega) (by omega))]; exact hI.hnd.1
  refine w_X4_isNoGain_0 hg (by omega) ?_
  rw [(ck_sp hI f).2.1]
  refine ⟨fun z => c_setOf hg (ck_tb s f) hp ⟨fun z2 => w_X4_isNoGain_51 hg ?_, fun z2 => ?_⟩, fun z => ?_⟩
  · have e : ptR R nt fa h y p = true := by
      have nz : ¬ scQ R nt fa p 0 = 0 := fun u => z2 (fe.mpr u)
      unfold ptR
      rw [Bool.and_eq_true, Bool.or_eq_true]
      exact ⟨fi.mp z, Or.inl (decide_eq_true nz)⟩
    rw [e] at hk; exact hk
  · have e : ptR R nt fa h y p = !btr (scQ R nt fa) p h := by
      have zz : ¬ ¬ scQ R nt fa p 0 = 0 := fun u => u (fe.mp z2)
      unfold ptR
      rw [fi.mp z, decide_eq_false zz, Bool.true_and, Bool.false_or]
    rw [hh]
    refine c_isBetter (by omega) hg (ck_tb s f) hp hI.hnd.2 ⟨fun z3 => ?_, fun z3 => w_X4_isNoGain_51 hg ?_⟩
    · rw [e, bI_1.mp z3] at hk; exact hk
    · rw [e, bI_0.mp z3] at hk; exact hk
  · have e : ptR R nt fa h y p = false := by
      unfold ptR
      cases c : (List.range (tcR R 1)).all (fun v => tst y v) with
      | true => exact absurd (fi.mpr c) z
      | false => rfl
    rw [e] at hk; exact hk
theorem k_isPart {nr na : Nat} {K : Int32 → VH → Prop} (hg : PG (vL V) g) (h1 : vI V g 9 1 = nI nr) (h2 : vI V g 9 2 = nI na) (hr : nr ≤ 24) (ha : na ≤ 6) (hi : i < 30) (hn : ¬ (i < nr ∨ 24 ≤ i ∧ i < 24 + na) → K 0 V) (hy : (i < nr ∨ 24 ≤ i ∧ i < 24 + na) → K 1 V) : vMI E d M_X2_isPart [sl g 9, wi (nI i)] V K := by
  have ea : (24 : Int32) + nI na = nI (24 + na) := by rw [show (24 : Int32) = nI 24 from rfl, nI_add]
  refine w_X2_isPart_0 hg ⟨fun z => absurd z (nI_pos (by omega)), fun _ => ?_⟩
  rw [h1]
  refine ⟨fun z => w_X2_isPart_29 hg (hy (Or.inl (lt_of_nI z (by omega)))), fun z => w_X2_isPart_12 hg ?_⟩
  have z1 := ge_of_nI z (by omega)
  rw [h2, ea]
  refine ⟨fun z2 => hn ?_, fun z2 => ⟨fun z3 => hn ?_, fun z3 => w_X2_isPart_29 hg (hy ?_)⟩⟩
  · have := lt_of_nI (b := 24) z2 (by omega)
    omega
  · have := (nI_leI (by omega) (by omega)).mp z3
    omega
  · have a1 := ge_of_nI (b := 24) z2 (by decide)
    have a2 : ¬ 24 + na ≤ i := fun u => z3 ((nI_leI (by omega) (by omega)).mpr u)
    omega
theorem c_fillL {a f : Nat} {x : Int64} {K : VH → Prop} (hA : SL (vL V) a f 15) (hn : vN V a f < 2 ^ 31) (hk : ∀ V', Fc V V' (fun b g i => b = a ∧ g = f) → (∀ j, j < vN V a f → vJ V' a f j = x) → K V') : vMV E d M_J7_fill_d0a16 [sl a f, wj x] V K := by
  have go : ∀ (m k : Nat) (V1 : VH), Fc V V1 (fun b g i => b = a ∧ g = f) → (∀ j, j < k → vJ V1 a f j = x) → k + m = vN V a f → vwp E d M_J7_fill_d0a16 6 [some (sl a f), some (wj x), none, some (wi (nI k)), some (wi (nI (vN V a f)))] [] V1 (zv K) := by
    intro m
    induction m with
    | zero =>
      intro k V1 f1 h1 e
      have hA1 : SL (vL V1) a f 15 := by rw [f1.l]; exact hA
      exact w_J7_fill_d0a16_6 hA1 ⟨fun _ => hk V1 f1 (fun j hj => h1 j (by omega)), fun q => absurd (nI_le (by omega) (by omega)) q⟩
    | succ m ih =>
      intro k V1 f1 h1 e
      have hA1 : SL (vL V1) a f 15 := by rw [f1.l]; exact hA
      refine w_J7_fill_d0a16_6 hA1 ⟨fun q => absurd ((nI_leI (by omega) (by omega)).mp q) (by omega), fun _ => ⟨by rw [f1.n]; exact vp_in_nI (by omega) (by omega), fun V2 e2 => ?_⟩⟩
      rw [nI_clamp (by omega)] at e2
      rw [nI_1]
      refine ih (k + 1) V2 (f1.trans (by rw [e2]; exact Fc_wrJ ⟨rfl, rfl⟩)) (fun j hj => ?_) (by omega)
      rw [e2]
      by_cases q : j = k
      · subst q; exact wrJ_at
      · rw [wrJ_ne (fun z => q z.2.2)]; exact h1 j (by omega)
  exact w_J7_fill_d0a16_0 hA (go (vN V a f) 0 V Fc.refl (fun j hj => absurd hj (Nat.not_lt_zero j)) (by omega))
end
