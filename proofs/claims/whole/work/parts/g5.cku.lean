/-! check: the reference reads a tree -/
/-- token i is come to, and nothing is wrong -/
def LvM (V0 V : VH) (t : Nat → Int32) (n i : Nat) : Prop := Fc V0 V cmS ∧ RT V (tkT t n i) ∧ i ≤ tln t n ∧ vI V 6 0 45 = 0
/-- what becomes of it -/
def CoM (V0 : VH) (t : Nat → Int32) (n : Nat) (R : List SR) (y : Int32) (p : Nat) (r : (Nat × Nat) ⊕ Nat) (K : VH → Prop) : Prop := match r with
  | .inl e => ∀ V', Fc V0 V' cmS → Wrg V' e → K V'
  | .inr j => ∀ V', LvM V0 V' t n j → GvM V' R y p → K V'
section
variable {E : EE} {d : Nat} {V0 V V' : VH} {q : Nat} {t tp : Nat → Int32} {n N : Nat} {R : List SR} {nt fa : Nat → Int32} {h : Nat} {x y : Int32} {cs : Nat → Int32} {i p : Nat}
theorem LvM.is (hv : LvM V0 V tp N i) (c : Nat) (hc : c < 1000) : vI V 6 0 41 = nI c ↔ (tkT tp N i).1 = c := by
  have := vcd_lt (tkT_ok tp N i).1
  rw [hv.2.1.2.1]
  exact nI_eq (by omega) (by omega)
theorem LvM.src (hv : LvM V0 V tp N i) (hS : SrcM V0 tp N) : SrcM V tp N := hS.fc hv.1 (fun f i z y => by have := y.2; omega)
theorem LvM.bm (hv : LvM V0 V tp N i) (k : Fc V V' bmS) : LvM V0 V' tp N i := by
  obtain ⟨f, ⟨r1, r2, r3, r4, r5⟩, hi, z⟩ := hv
  have e : ∀ j, vI V' 6 0 j = vI V 6 0 j := fun j => k.i (fun y => by have := y.2; omega)
  exact ⟨f.trans (k.mono (fun a f j y => bmS_cm y)), ⟨by rw [e]; exact r1, by rw [e]; exact r2, by rw [e]; exact r3, by rw [e]; exact r4, fun u => by rw [e]; exact r5 u⟩, hi, by rw [e]; exact z⟩
/-- given values change -/
theorem LvM.gv (hv : LvM V0 V tp N i) (k : Fc V V' (fun a f _ => a = 6 ∧ f = 55)) : LvM V0 V' tp N i := by
  obtain ⟨f, ⟨r1, r2, r3, r4, r5⟩, hi, z⟩ := hv
  have e : ∀ j, vI V' 6 0 j = vI V 6 0 j := fun j => k.i (fun y => by have := y.2; omega)
  exact ⟨f.trans (k.mono (fun a f j y => ⟨y.1, by have := y.2; omega⟩)), ⟨by rw [e]; exact r1, by rw [e]; exact r2, by rw [e]; exact r3, by rw [e]; exact r4, fun u => by rw [e]; exact r5 u⟩, hi, by rw [e]; exact z⟩
theorem nxS_cm {a f j : Nat} (y : nxS a f j) : cmS a f j := ⟨y.1, Or.inl ⟨y.2.1, by have := y.2.2; omega⟩⟩
theorem m_next {K : VH → Prop} (hF : eFr E) (h0 : 6 < d) (hS : SrcM V0 tp N) (hv : LvM V0 V tp N i) (n0 : (tkT tp N i).1 ≠ 0) (n3 : (tkT tp N i).1 ≠ 3) (hk : ∀ V', LvM V0 V' tp N (i + 1) → (∀ f j, f ≠ 0 → vI V' 6 f j = vI V 6 f j) → K V') : vMV E d M_X12_next [sl 6 0] V K := by
  obtain ⟨_, a1, a2⟩ := tln_ok tp N
  have lt : i < tln tp N := TL.lt (T := tkT tp N) ⟨a1, a2⟩ hv.2.2.1 n0 n3
  have ok := tkT_ok tp N i
  refine c_next hF h0 (hv.src hS) hv.2.1.1 ok.2.2.2.1 (fun V' f rt => hk V' ⟨hv.1.trans (f.mono (fun a f j y => nxS_cm y)), ?_, by omega, ?_⟩ (fun f' j hf => f.i (fun y => hf y.2.1)))
  · unfold tkT
    rw [tkA_E]
    exact rt
  · rw [f.i (fun y => by have := y.2.2; omega)]
    exact hv.2.2.2
/-- something is wrong; the next token all the same -/
theorem m_nextD {e : Nat × Nat} {j : Nat} {K : VH → Prop} (hF : eFr E) (h0 : 6 < d) (hS : SrcM V0 tp N) (f0 : Fc V0 V cmS) (h40 : vI V 6 0 40 = nI j) (hj : j ≤ N) (w : Wrg V e) (hk : ∀ V', Fc V0 V' cmS → Wrg V' e → K V') : vMV E d M_X12_next [sl 6 0] V K := by
  refine c_next hF h0 (hS.fc f0 (fun f i z y => by have := y.2; omega)) h40 hj (fun V' f rt => hk V' (f0.trans (f.mono (fun a f j y => nxS_cm y))) ?_)
  obtain ⟨w1, w2, w3, w4⟩ := w
  exact ⟨by rw [f.i (fun y => by have := y.2.2; omega)]; exact w1, w2, w3, by rw [f.i (fun y => by have := y.2.2; omega)]; exact w4⟩
theorem m_fail {c l : Nat} {z w : Int32} {K : VH → Prop} (hv : LvM V0 V tp N i) (hz : z = nI c) (hw : w = nI l) (hc : 1 ≤ c) (hc2 : c < 100) (hk : ∀ V', Fc V0 V' cmS → Wrg V' (c, l) → vI V' 6 0 40 = vI V 6 0 40 → K V') : vMV E d M_X12_fail [sl 6 0, wi z, wi w] V K := by
  refine w_X12_fail_0 ⟨fun u => absurd hv.2.2.2 u, fun _ V1 e1 V2 e2 => hk V2 ?_ ⟨?_, hc, hc2, ?_⟩ ?_⟩
  · exact hv.1.trans (by rw [e2, e1]; exact (Fc_wrI ⟨rfl, Or.inl ⟨rfl, by decide, by decide⟩⟩).trans (Fc_wrI ⟨rfl, Or.inl ⟨rfl, by decide, by decide⟩⟩))
  · rw [e2, wrI_ne (fun z => by omega), e1, wrI_at]; exact hz
  · rw [e2, wrI_at]; exact hw
  · rw [e2, wrI_ne (fun z => by omega), e1, wrI_ne (fun z => by omega)]
theorem m_failHere {K : VH → Prop} (h0 : 0 < d) (hv : LvM V0 V tp N i) (hk : ∀ V', Fc V0 V' cmS → Wrg V' (rfe (tkT tp N) i) → K V') : vMV E d M_X12_failHere [sl 6 0] V K := by
  have go : ∀ z : Int32, z = nI (rfe (tkT tp N) i).1 → vwp E d M_X12_failHere 14 [some (sl 6 0)] [wi z, sl 6 0] V (zv K) := fun z ez => w_X12_failHere_14 h0 (m_fail (l := (rfe (tkT tp N) i).2) hv ez hv.2.1.2.2.1 (rfe_b _ _).1 (rfe_b _ _).2 (fun V' f w _ => hk V' f w))
  have e3 := hv.is 3 (by decide)
  refine w_X12_failHere_0 ⟨fun u => go 2 ?_, fun u => go 1 ?_⟩
  · unfold rfe; rw [if_neg (fun z => u (e3.mpr z))]; rfl
  · unfold rfe; rw [if_pos (e3.mp u)]; rfl
/-- what stays while the reference checks -/
def CkM (V : VH) (q : Nat) (t : Nat → Int32) (n : Nat) (R : List SR) (nt fa : Nat → Int32) (h : Nat) (x : Int32) (cs : Nat → Int32) (tp : Nat → Int32) (N : Nat) : Prop := KnM V q t n R nt fa h x cs ∧ PrS t n R nt ∧ SrcM V tp N ∧ vL V 6 = true ∧ vN V 6 57 = 30
theorem CkM.kn (c0 : CkM V0 q t n R nt fa h x cs tp N) (f : Fc V0 V cmS) : KnM V q t n R nt fa h x cs := c0.1.fc c0.2.1 f (fun f j z => by have := z.2; omega)
theorem m_leaf {K : VH → Prop} (hF : eFr E) (h0 : 8 < d) (c0 : CkM V0 q t n R nt fa h x cs tp N) (hv : LvM V0 V tp N i) (hG : GvM V R y p) (h1 : (tkT tp N i).1 ≠ 1) (hp : p < plR R) (hk : CoM V0 tp N R y p (ckL (tkT tp N) (lku (tcR R) (nmR R)) (fun r => decide (lvR R r = 0)) (bkR R nt fa y p) (ptR R nt fa h y p) (bdR R nt fa h y p) i) K) : vMV E d M_X12_tree [sl 6 0, wi (nI q)] V K := by
  have hS := c0.2.2.1
  have km := c0.kn hv.1
  have q5 := km.q5
  have ok := tkT_ok tp N i
  have e43 := hv.2.1.2.2.1
  have next : ∀ {W : VH} {d' : Nat}, 6 < d' → LvM V0 W tp N i → GvM W R y p → (tkT tp N i).1 ≠ 0 → (tkT tp N i).1 ≠ 3 → CoM V0 tp N R y p (.inr (i + 1)) K → vMV E d' M_X12_next [sl 6 0] W (fun V1 => K V1) := fun hd l g n0 n3 hk => m_next hF hd hS l n0 n3 (fun V' l' e' => hk V' l' (fun v hv' => by rw [e' 55 v (by decide)]; exact g v hv'))
  have fin : ∀ (b : Bool) (W : VH), LvM V0 W tp N i → GvM W R y p → (tkT tp N i).1 ≠ 0 → (tkT tp N i).1 ≠ 3 → CoM V0 tp N R y p (if b = true then .inr (i + 1) else .inl (8, (tkT tp N i).f)) K → (¬ bI b = 0 → vwp E d M_X12_tree 167 [some (sl 6 0), some (wi (nI q)), some (wi (nI (tkT tp N i).f)), none] [] W (zv K)) ∧ (bI b = 0 → vwp E d M_X12_tree 160 [some (sl 6 0), some (wi (nI q)), some (wi (nI (tkT tp N i).f)), none] [] W (zv K)) := fun b W l g n0 n3 hk => by
    refine ⟨fun z => ?_, fun z => ?_⟩
    · rw [if_pos (bI_1.mp z)] at hk
      exact w_X12_tree_167 (by omega) (next (by omega) l g n0 n3 hk)
    · have b0 := bI_0.mp z
      rw [if_neg (by rw [b0]; decide)] at hk
      exact w_X12_tree_160 (by omega) (m_fail (c := 8) l rfl rfl (by decide) (by decide) (fun V1 f1 w1 e1 => w_X12_tree_167 (by omega) (m_nextD hF (by omega) hS f1 (e1.trans l.2.1.1) ok.2.2.2.1 w1 (fun V' f' w' => hk V' f' w'))))
  have t132 : (tkT tp N i).1 = 46 ∨ (tkT tp N i).1 = 60 → vwp E d M_X12_tree 132 [some (sl 6 0), some (wi (nI q)), some (wi (nI (tkT tp N i).f)), none] [] V (zv K) := fun c => by
    refine w_X12_tree_132 (by omega) ⟨fun z => ?_, fun z => ?_⟩
    · have n46 : (tkT tp N i).1 ≠ 46 := fun u => z ((hv.is 46 (by decide)).mpr u)
      have h60 : (tkT tp N i).1 = 60 := by omega
      rw [ckL_b h60] at hk
      exact m_isBound (by omega) km c0.2.1 hp hG (by rw [hv.1.l]; exact c0.2.2.2.1) (by rw [hv.1.n]; exact c0.2.2.2.2) (fun V' f' => fin _ V' (hv.bm f') (fun v hv' => by rw [f'.i (fun y => by have := y.2; omega)]; exact hG v hv') (by omega) (by omega) hk)
    · have h46 := (hv.is 46 (by decide)).mp z
      rw [ckL_p h46] at hk
      exact m_isPoint (by omega) km hp hG (fin _ V hv hG (by omega) (by omega) hk)
  refine w_X12_tree_0 (by omega) ⟨fun _ => ⟨fun z33 => ?_, fun z33 => ?_⟩, fun z => absurd hv.2.2.2 z⟩
  · have n33 : (tkT tp N i).1 ≠ 33 := fun u => z33 ((hv.is 33 (by decide)).mpr u)
    rw [e43]
    refine ⟨fun z46 => t132 (Or.inl ((hv.is 46 (by decide)).mp z46)), fun z46 => ⟨fun z60 => ⟨fun z1 => ?_, fun z1 => absurd ((hv.is 1 (by decide)).mp z1) h1⟩, fun z60 => t132 (Or.inr ((hv.is 60 (by decide)).mp z60))⟩⟩
    rw [ckL_o n33 (fun u => z46 ((hv.is 46 (by decide)).mpr u)) (fun u => z60 ((hv.is 60 (by decide)).mpr u))] at hk
    exact m_failHere (by omega) hv (fun V' f' w' => hk V' f' w')
  · have h33 := (hv.is 33 (by decide)).mp z33
    refine m_next hF (by omega) hS hv (by omega) (by omega) (fun V1 l1 e1 => ?_)
    have km1 := c0.kn l1.1
    have g1 : GvM V1 R y p := fun v hv' => by rw [e1 55 v (by decide)]; exact hG v hv'
    have e43' := l1.2.1.2.2.1
    rw [e43]
    refine ⟨fun z1 => ?_, fun z1 => ?_⟩
    · have h11 := (l1.is 1 (by decide)).mp z1
      refine c_meaning (by omega) q5 (l1.src hS) km1.1.1.2.2.1 l1.2.1.2.2.1 l1.2.1.2.2.2.1 h11 ?_
      have bad : CoM V0 tp N R y p (.inl (4, (tkT tp N (i + 1)).f)) K → ∀ (x3 : Int32), vwp E d M_X12_tree 77 [some (sl 6 0), some (wi (nI q)), some (wi (nI (tkT tp N i).f)), some (wi x3)] [] V1 (zv K) := fun hk x3 => w_X12_tree_77 (by omega) (m_fail (c := 4) l1 rfl e43' (by decide) (by decide) (fun V' f' w' _ => hk V' f' w'))
      cases w : lku (tcR R) (nmR R) (tkT tp N (i + 1)).2.1 with
      | none =>
        rw [ckL_2 h33 h11 w] at hk
        exact ⟨fun _ => bad hk _, fun z => absurd (show (-1 : Int32) < 200 by decide) z⟩
      | some y2 =>
        obtain ⟨b1, b2, b3⟩ := mn_lt w km1.1.1.2.2.1
        obtain ⟨_, k4, _⟩ := lku_lt w
        have em : mnI (some y2) = nI (100 * y2.1 + y2.2) := rfl
        rw [em]
        have no : ¬ (y2.1 = 2 ∧ decide (lvR R y2.2 = 0) = true) → CoM V0 tp N R y p (.inl (4, (tkT tp N (i + 1)).f)) K := fun u => by
          rw [ckL_3 (hb := fun r => decide (lvR R r = 0)) h33 h11 w u] at hk
          exact hk
        refine ⟨fun z => bad (no (fun u => ?_)) _, fun z => ⟨fun z2 => bad (no (fun u => ?_)) _, fun z2 => ?_⟩⟩
        · have := lt_of_nI (b := 200) z (by omega)
          omega
        · have := (nI_leI (a := 300) (by decide) (by omega)).mp z2
          omega
        · have y2a := ge_of_nI (b := 200) z (by decide)
          have y2b : ¬ 300 ≤ 100 * y2.1 + y2.2 := fun u => z2 ((nI_leI (a := 300) (by decide) (by omega)).mpr u)
          have y21 : y2.1 = 2 := by omega
          have k5 : y2.2 < tcR R 2 := by rw [y21] at k4; exact k4
          have e24 : (24 : Int32) * nI q + nI (100 * y2.1 + y2.2) - 200 = nI (24 * q + y2.2) := by
            rw [show (24 : Int32) = nI 24 from rfl, show (200 : Int32) = nI 200 from rfl, nI_mul, nI_add, nI_sub (by omega), y21]
            exact congrArg nI (by omega)
          have e200 : nI (100 * y2.1 + y2.2) - 200 = nI y2.2 := by
            rw [show (200 : Int32) = nI 200 from rfl, nI_sub (by omega), y21]
            exact congrArg nI (by omega)
          rw [e24, e200, nI_clamp (show 24 * q + y2.2 < 2 ^ 31 by omega), (km1.1.1.2.2.2.2.2.2.1.1 y2.2 k5).1]
          refine ⟨vp_in_nI (by omega) (by decide), fun z3 => m_breaks (by omega) km1 c0.2.1 hp g1 k5 ⟨fun z4 => w_X12_tree_107 (by omega) ?_, fun z4 => ?_⟩, fun z3 => bad (no (fun u => z3 (of_decide_eq_true u.2))) _⟩
          · rw [ckL_5 (hb := fun r => decide (lvR R r = 0)) h33 h11 w ⟨y21, decide_eq_true z3⟩ (bI_1.mp z4)] at hk
            exact m_next hF (by omega) hS l1 (by omega) (by omega) (fun V' l' e' => hk V' l' (fun v hv' => by rw [e' 55 v (by decide)]; exact g1 v hv'))
          · rw [ckL_4 (hb := fun r => decide (lvR R r = 0)) h33 h11 w ⟨y21, decide_eq_true z3⟩ (bI_0.mp z4)] at hk
            exact m_fail (c := 8) l1 rfl rfl (by decide) (by decide) (fun V2 f2 w2 e2 => w_X12_tree_107 (by omega) (m_nextD hF (by omega) hS f2 (e2.trans l1.2.1.1) (tkT_ok tp N (i + 1)).2.2.2.1 w2 (fun V' f' w' => hk V' f' w')))
    · have n11 : (tkT tp N (i + 1)).1 ≠ 1 := fun u => z1 ((l1.is 1 (by decide)).mpr u)
      rw [ckL_1 h33 n11] at hk
      exact m_failHere (by omega) l1 (fun V' f' w' => hk V' f' w')
end
