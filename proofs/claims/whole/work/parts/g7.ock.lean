/-! check -/
theorem PbI.ck {V V' : VH} {q : Nat} {t : Nat → Int32} {n : Nat} {R : List SR} {nt fa : Nat → Int32} {h : Nat} {x : Int32} {cs : Nat → Int32} (hI : PbI V q t n R nt fa h x cs) (k : Fc V V' (ckS q)) : PbI V' q t n R nt fa h x cs := by
  obtain ⟨M, f1, o1, k1⟩ := (Gx.of_fc (T := fun _ _ => False) k).sp (csS q)
  have f2 := k1.fc (fun a f z => z) (f1.1.trans k.1.symm)
  refine (hI.csq f1).ft (f2.fr (T := fun a _ => a = 0) (fun a f j y => ?_)) (fun a f y => y)
  obtain ⟨y1, y2⟩ := y
  rcases y1 with ⟨z, _⟩ | ⟨z1, z2⟩
  · exact z
  · exact absurd ⟨z1, by omega⟩ y2
/-- the fault of a whole proof -/
def ckF (T : Nat → TK) (r : (Nat × Nat) ⊕ Nat) : Option (Nat × Nat) := match r with
  | .inl e => some e
  | .inr j => if (T j).1 = 0 then none else some (rfe T j)
def ckA (r : Option (Nat × Nat)) : Int32 := match r with
  | some e => -1 - nI e.2
  | none => 0
def ckD (r : Option (Nat × Nat)) : Int32 := match r with
  | some e => nI e.1
  | none => 0
/-- cells that a check changes -/
def fnS (q a f j : Nat) : Prop := a = 0 ∧ (2 ≤ f ∧ f ≤ 6 ∨ f = 21 ∨ f = 22 ∨ f = 28 ∧ j = 9) ∨ a = q + 1 ∧ (f = 9 ∧ j = 13 ∨ f = 17 ∨ f = 18) ∨ a = 6 ∧ (f = 0 ∧ (j = 4 ∨ 37 ≤ j ∧ j < 76) ∨ 34 ≤ f ∧ f ≤ 58)
def fnT (a f : Nat) : Prop := a = 0 ∧ 2 ≤ f ∧ f ≤ 6
theorem waS_fn {q a f j : Nat} (y : waS a f j) : fnS q a f j := by
  rcases y with ⟨y1, y2⟩ | ⟨y1, y2⟩
  · exact Or.inr (Or.inr ⟨y1, by omega⟩)
  · exact Or.inr (Or.inr ⟨y1, by omega⟩)
theorem cmS_fn {q a f j : Nat} (y : cmS a f j) : fnS q a f j := Or.inr (Or.inr ⟨y.1, by have := y.2; omega⟩)
section
variable {E : EE} {d : Nat} {V V' V1 W : VH} {q B B' : Nat} {t : Nat → Int32} {n N : Nat} {R : List SR} {nt fa : Nat → Int32} {h : Nat} {x : Int32} {cs : Nat → Int32}
theorem c_giveAll {K : VH → Prop} (h0 : 0 < d) (hm : KnM V q t n R nt fa h x cs) (l6 : vL V 6 = true) (n55 : vN V 6 55 = 12) (hk : ∀ V', Fc V V' (fun a f _ => a = 6 ∧ f = 55) → GvM V' R x h → K V') : vMV E d M_X12_giveAll [sl 6 0, wi (nI q)] V K := by
  have q5 := hm.q5
  have nv := hm.sq.2.2.1
  have go : ∀ m v W, v + m = tcR R 1 → Fc V W (fun a f _ => a = 6 ∧ f = 55) → (∀ u, u < v → vI W 6 55 u = if tst x u = true then nI (Dg (szR R) (tcR R 1) u h) else -1) → vwp E d M_X12_giveAll 2 [some (sl 6 0), some (wi (nI q)), some (wi (nI v))] [] W (zv K) := by
    intro m
    induction m with
    | zero =>
      intro v W ev kW e
      have : v = tcR R 1 := by omega
      subst this
      have sq := hm.sq.fc kW (fun f i z y => by have := y.2; omega)
      exact w_X12_giveAll_2 h0 (c_vars sq ⟨fun _ => hk W kW e, fun z => absurd (nI_le (Nat.le_refl _) (by omega)) z⟩)
    | succ m ih =>
      intro v W ev kW e
      have hv : v < tcR R 1 := by omega
      have sq := hm.sq.fc kW (fun f i z y => by have := y.2; omega)
      have s55 : SL (vL W) 6 55 14 := ⟨by rw [kW.l]; exact l6, by decide, rfl⟩
      have vv : vp_in (nI v) (vN W 6 55) := by rw [kW.n, n55]; exact vp_in_nI (by omega) (by decide)
      have vq : vp_in (nI (12 * q + v)) 60 := vp_in_nI (by omega) (by decide)
      have e21 : vI W 6 21 (12 * q + v) = vI V 6 21 (12 * q + v) := kW.i (fun y => by have := y.2; omega)
      have e19 : vI W 6 19 (12 * q + v) = nI (Dg (szR R) (tcR R 1) v h) := by rw [kW.i (fun y => by have := y.2; omega)]; exact hm.hq.2 v hv
      have px := hm.pq v hv
      have put : ∀ w : Int32, w = (if tst x v = true then nI (Dg (szR R) (tcR R 1) v h) else -1) → vwp E d M_X12_giveAll 45 [some (sl 6 0), some (wi (nI q)), some (wi (nI v))] [wi w, wi (nI v), sl 6 55] W (zv K) := fun w ew => by
        refine w_X12_giveAll_45 s55 ⟨vv, fun W2 w2 => ?_⟩
        rw [nI_clamp (show v < 2 ^ 31 by omega)] at w2
        rw [nI_1]
        refine ih (v + 1) W2 (by omega) (kW.trans (by rw [w2]; exact Fc_wrI ⟨rfl, rfl⟩)) (fun u hu => ?_)
        by_cases c : u = v
        · rw [c, w2, wrI_at, ew]
        · rw [w2, wrI_ne (fun z => c z.2.2)]; exact e u (by omega)
      refine w_X12_giveAll_2 h0 (c_vars sq ⟨fun z => absurd z (nI_ge hv (by omega)), fun _ => ?_⟩)
      rw [i12, nI_clamp (show 12 * q + v < 2 ^ 31 by omega), e21, e19]
      refine ⟨vq, fun z => put _ ?_, fun z => ⟨vq, put _ ?_⟩⟩
      · rw [px.mp z, if_neg (by decide)]
      · have : tst x v = true := by
          cases u : tst x v with
          | true => rfl
          | false => exact absurd (px.mpr u) z
        rw [if_pos this]
  exact w_X12_giveAll_0 (go (tcR R 1) 0 V (by omega) Fc.refl (fun u hu => absurd hu (Nat.not_lt_zero u)))
/-- the reference checks -/
theorem m_check (hF : eFr E) (h0 : 180 < d) (hq : q < 4) (hB : B ≤ B') (hW1 : WF V1) (hS1 : JS B V1) (hI1 : PbI V1 q t n R nt fa h x cs) (kc : Gx V1 W (fnS q) fnT) (k6 : ∀ f j, vI W 6 f j = vI V1 6 f j) (hIW : PbI W q t n R nt fa h x cs) (tkW : ∃ cap, TkN W cap) (by0 : Byt V1 0 0 N) (tpm : TpM V1 N) (teq : ∀ i, i < N → vI V1 0 1 i = vI V1 6 1 i) (h28 : vI W 0 28 9 = ckD (ckF (tkT (vI V1 0 1) N) (ckT (tkT (vI V1 0 1) N) (lku (tcR R) (nmR R)) (fun r => decide (lvR R r = 0)) (bkR R nt fa) (ptR R nt fa h) (bdR R nt fa h) (szR R) (tcR R 1) 12 x h 0))) : vMI E d M_X12_check [sl 6 0, wi (nI q)] W (fun r' V2 => ckA (ckF (tkT (vI V1 0 1) N) (ckT (tkT (vI V1 0 1) N) (lku (tcR R) (nmR R)) (fun r => decide (lvR R r = 0)) (bkR R nt fa) (ptR R nt fa h) (bdR R nt fa h) (szR R) (tcR R 1) 12 x h 0)) = r' ∧ (WF V2 → JS B' V2)) := by
  have l6 : vL W 6 = true := by rw [kc.1]; exact hW1.1.2.1
  have n57 : vN W 6 57 = 30 := by rw [kc.n (fun y => by have := y.1; omega)]; exact hW1.2.1 6 hW1.1.2.1 (57, 30) (by decide)
  have n55 : vN W 6 55 = 12 := by rw [kc.n (fun y => by have := y.1; omega)]; exact hW1.2.1 6 hW1.1.2.1 (55, 12) (by decide)
  refine w_X12_check_0 (by omega) (c_isProblem_y hIW.mi hq ⟨fun _ => know_go (V' := W) (S := fun _ _ _ => False) (by omega) hIW Fc.refl (fun f j y => y) (fun V2 f2 w mi2 e62 e63 => ?_), fun z => absurd z (by decide)⟩)
  have km2 : KnM V2 q t n R nt fa h x cs := ⟨mi2, w⟩
  refine c_giveAll (by omega) km2 (by rw [f2.l]; exact l6) (by rw [f2.n]; exact n55) (fun V5 f5 g5 V7 e7 V8 e8 V9 e9 V10 e10 => ?_)
  have f7 : Fc V5 V7 (fun a f j => a = 6 ∧ f = 0 ∧ (j = 37 ∨ j = 39 ∨ j = 40 ∨ j = 45)) := by rw [e7]; exact Fc_wrI ⟨rfl, rfl, by decide⟩
  have f8 : Fc V7 V8 (fun a f j => a = 6 ∧ f = 0 ∧ (j = 37 ∨ j = 39 ∨ j = 40 ∨ j = 45)) := by rw [e8]; exact Fc_wrI ⟨rfl, rfl, by decide⟩
  have f9 : Fc V8 V9 (fun a f j => a = 6 ∧ f = 0 ∧ (j = 37 ∨ j = 39 ∨ j = 40 ∨ j = 45)) := by rw [e9]; exact Fc_wrI ⟨rfl, rfl, by decide⟩
  have f10 : Fc V9 V10 (fun a f j => a = 6 ∧ f = 0 ∧ (j = 37 ∨ j = 39 ∨ j = 40 ∨ j = 45)) := by rw [e10]; exact Fc_wrI ⟨rfl, rfl, by decide⟩
  have f510 := ((f7.trans f8).trans f9).trans f10
  have f210 : Fc V2 V10 (fun a f j => a = 6 ∧ (f = 55 ∨ f = 0 ∧ (j = 37 ∨ j = 39 ∨ j = 40 ∨ j = 45))) := (f5.mono (fun a f j y => ⟨y.1, Or.inl y.2⟩)).trans (f510.mono (fun a f j y => ⟨y.1, Or.inr y.2⟩))
  have km10 : KnM V10 q t n R nt fa h x cs := km2.fc hI1.1 f210 (fun f j y => by have := y.2; omega)
  have g10 : GvM V10 R x h := fun v hv => by rw [f510.i (fun y => by have := y.2; omega)]; exact g5 v hv
  -- the tape
  have wa1 : ∀ {f j}, f = 1 ∨ f = 0 ∧ j = 1 → ¬ waS 6 f j := fun {f j} hf y => by
    rcases y with ⟨_, y⟩ | ⟨_, y⟩ <;> omega
  have i01 : vI V5 6 0 1 = nI N := by rw [f5.i (fun y => by have := y.2; omega), f2.i (wa1 (by omega)), k6]; exact tpm.1
  have r10 : ∀ i, vI V10 6 1 i = vI V1 6 1 i := fun i => by rw [f210.i (fun y => by have := y.2; omega), f2.i (wa1 (by omega)), k6]
  have src : SrcM V10 (vI V1 0 1) N := by
    refine ⟨?_, tpm.2, Or.inr ⟨?_, fun i hi => ?_⟩⟩
    · rw [e10, wrI_ne (fun z => by omega), e9, wrI_ne (fun z => by omega), e8, wrI_at, e7, wrI_ne (fun z => by omega)]
      exact i01
    · rw [e10, wrI_ne (fun z => by omega), e9, wrI_ne (fun z => by omega), e8, wrI_ne (fun z => by omega), e7, wrI_at]
      decide
    · unfold bt
      rw [r10, teq i hi]
  have h40 : vI V10 6 0 40 = nI 0 := by rw [e10, wrI_ne (fun z => by omega), e9, wrI_at]; rfl
  have h45 : vI V10 6 0 45 = 0 := by rw [e10, wrI_at]
  have c0 : CkM V10 q t n R nt fa h x cs (vI V1 0 1) N := ⟨km10, hI1.1, src, by rw [f210.l, f2.l]; exact l6, by rw [f210.n, f2.n]; exact n57⟩
  refine c_next hF (by omega) src h40 (Nat.zero_le _) (fun V11 f11 rt => ?_)
  have l11 : LvM V10 V11 (vI V1 0 1) N 0 := ⟨f11.mono (fun a f j y => nxS_cm y), rt, Nat.zero_le _, by rw [f11.i (fun y => by have := y.2.2; omega)]; exact h45⟩
  have g11 : GvM V11 R x h := fun v hv => by rw [f11.i (fun y => by have := y.2.1; omega)]; exact g10 v hv
  -- the end
  have fin : ∀ (V13 : VH) (r : Option (Nat × Nat)), Fc V10 V13 cmS → vI V13 6 0 45 = ckD r → (∀ e, r = some e → ¬ vI V13 6 0 45 = 0 ∧ vI V13 6 0 46 = nI e.2) → vI W 0 28 9 = ckD r → vwp E d M_X12_check 71 [some (sl 6 0), some (wi (nI q))] [] V13 (zi (fun r' V2 => ckA r = r' ∧ (WF V2 → JS B' V2))) := fun V13 r f13 hr he hw => by
    refine w_X12_check_71 (fun Y eY => ?_)
    have y45 : vI Y 6 0 45 = vI V13 6 0 45 := by rw [eY, wrI_ne (fun z => by omega)]
    have y46 : vI Y 6 0 46 = vI V13 6 0 46 := by rw [eY, wrI_ne (fun z => by omega)]
    have js : WF Y → JS B' Y := fun wY => by
      have kY : Fc V13 Y (fun a f j => a = 6 ∧ f = 0 ∧ j = 4) := by rw [eY]; exact Fc_wrI ⟨rfl, rfl, rfl⟩
      have kW : Fc W Y (fun a f j => waS a f j ∨ cmS a f j ∨ a = 6 ∧ (f = 55 ∨ f = 0 ∧ (j = 4 ∨ j = 37 ∨ j = 39 ∨ j = 40 ∨ j = 45))) := (((f2.mono (fun a f j y => Or.inl y)).trans (f210.mono (fun a f j y => Or.inr (Or.inr ⟨y.1, by have := y.2; omega⟩)))).trans (f13.mono (fun a f j y => Or.inr (Or.inl y)))).trans (kY.mono (fun a f j y => Or.inr (Or.inr ⟨y.1, by have := y.2; omega⟩)))
      have gx : Gx V1 Y (fnS q) fnT := kc.trans ((Gx.of_fc (T := fnT) kW).mono (fun a f j y => by
        rcases y with y | y | y
        · exact waS_fn y
        · exact cmS_fn y
        · exact Or.inr (Or.inr ⟨y.1, by have := y.2; omega⟩)) (fun a f y => y))
      have n0 : ∀ {f j}, ¬ (waS 0 f j ∨ cmS 0 f j ∨ (0 : Nat) = 6 ∧ (f = 55 ∨ f = 0 ∧ (j = 4 ∨ j = 37 ∨ j = 39 ∨ j = 40 ∨ j = 45))) := fun {f j} y => by
        rcases y with y | y | y
        · rcases y with ⟨y, _⟩ | ⟨y, _⟩ <;> omega
        · have := y.1; omega
        · omega
      have toV2 : ∀ {f j}, (f = 43 ∨ f = 44 ∨ f = 45) ∨ f = 0 ∧ (j = 62 ∨ j = 63) → vI Y 6 f j = vI V2 6 f j ∧ vJ Y 6 f j = vJ V2 6 f j := fun {f j} hf => by
        have z1 : ¬ ((6 : Nat) = 6 ∧ f = 0 ∧ j = 4) := fun y => by omega
        have z2 : ¬ cmS 6 f j := fun y => by have := y.2; omega
        have z3 : ¬ ((6 : Nat) = 6 ∧ (f = 55 ∨ f = 0 ∧ (j = 37 ∨ j = 39 ∨ j = 40 ∨ j = 45))) := fun y => by omega
        exact ⟨by rw [kY.i z1, f13.i z2, f210.i z3], by rw [kY.j z1, f13.j z2, f210.j z3]⟩
      have g0 : ∀ {f j}, f < 2 → ¬ fnS q 0 f j := fun {f j} hf y => by
        rcases y with ⟨_, y⟩ | ⟨y, _⟩ | ⟨y, _⟩ <;> omega
      have g6 : ∀ {f j}, f = 1 ∨ f = 0 ∧ (j = 1 ∨ j = 2 ∨ j = 3) → ¬ fnS q 6 f j := fun {f j} hf y => by
        rcases y with ⟨y, _⟩ | ⟨y, _⟩ | ⟨_, y⟩ <;> omega
      have g28 : ∀ {j}, j ≠ 9 → ¬ fnS q 0 28 j := fun {j} hj y => by
        rcases y with ⟨_, y⟩ | ⟨y, _⟩ | ⟨y, _⟩ <;> omega
      refine (hS1.gx hq hI1 (gx.mono (fun a f j y => ?_) (fun a f y => ⟨y.1, y.2.2⟩)) ?_ ?_ ?_ ?_ ?_ ?_ wY).mono hB
      · rcases y with ⟨y1, y2⟩ | ⟨y1, y2⟩ | ⟨y1, y2⟩
        · exact Or.inl ⟨y1, by omega⟩
        · exact Or.inr (Or.inl (Or.inl ⟨y1, by omega⟩))
        · by_cases c : f = 0 ∧ j = 4
          · exact Or.inr (Or.inr ⟨y1, Or.inl ⟨c.1, Or.inr c.2⟩⟩)
          · exact Or.inr (Or.inl (Or.inr ⟨y1, by omega⟩))
      · refine ⟨N, gx.byt by0 (g0 (by omega)) (fun y => by have := y.2; omega), ⟨by rw [gx.i (g6 (by omega))]; exact tpm.1, tpm.2⟩, fun i hi => by rw [gx.i (g0 (by omega)), gx.i (g6 (by omega))]; exact teq i hi⟩
      · have bd := hS1.2.1
        refine ⟨?_, by rw [gx.j (g28 (by decide)), gx.j (g6 (by omega))]; exact bd.2.1, by rw [gx.j (g28 (by decide)), gx.j (g6 (by omega))]; exact bd.2.2⟩
        rw [kW.i n0, hw, eY, wrI_at, hr]
      · obtain ⟨cap, tk⟩ := tkW
        exact ⟨cap, tk.fc kW⟩
      · rw [(toV2 (by omega)).1]; exact e62
      · rw [(toV2 (by omega)).1, e63, k6]
      · exact Wq.ex w (fun f j hf => (toV2 (by omega)).1) (fun j => (toV2 (by omega)).2)
    refine ⟨fun z => ?_, fun z => ?_⟩
    · cases r with
      | none => exact absurd (by rw [y45, hr]; rfl) z
      | some e =>
        rw [y46, (he e rfl).2]
        exact ⟨rfl, js⟩
    · cases r with
      | none => exact ⟨rfl, js⟩
      | some e => exact absurd (y45.symm.trans z) (he e rfl).1
  refine m_tree hF c0 12 (d - 1) V11 x h 0 _ (by omega) (frn_12 hI1.v12) hI1.hnd.2 l11 g11 ?_
  cases z6 : ckT (tkT (vI V1 0 1) N) (lku (tcR R) (nmR R)) (fun r => decide (lvR R r = 0)) (bkR R nt fa) (ptR R nt fa h) (bdR R nt fa h) (szR R) (tcR R 1) 12 x h 0 with
  | inl e =>
    rw [z6] at h28
    exact fun V13 f13 w13 => ⟨fun _ => fin V13 (some e) f13 w13.1 (fun e' ee => by cases ee; exact ⟨w13.dead, w13.2.2.2⟩) h28, fun z => absurd z w13.dead⟩
  | inr j =>
    rw [z6] at h28
    refine fun V13 l13 g13 => ⟨fun z => absurd l13.2.2.2 z, fun _ => ⟨fun z => ?_, fun z => ?_⟩⟩
    · have j0 := (l13.is 0 (by decide)).mp z
      have ef : ckF (tkT (vI V1 0 1) N) (.inr j) = none := if_pos j0
      rw [ef] at h28 ⊢
      exact fin V13 none l13.1 l13.2.2.2 (fun e' ee => by cases ee) h28
    · have j0 : ¬ (tkT (vI V1 0 1) N j).1 = 0 := fun u => z ((l13.is 0 (by decide)).mpr u)
      have ef : ckF (tkT (vI V1 0 1) N) (.inr j) = some (rfe (tkT (vI V1 0 1) N) j) := if_neg j0
      rw [ef] at h28 ⊢
      exact m_failHere (by omega) l13 (fun V15 f15 w15 => fin V15 (some (rfe (tkT (vI V1 0 1) N) j)) f15 w15.1 (fun e' ee => by cases ee; exact ⟨w15.dead, w15.2.2.2⟩) h28)
end
section
variable {E : EE} {d x B B' : Nat}
theorem o_check (hF : eFr E) (h0 : 190 < d) (hB : B ≤ B') : VO_check E d (JA x B) (JA x B') := fun V a0 hJ => liftI hJ (fun hW hS => by
  rcases hS.inQ a0 with ⟨hP, hM⟩ | ⟨q, t, n, R, nt, fa, h, px, cs, hq, rfl, hI⟩
  · exact nul_check (J := fun V2 => WF V2 → JS B' V2) (by omega) hW hP hM (fun _ => hS.mono hB)
  · refine w_X11_check_0 (by omega) (c_scoredW (by omega) hW hq hS hI (fun V1 hW1 hS1 hI1 s1 => ⟨fun _ => ⟨hI1.2.1.1.2, ?_⟩, fun z => absurd hI1.2.1.1.1 z⟩))
    obtain ⟨N, by0, tpm, teq⟩ := hS1.1
    obtain ⟨cap, tkn, _⟩ := hS1.2.2.1
    refine w_X4_isRight_0 hI1.2.1.1 by0.1 (by omega) (c_scan (by omega) by0 tpm.2 tkn (fun V2 cap' g2 tk2 e5 c5 z10 z11 rows ta => ?_))
    have ng : ∀ f, ¬ scR (q + 1) f := fun f y => by have := y.1; omega
    have hI2 : PbI V2 q t n R nt fa h px cs := hI1.ft g2 (fun a f y => y.1)
    have s2 : Scd V2 q R nt fa := ⟨s1.1.ex (fun f _ => g2.n (ng f)) (fun j => by rw [g2.i (ng 22)]) (fun j => by rw [g2.j (ng 21)]), by rw [g2.i (ng 19)]; exact s1.2⟩
    have tk := tln_ok (vI V1 0 1) N
    have c0 : CkC V2 q (tkT (vI V1 0 1) N) (tln (vI V1 0 1) N) := by
      refine ⟨⟨cap', _, tk2, e5, c5, ?_⟩, rows, ⟨⟨tk.2.1, tk.2.2⟩, fun j => (tkT_ok (vI V1 0 1) N j).1⟩, ⟨?_, ?_, ?_⟩, by rw [g2.1]; exact hW1.1.1⟩
      · show tln (vI V1 0 1) N ≤ tcl (vI V1 0 1) N
        unfold tcl
        split <;> omega
      · rw [g2.n (ng 23)]; exact vnP hW1 hI1.2.1.1 (by decide)
      · rw [g2.n (fun y => by have := y.2; omega)]; exact hW1.2.1 0 hW1.1.1 (21, 30) (by decide)
      · rw [g2.n (fun y => by have := y.2; omega)]; exact hW1.2.1 0 hW1.1.1 (22, 3) (by decide)
    have lv0 : LvC V2 V2 q (tln (vI V1 0 1) N) 0 := ⟨Fc.refl, ta, Nat.zero_le _, z10⟩
    -- the reference, behind the class
    have ref : ∀ (W7 W8 : VH), Fc V2 W7 (ckS q) → W8 = wrI W7 0 28 9 (vI W7 0 2 10) → vI W7 0 2 10 = ckD (ckF (tkT (vI V1 0 1) N) (ckT (tkT (vI V1 0 1) N) (lku (tcR R) (nmR R)) (fun r => decide (lvR R r = 0)) (bkR R nt fa) (ptR R nt fa h) (bdR R nt fa h) (szR R) (tcR R 1) 12 px h 0)) → vMI E d M_X12_check [sl 6 0, wi (nI q)] W8 (fun r' V2 => ckA (ckF (tkT (vI V1 0 1) N) (ckT (tkT (vI V1 0 1) N) (lku (tcR R) (nmR R)) (fun r => decide (lvR R r = 0)) (bkR R nt fa) (ptR R nt fa h) (bdR R nt fa h) (szR R) (tcR R 1) 12 px h 0)) = r' ∧ (WF V2 → JS B' V2)) := fun W7 W8 f7 e8 hc => by
      have f8 : Fc W7 W8 (fun a f j => a = 0 ∧ f = 28 ∧ j = 9) := by rw [e8]; exact Fc_wrI ⟨rfl, rfl, rfl⟩
      have hI8 : PbI W8 q t n R nt fa h px cs := (hI2.ck f7).ft (f8.fr (T := fun a _ => a = 0) (fun a f j y => y.1)) (fun a f y => y)
      have gx : Gx V1 W8 (fnS q) fnT := (((Gx.of_fr g2).mono (fun a f j y => Or.inl ⟨y.1, by have := y.2; omega⟩) (fun a f y => ⟨y.1, by have := y.2; omega⟩)).trans ((Gx.of_fc (T := fnT) f7).mono (fun a f j y => by
        rcases y with ⟨y1, y2⟩ | y
        · exact Or.inl ⟨y1, by omega⟩
        · exact Or.inr (Or.inl y)) (fun a f y => y))).trans ((Gx.of_fc (T := fnT) f8).mono (fun a f j y => Or.inl ⟨y.1, by have := y.2; omega⟩) (fun a f y => y))
      refine m_check hF (by omega) hq hB hW1 hS1 hI1 gx (fun f j => ?_) hI8 ⟨cap', (tk2.fc f7).fc f8⟩ by0 tpm teq ?_
      · rw [f8.i (fun y => by have := y.1; omega), f7.i (ckS_o (by omega) (by omega)), g2.i (fun y => by have := y.1; omega)]
      · rw [e8, wrI_at]; exact hc
    rw [hI2.2.1.2.2.2.2.2.2.2.2.2.1, hI2.hnd.1]
    refine k_tree c0 hI2 s2 12 (d - 1 - 1) V2 px h 0 0 _ (by omega) (frn_12 hI2.v12) hI2.2.2.2.2.2.2.2 (by omega) hI2.hnd.2 lv0 ?_
    cases z6 : ckT (tkT (vI V1 0 1) N) (lku (tcR R) (nmR R)) (fun r => decide (lvR R r = 0)) (bkR R nt fa) (ptR R nt fa h) (bdR R nt fa h) (szR R) (tcR R 1) 12 px h 0 with
    | inl e =>
      rw [z6] at ref
      refine fun W7 f7 fl => ⟨fun z => absurd rfl z, fun _ W8 e8 => ⟨fun _ => ?_, fun z => absurd rfl z⟩⟩
      have w11 : vI W8 0 2 11 = nI e.2 := by rw [e8, wrI_ne (fun z => by omega)]; exact fl.2
      rw [w11]
      exact ref W7 W8 f7 e8 fl.1
    | inr j =>
      rw [z6] at ref
      refine fun W7 l7 => ⟨fun _ => ⟨fun z => ?_, fun z => ?_⟩, fun z => absurd z (by decide)⟩
      · have cz : clK (tkT (vI V1 0 1) N j).1 = 0 := (l7.tok c0).1.symm.trans z
        have j0 := clK_0.mp cz
        have ef : ckF (tkT (vI V1 0 1) N) (.inr j) = none := if_pos j0
        rw [ef] at ref
        exact w_X4_isRight_47 (ck_gp hI2 l7.1) (by rw [l7.1.l, g2.1]; exact by0.1) (fun W8 e8 => ⟨fun z => absurd z (by decide), fun _ => ref W7 W8 l7.1 e8 l7.2.2.2⟩)
      · have j0 : ¬ (tkT (vI V1 0 1) N j).1 = 0 := fun u => z ((l7.tok c0).1.trans (clK_0.mpr u))
        have ef : ckF (tkT (vI V1 0 1) N) (.inr j) = some (rfe (tkT (vI V1 0 1) N) j) := if_neg j0
        rw [ef] at ref
        refine k_refuse l7 c0 (fun W13 f13 fl => ⟨fun _ W8 e8 => ⟨fun _ => ?_, fun z => absurd rfl z⟩, fun z => absurd rfl z⟩)
        have w11 : vI W8 0 2 11 = nI (rfe (tkT (vI V1 0 1) N) j).2 := by rw [e8, wrI_ne (fun z => by omega)]; exact fl.2
        rw [w11]
        exact ref W13 W8 f13 e8 fl.1)
end
