/-! weighing a plan: the reference -/
/-- cells that values are worked out in -/
def evS : Nat → Nat → Nat → Prop := fun a f i => a = 6 ∧ (f = 0 ∧ (i = 54 ∨ i = 57) ∨ f = 37 ∨ f = 38 ∨ f = 39 ∨ f = 40 ∨ f = 41 ∨ f = 42)
/-- the tokens lo .. hi - 1 stay -/
def TR (lo hi : Nat) (V V' : VH) : Prop := ∀ f i, f = 5 ∨ f = 6 → lo ≤ i → i < hi → vI V' 6 f i = vI V 6 f i
theorem TR.trans {lo hi : Nat} {V V1 V2 : VH} (h : TR lo hi V V1) (k : TR lo hi V1 V2) : TR lo hi V V2 := fun f i q l u => (k f i q l u).trans (h f i q l u)
theorem Fc.tr {lo hi : Nat} {V V' : VH} {S : Nat → Nat → Nat → Prop} (h : Fc V V' S) (q : ∀ f i, f = 5 ∨ f = 6 → lo ≤ i → i < hi → ¬ S 6 f i) : TR lo hi V V' := fun f i z l u => h.i (q f i z l u)
/-- what facts and values may be -/
def Bd (x : Int32) : Prop := -9999 ≤ x.toInt ∧ x.toInt ≤ 9999
def Bds (n : Nat) (t : Nat → Int32) : Prop := ∀ i, i < n → Bd (t i)
/-- the test, or the sum, from token b on says D of nf facts and nv values; it stands in the tokens lo .. hi - 1 -/
def TvH (E : EE) (d : Nat) (V : VH) (nf nv lo hi b : Nat) (D : Den) : Prop := ∀ (V1 : VH) (K : Int64 → VH → Prop), TR lo hi V V1 → vI V1 6 0 54 = nI b → Bds nf (vI V1 6 36) → Bds nv (vI V1 6 35) → (∀ V', Fc V1 V' evS → K (Int32.toInt64 (D (vI V1 6 36) (vI V1 6 35))) V') → vMJ E d M_X12_testValue [sl 6 0] V1 K
def SvH (E : EE) (d : Nat) (V : VH) (nf nv lo hi b : Nat) (D : Den) : Prop := ∀ (V1 : VH) (K : Int64 → VH → Prop), TR lo hi V V1 → vI V1 6 0 54 = nI b → Bds nf (vI V1 6 36) → Bds nv (vI V1 6 35) → (∀ V', Fc V1 V' evS → K (Int32.toInt64 (D (vI V1 6 36) (vI V1 6 35))) V') → vMJ E d M_X12_sumValue [sl 6 0] V1 K
/-- what the reference has of rules and aims of problem p -/
def Rq (E : EE) (d : Nat) (V : VH) (nf nv p nr na : Nat) (lv al : Nat → Nat) (wt : Nat → Int32) (D DA : Nat → Den) : Prop := p < 5 ∧ nr ≤ 24 ∧ na ≤ 6 ∧ vI V 6 14 (4 * p + 2) = nI nr ∧ vI V 6 14 (4 * p + 3) = nI na ∧ (∀ r, r < nr → lv r < 3 ∧ vI V 6 24 (24 * p + r) = nI (lv r) ∧ vI V 6 25 (24 * p + r) = wt r ∧ ∃ b, vI V 6 26 (24 * p + r) = nI b ∧ TvH E d V nf nv (20000 * p) (20000 * p + 20000) b (D r)) ∧ ∀ a, a < na → al a < 3 ∧ vI V 6 27 (6 * p + a) = nI (al a) ∧ ∃ b, vI V 6 28 (6 * p + a) = nI b ∧ SvH E d V nf nv (20000 * p) (20000 * p + 20000) b (DA a)
theorem l2i_i2l (x : Int32) : Int64.toInt32 (Int32.toInt64 x) = x := Int32.toInt32_toInt64 x
section
variable {E : EE} {d : Nat} {V : VH} {p nv : Nat} {sz : Nat → Nat} {vl : Nat → Nat → Int32}
theorem c_rulesOf {nr : Nat} {K : Int32 → VH → Prop} (hp : p < 5) (h : vI V 6 14 (4 * p + 2) = nI nr) (hk : K (nI nr) V) : vMI E d M_X12_rulesOf [sl 6 0, wi (nI p)] V K := by
  have e : (4 : Int32) * nI p + 2 = nI (4 * p + 2) := by rw [show (4 : Int32) = nI 4 from rfl, nI_mul]; exact nI_add _ 2
  refine w_X12_rulesOf_0 ?_
  rw [e, nI_clamp (show 4 * p + 2 < 2 ^ 31 by omega), h]
  exact ⟨vp_in_nI (by omega) (by decide), hk⟩
theorem c_aimsOf {na : Nat} {K : Int32 → VH → Prop} (hp : p < 5) (h : vI V 6 14 (4 * p + 3) = nI na) (hk : K (nI na) V) : vMI E d M_X12_aimsOf [sl 6 0, wi (nI p)] V K := by
  have e : (4 : Int32) * nI p + 3 = nI (4 * p + 3) := by rw [show (4 : Int32) = nI 4 from rfl, nI_mul]; exact nI_add _ 3
  refine w_X12_aimsOf_0 ?_
  rw [e, nI_clamp (show 4 * p + 3 < 2 ^ 31 by omega), h]
  exact ⟨vp_in_nI (by omega) (by decide), hk⟩
/-- cells that weighing plan q changes -/
def wqS (q : Nat) : Nat → Nat → Nat → Prop := fun a f i => evS a f i ∨ a = 6 ∧ (f = 35 ∨ (f = 43 ∨ f = 44 ∨ f = 45) ∧ i % 20000 = q)
theorem i20k (r q : Nat) : (20000 : Int32) * nI r + nI q = nI (20000 * r + q) := by rw [show (20000 : Int32) = nI 20000 from rfl, nI_mul, nI_add]
theorem c_weighPlan {q nr na nf : Nat} {lv al : Nat → Nat} {wt : Nat → Int32} {D DA : Nat → Den} {K : VH → Prop} (h0 : 1 < d) (hS : Sq V p nv sz vl) (hR : Rq E (d - 1) V nf nv p nr na lv al wt D DA) (hx : ∀ r, r < nr → Dx nv nf (D r)) (hxa : ∀ a, a < na → Dx nv nf (DA a)) (hb : Bds nf (vI V 6 36)) (hbv : ∀ v, v < nv → ∀ k, k < sz v → Bd (vl v k)) (hq : q < Tp sz nv 0)
    (hk : ∀ V', Fc V V' (wqS q) → (∀ r, r < nr → vI V' 6 43 (20000 * r + q) = D r (vI V 6 36) (sn sz nv vl q)) → (∀ a, a < na → vI V' 6 44 (20000 * a + q) = DA a (vI V 6 36) (sn sz nv vl q)) → (∀ l, l < 3 → vJ V' 6 45 (20000 * l + q) = scP sz nv vl D DA lv al wt nr na (vI V 6 36) q l) → K V') : vMV E d M_X12_weighPlan [sl 6 0, wi (nI p), wi (nI q)] V K := by
  have hp := hS.1
  have h12 := hS.2.2.1
  have t0 := hS.2.2.2.2.1
  obtain ⟨_, hnr, hna, er, ea, hr, ha⟩ := id hR
  have nev : ∀ f i, f ≠ 0 → f ≠ 37 → f ≠ 38 → f ≠ 39 → f ≠ 40 → f ≠ 41 → f ≠ 42 → ¬ evS 6 f i := fun f i h1 h2 h3 h4 h5 h6 h7 z => by obtain ⟨_, z⟩ := z; omega
  have keep : ∀ {W : VH} (f i : Nat), Fc V W (wqS q) → f ≠ 0 → f ≠ 35 → f ≠ 37 → f ≠ 38 → f ≠ 39 → f ≠ 40 → f ≠ 41 → f ≠ 42 → f ≠ 43 → f ≠ 44 → f ≠ 45 → vI W 6 f i = vI V 6 f i := fun f i w h1 h2 h3 h4 h5 h6 h7 h8 h9 h10 h11 => w.i (fun z => by
    rcases z with ⟨_, z⟩ | ⟨_, z⟩ <;> omega)
  have sq : ∀ {W : VH}, Fc V W (wqS q) → Sq W p nv sz vl := fun w => hS.fc w (fun f i z y => by rcases y with ⟨_, y⟩ | ⟨_, y⟩ <;> omega)
  have tr : ∀ {W : VH}, Fc V W (wqS q) → TR (20000 * p) (20000 * p + 20000) V W := fun w => w.tr (fun f i z _ _ y => by rcases y with ⟨_, y⟩ | ⟨_, y⟩ <;> omega)
  have fa : ∀ {W : VH}, Fc V W (wqS q) → vI W 6 36 = vI V 6 36 := fun w => funext fun k => w.i (fun z => by rcases z with ⟨_, z⟩ | ⟨_, z⟩ <;> omega)
  have e24 : ∀ r, (24 : Int32) * nI p + nI r = nI (24 * p + r) := fun r => by rw [show (24 : Int32) = nI 24 from rfl, nI_mul, nI_add]
  have e6 : ∀ a, (6 : Int32) * nI p + nI a = nI (6 * p + a) := fun a => by rw [show (6 : Int32) = nI 6 from rfl, nI_mul, nI_add]
  have md : ∀ l, (20000 * l + q) % 20000 = q := fun l => by omega
  have go4 : ∀ (m a : Nat) (W : VH), a + m = na → Fc V W (wqS q) → (∀ v, v < nv → vI W 6 35 v = sn sz nv vl q v) → (∀ r, r < nr → vI W 6 43 (20000 * r + q) = D r (vI V 6 36) (sn sz nv vl q)) → (∀ b, b < a → vI W 6 44 (20000 * b + q) = DA b (vI V 6 36) (sn sz nv vl q)) → (∀ l, l < 3 → vJ W 6 45 (20000 * l + q) = wsA al DA (vI V 6 36) (sn sz nv vl q) (wsR lv wt D (vI V 6 36) (sn sz nv vl q) nr) a l) → vwp E d M_X12_weighPlan 173 [some (sl 6 0), some (wi (nI p)), some (wi (nI q)), some (wi (nI a))] [] W (zv K) := by
    intro m
    induction m with
    | zero =>
      intro a W ema w w35 w43 w44 wj
      have : a = na := by omega
      subst this
      refine w_X12_weighPlan_173 (by omega) (c_aimsOf hp (by rw [keep 14 _ w (by omega) (by omega) (by omega) (by omega) (by omega) (by omega) (by omega) (by omega) (by omega) (by omega) (by omega)]; exact ea) ⟨fun _ => hk W w w43 w44 wj, fun z => absurd (nI_le (Nat.le_refl _) (by omega)) z⟩)
    | succ m ih =>
      intro a W ema w w35 w43 w44 wj
      have haa : a < na := by omega
      obtain ⟨l3, el, b, eb, run⟩ := ha a haa
      refine w_X12_weighPlan_173 (by omega) (c_aimsOf hp (by rw [keep 14 _ w (by omega) (by omega) (by omega) (by omega) (by omega) (by omega) (by omega) (by omega) (by omega) (by omega) (by omega)]; exact ea) ⟨fun z => absurd z (nI_ge haa (by omega)), fun _ => ?_⟩)
      rw [e6, nI_clamp (show 6 * p + a < 2 ^ 31 by omega), keep 28 _ w (by omega) (by omega) (by omega) (by omega) (by omega) (by omega) (by omega) (by omega) (by omega) (by omega) (by omega), eb]
      refine ⟨vp_in_nI (by omega) (by decide), fun W4 e4 => ?_⟩
      have g4 : Fc W W4 (wqS q) := by rw [e4]; exact Fc_wrI (Or.inl ⟨rfl, Or.inl ⟨rfl, Or.inl rfl⟩⟩)
      have w4 := w.trans g4
      refine run W4 _ (tr w4) (by rw [e4]; exact wrI_at) (fun f hf => by rw [fa w4]; exact hb f hf) (fun v hv => by rw [e4, wrI_ne (fun z => by omega), w35 v hv]; exact hbv v hv _ (Dg_lt hS.pos hv)) (fun W5 f5 => ?_)
      have g5 : Fc W4 W5 (wqS q) := f5.mono (fun a f i z => Or.inl z)
      have w5 := w4.trans g5
      have dv : DA a (vI W4 6 36) (vI W4 6 35) = DA a (vI V 6 36) (sn sz nv vl q) := hxa a haa _ _ _ _ (fun f _ => by rw [fa w4]) (fun v hv => by rw [e4, wrI_ne (fun z => by omega)]; exact w35 v hv)
      rw [dv, l2i_i2l, i20k, nI_clamp (show 20000 * a + q < 2 ^ 31 by omega)]
      refine ⟨vp_in_nI (by omega) (by decide), fun W9 e9 => ?_⟩
      have g9 : Fc W5 W9 (wqS q) := by rw [e9]; exact Fc_wrI (Or.inr ⟨rfl, Or.inr ⟨by omega, md a⟩⟩)
      have w9 := w5.trans g9
      have v9 : vI W9 6 44 (20000 * a + q) = DA a (vI V 6 36) (sn sz nv vl q) := by rw [e9]; exact wrI_at
      rw [keep 27 _ w9 (by omega) (by omega) (by omega) (by omega) (by omega) (by omega) (by omega) (by omega) (by omega) (by omega) (by omega), el, i20k, nI_clamp (show 20000 * al a + q < 2 ^ 31 by omega), v9]
      refine ⟨vp_in_nI (by omega) (by decide), vp_in_nI (by omega) (by decide), vp_in_nI (by omega) (by decide), vp_in_nI (by omega) (by decide), fun W14 e14 => ?_⟩
      have g14 : Fc W9 W14 (wqS q) := by rw [e14]; exact Fc_wrJ (Or.inr ⟨rfl, Or.inr ⟨by omega, md _⟩⟩)
      have i5 : ∀ f k, f = 35 ∨ f = 43 ∨ f = 44 → vI W5 6 f k = vI W 6 f k := fun f k hf => by rw [f5.i (fun z => by obtain ⟨_, z⟩ := z; omega), e4, wrI_ne (fun z => by omega)]
      have j5 : ∀ k, vJ W9 6 45 k = vJ W 6 45 k := fun k => by
        rw [e9]; show vJ W5 6 45 k = _
        rw [f5.j (fun z => by obtain ⟨_, z⟩ := z; omega), e4]; rfl
      rw [nI_1]
      refine ih (a + 1) W14 (by omega) (w9.trans g14) (fun v hv => ?_) (fun r hr => ?_) (fun b hb => ?_) (fun l hl => ?_)
      · rw [e14]; show vI W9 6 35 v = _
        rw [e9, wrI_ne (fun z => by omega), i5 35 v (by omega)]; exact w35 v hv
      · rw [e14]; show vI W9 6 43 _ = _
        rw [e9, wrI_ne (fun z => by omega), i5 43 _ (by omega)]; exact w43 r hr
      · rw [e14]; show vI W9 6 44 _ = _
        by_cases c : b = a
        · subst c; exact v9
        · rw [e9, wrI_ne (fun z => by omega), i5 44 _ (by omega)]; exact w44 b (by omega)
      · rw [e14]
        by_cases c : l = al a
        · subst c; rw [wrJ_at, wsA_at, j5, wj _ hl]
        · rw [wrJ_ne (fun z => c (by omega)), j5, wsA_ne c]; exact wj l hl
  have go3 : ∀ (m r : Nat) (W : VH), r + m = nr → Fc V W (wqS q) → (∀ v, v < nv → vI W 6 35 v = sn sz nv vl q v) → (∀ b, b < r → vI W 6 43 (20000 * b + q) = D b (vI V 6 36) (sn sz nv vl q)) → (∀ l, l < 3 → vJ W 6 45 (20000 * l + q) = wsR lv wt D (vI V 6 36) (sn sz nv vl q) r l) → vwp E d M_X12_weighPlan 73 [some (sl 6 0), some (wi (nI p)), some (wi (nI q)), some (wi (nI r))] [] W (zv K) := by
    intro m
    induction m with
    | zero =>
      intro r W emr w w35 w43 wj
      have : r = nr := by omega
      subst this
      refine w_X12_weighPlan_73 (by omega) (c_rulesOf hp (by rw [keep 14 _ w (by omega) (by omega) (by omega) (by omega) (by omega) (by omega) (by omega) (by omega) (by omega) (by omega) (by omega)]; exact er) ⟨fun _ => ?_, fun z => absurd (nI_le (Nat.le_refl _) (by omega)) z⟩)
      exact go4 na 0 W (by omega) w w35 w43 (fun b hb => absurd hb (Nat.not_lt_zero b)) (fun l hl => by rw [wsA_0]; exact wj l hl)
    | succ m ih =>
      intro r W emr w w35 w43 wj
      have hrr : r < nr := by omega
      obtain ⟨l3, el, ew, b, eb, run⟩ := hr r hrr
      refine w_X12_weighPlan_73 (by omega) (c_rulesOf hp (by rw [keep 14 _ w (by omega) (by omega) (by omega) (by omega) (by omega) (by omega) (by omega) (by omega) (by omega) (by omega) (by omega)]; exact er) ⟨fun z => absurd z (nI_ge hrr (by omega)), fun _ => ?_⟩)
      rw [e24, nI_clamp (show 24 * p + r < 2 ^ 31 by omega), keep 26 _ w (by omega) (by omega) (by omega) (by omega) (by omega) (by omega) (by omega) (by omega) (by omega) (by omega) (by omega), eb]
      refine ⟨vp_in_nI (by omega) (by decide), fun W4 e4 => ?_⟩
      have g4 : Fc W W4 (wqS q) := by rw [e4]; exact Fc_wrI (Or.inl ⟨rfl, Or.inl ⟨rfl, Or.inl rfl⟩⟩)
      have w4 := w.trans g4
      refine run W4 _ (tr w4) (by rw [e4]; exact wrI_at) (fun f hf => by rw [fa w4]; exact hb f hf) (fun v hv => by rw [e4, wrI_ne (fun z => by omega), w35 v hv]; exact hbv v hv _ (Dg_lt hS.pos hv)) (fun W5 f5 => ?_)
      have g5 : Fc W4 W5 (wqS q) := f5.mono (fun a f i z => Or.inl z)
      have w5 := w4.trans g5
      have dv : D r (vI W4 6 36) (vI W4 6 35) = D r (vI V 6 36) (sn sz nv vl q) := hx r hrr _ _ _ _ (fun f _ => by rw [fa w4]) (fun v hv => by rw [e4, wrI_ne (fun z => by omega)]; exact w35 v hv)
      rw [dv, l2i_i2l, i20k, nI_clamp (show 20000 * r + q < 2 ^ 31 by omega)]
      refine ⟨vp_in_nI (by omega) (by decide), fun W9 e9 => ?_⟩
      have g9 : Fc W5 W9 (wqS q) := by rw [e9]; exact Fc_wrI (Or.inr ⟨rfl, Or.inr ⟨by omega, md r⟩⟩)
      have w9 := w5.trans g9
      have v9 : vI W9 6 43 (20000 * r + q) = D r (vI V 6 36) (sn sz nv vl q) := by rw [e9]; exact wrI_at
      rw [keep 24 _ w9 (by omega) (by omega) (by omega) (by omega) (by omega) (by omega) (by omega) (by omega) (by omega) (by omega) (by omega), el, i20k, nI_clamp (show 20000 * lv r + q < 2 ^ 31 by omega), v9, keep 25 _ w9 (by omega) (by omega) (by omega) (by omega) (by omega) (by omega) (by omega) (by omega) (by omega) (by omega) (by omega), ew]
      refine ⟨vp_in_nI (by omega) (by decide), vp_in_nI (by omega) (by decide), vp_in_nI (by omega) (by decide), vp_in_nI (by omega) (by decide), vp_in_nI (by omega) (by decide), fun W15 e15 => ?_⟩
      have g15 : Fc W9 W15 (wqS q) := by rw [e15]; exact Fc_wrJ (Or.inr ⟨rfl, Or.inr ⟨by omega, md _⟩⟩)
      have i5 : ∀ f k, f = 35 ∨ f = 43 → vI W5 6 f k = vI W 6 f k := fun f k hf => by rw [f5.i (fun z => by obtain ⟨_, z⟩ := z; omega), e4, wrI_ne (fun z => by omega)]
      have j5 : ∀ k, vJ W9 6 45 k = vJ W 6 45 k := fun k => by
        rw [e9]; show vJ W5 6 45 k = _
        rw [f5.j (fun z => by obtain ⟨_, z⟩ := z; omega), e4]; rfl
      rw [nI_1]
      refine ih (r + 1) W15 (by omega) (w9.trans g15) (fun v hv => ?_) (fun b hb => ?_) (fun l hl => ?_)
      · rw [e15]; show vI W9 6 35 v = _
        rw [e9, wrI_ne (fun z => by omega), i5 35 v (by omega)]; exact w35 v hv
      · rw [e15]; show vI W9 6 43 _ = _
        by_cases c : b = r
        · subst c; exact v9
        · rw [e9, wrI_ne (fun z => by omega), i5 43 _ (by omega)]; exact w43 b (by omega)
      · rw [e15]
        by_cases c : l = lv r
        · subst c; rw [wrJ_at, wsR_at, j5, wj _ hl]
        · rw [wrJ_ne (fun z => c (by omega)), j5, wsR_ne c]; exact wj l hl
  have go2 : ∀ (m l : Nat) (W : VH), l + m = 3 → Fc V W (wqS q) → (∀ v, v < nv → vI W 6 35 v = sn sz nv vl q v) → (∀ j, j < l → vJ W 6 45 (20000 * j + q) = 0) → vwp E d M_X12_weighPlan 47 [some (sl 6 0), some (wi (nI p)), some (wi (nI q)), some (wi (nI l))] [] W (zv K) := by
    intro m
    induction m with
    | zero =>
      intro l W eml w w35 wj
      have : l = 3 := by omega
      subst this
      exact w_X12_weighPlan_47 ⟨fun _ => go3 nr 0 W (by omega) w w35 (fun b hb => absurd hb (Nat.not_lt_zero b)) (fun l hl => by rw [wsR_0]; exact wj l hl), fun z => absurd (by decide) z⟩
    | succ m ih =>
      intro l W eml w w35 wj
      refine w_X12_weighPlan_47 ⟨fun z => absurd z (nI_ge (b := 3) (by omega) (by decide)), fun _ => ?_⟩
      rw [i20k, nI_clamp (show 20000 * l + q < 2 ^ 31 by omega), nI_1]
      refine ⟨vp_in_nI (by omega) (by decide), fun W2 e2 => ih (l + 1) W2 (by omega) (w.trans (by rw [e2]; exact Fc_wrJ (Or.inr ⟨rfl, Or.inr ⟨by omega, md l⟩⟩))) (fun v hv => by rw [e2]; exact w35 v hv) (fun j hj => ?_)⟩
      rw [e2]
      by_cases c : j = l
      · subst c; exact wrJ_at
      · rw [wrJ_ne (fun z => by omega)]; exact wj j (by omega)
  have go1 : ∀ (m v : Nat) (W : VH), v + m = nv → Fc V W (wqS q) → (∀ u, u < v → vI W 6 35 u = sn sz nv vl q u) → vwp E d M_X12_weighPlan 2 [some (sl 6 0), some (wi (nI p)), some (wi (nI q)), some (wi (nI v))] [] W (zv K) := by
    intro m
    induction m with
    | zero =>
      intro v W emv w w35
      refine w_X12_weighPlan_2 (by omega) (c_vars (sq w) ⟨fun _ => go2 3 0 W (by omega) w (fun u hu => w35 u (by omega)) (fun j hj => absurd hj (Nat.not_lt_zero j)), fun z => absurd (nI_le (by omega) (by omega)) z⟩)
    | succ m ih =>
      intro v W emv w w35
      have hv : v < nv := by omega
      have dl := Dg_lt hS.pos (p := q) hv
      have s20 := (hS.2.2.2.2.2 v hv).2.2.1
      refine w_X12_weighPlan_2 (by omega) (c_vars (sq w) ⟨fun z => absurd z (nI_ge hv (by omega)), fun _ => c_place (sq w) hv (by omega) ?_⟩)
      have e20 : (20 : Int32) * ((12 : Int32) * nI p + nI v) + nI (Dg sz nv v q) = nI (20 * (12 * p + v) + Dg sz nv v q) := by rw [i12, show (20 : Int32) = nI 20 from rfl, nI_mul, nI_add]
      rw [e20, nI_clamp (show 20 * (12 * p + v) + Dg sz nv v q < 2 ^ 31 by omega), nI_clamp (show v < 2 ^ 31 by omega), ((sq w).2.2.2.2.2 v hv).2.2.2.2 _ dl, nI_1]
      refine ⟨vp_in_nI (by omega) (by decide), vp_in_nI (by omega) (by decide), fun W9 e9 => ih (v + 1) W9 (by omega) (w.trans (by rw [e9]; exact Fc_wrI (Or.inr ⟨rfl, Or.inl rfl⟩))) (fun u hu => ?_)⟩
      rw [e9]
      by_cases c : u = v
      · subst c; exact wrI_at
      · rw [wrI_ne (fun z => by omega)]; exact w35 u (by omega)
  exact w_X12_weighPlan_0 (go1 nv 0 V (by omega) Fc.refl (fun u hu => absurd hu (Nat.not_lt_zero u)))
end
