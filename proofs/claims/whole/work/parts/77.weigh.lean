/-! weighing a plan: the class -/
/-- what a rule or an aim says of facts and values -/
abbrev Den : Type := (Nat → Int32) → (Nat → Int32) → Int32
/-- the scores behind r rules; behind all rules and a aims; the set of broken ones -/
def wsR (lv : Nat → Nat) (wt : Nat → Int32) (D : Nat → Den) (fa se : Nat → Int32) : Nat → Nat → Int64
  | 0, _ => 0
  | r + 1, l => if l = lv r then wsR lv wt D fa se r l + Int32.toInt64 (wt r) * Int32.toInt64 (D r fa se) else wsR lv wt D fa se r l
def wsA (al : Nat → Nat) (DA : Nat → Den) (fa se : Nat → Int32) (s0 : Nat → Int64) : Nat → Nat → Int64
  | 0, l => s0 l
  | a + 1, l => if l = al a then wsA al DA fa se s0 a l + Int32.toInt64 (DA a fa se) else wsA al DA fa se s0 a l
def wst (D : Nat → Den) (fa se : Nat → Int32) : Nat → Int32
  | 0 => 0
  | r + 1 => if D r fa se ≤ 0 then wst D fa se r else wst D fa se r ||| (1 <<< (nI r &&& 31))
theorem wsR_0 {lv : Nat → Nat} {wt : Nat → Int32} {D : Nat → Den} {fa se : Nat → Int32} {l : Nat} : wsR lv wt D fa se 0 l = 0 := by rw [wsR]
theorem wsR_at {lv : Nat → Nat} {wt : Nat → Int32} {D : Nat → Den} {fa se : Nat → Int32} {r : Nat} : wsR lv wt D fa se (r + 1) (lv r) = wsR lv wt D fa se r (lv r) + Int32.toInt64 (wt r) * Int32.toInt64 (D r fa se) := by rw [wsR, if_pos rfl]
theorem wsR_ne {lv : Nat → Nat} {wt : Nat → Int32} {D : Nat → Den} {fa se : Nat → Int32} {r l : Nat} (h : l ≠ lv r) : wsR lv wt D fa se (r + 1) l = wsR lv wt D fa se r l := by rw [wsR, if_neg h]
theorem wsA_0 {al : Nat → Nat} {DA : Nat → Den} {fa se : Nat → Int32} {s0 : Nat → Int64} {l : Nat} : wsA al DA fa se s0 0 l = s0 l := by rw [wsA]
theorem wsA_at {al : Nat → Nat} {DA : Nat → Den} {fa se : Nat → Int32} {s0 : Nat → Int64} {a : Nat} : wsA al DA fa se s0 (a + 1) (al a) = wsA al DA fa se s0 a (al a) + Int32.toInt64 (DA a fa se) := by rw [wsA, if_pos rfl]
theorem wsA_ne {al : Nat → Nat} {DA : Nat → Den} {fa se : Nat → Int32} {s0 : Nat → Int64} {a l : Nat} (h : l ≠ al a) : wsA al DA fa se s0 (a + 1) l = wsA al DA fa se s0 a l := by rw [wsA, if_neg h]
section
variable {E : EE} {d : Nat} {V : VH} {g nv : Nat} {sz : Nat → Nat} {vl : Nat → Nat → Int32}
theorem c_look {p : Nat} {K : VH → Prop} (h0 : 0 < d) (h : Sp V g nv sz vl) (hp : p < 2 ^ 31) (hk : ∀ V', Fc V V' (fun a f i => a = g ∧ f = 18 ∧ i < nv) → (∀ v, v < nv → vI V' g 18 v = vl v (Dg sz nv v p)) → K V') : vMV E d M_X2_look [sl g 9, sl g 5, wi (nI p)] V K := by
  have h12 := h.2.2.1
  have go : ∀ (m v : Nat) (V1 : VH), v + m = nv → Fc V V1 (fun a f i => a = g ∧ f = 18 ∧ i < nv) → (∀ u, u < v → vI V1 g 18 u = vl u (Dg sz nv u p)) → vwp E d M_X2_look 2 [some (sl g 9), some (sl g 5), some (wi (nI p)), some (wi (nI v))] [] V1 (zv K) := by
    intro m
    induction m with
    | zero =>
      intro v V1 ev f1 u1
      have s1 : Sp V1 g nv sz vl := h.fc f1 (fun f i q z => by omega)
      exact w_X2_look_2 s1.1 h0 ⟨fun _ => hk V1 f1 (fun u hu => u1 u (by omega)), fun q => absurd (by rw [s1.2.1]; exact nI_le (by omega) (by omega)) q⟩
    | succ m ih =>
      intro v V1 ev f1 u1
      have hv : v < nv := by omega
      have s1 : Sp V1 g nv sz vl := h.fc f1 (fun f i q z => by omega)
      refine w_X2_look_2 s1.1 h0 ⟨fun q => absurd q (by rw [s1.2.1]; exact nI_ge hv (by omega)), fun _ => ⟨fun q => absurd q (nI_ge (b := 12) (by omega) (by decide)), fun _ => c_valueOf s1 hv hp ⟨vp_in_nI (by omega) (by decide), fun V7 e7 => ?_⟩⟩⟩
      rw [nI_clamp (show v < 2 ^ 31 by omega)] at e7
      rw [nI_1]
      refine ih (v + 1) V7 (by omega) (f1.trans (by rw [e7]; exact Fc_wrI ⟨rfl, rfl, hv⟩)) (fun u hu => ?_)
      rw [e7]
      by_cases c : u = v
      · subst c; exact wrI_at
      · rw [wrI_ne (fun z => c z.2.2)]; exact u1 u (by omega)
  exact w_X2_look_0 h.1 (go nv 0 V (by omega) Fc.refl (fun u hu => absurd hu (Nat.not_lt_zero u)))
/-- the rows that parts are run by -/
def JR (V V' : VH) (g : Nat) : Prop := vL V' g = vL V g ∧ vN V' g 15 = vN V g 15 ∧ vN V' g 16 = vN V g 16 ∧ (∀ f i, f = 13 ∨ f = 14 ∨ f = 15 ∨ f = 16 → vI V' g f i = vI V g f i) ∧ ∀ i, i ≠ 13 → vI V' g 9 i = vI V g 9 i
theorem JR.refl : JR V V g := ⟨rfl, rfl, rfl, fun _ _ _ => rfl, fun _ _ => rfl⟩
theorem JR.trans {V1 V2 : VH} (h : JR V V1 g) (k : JR V1 V2 g) : JR V V2 g := ⟨k.1.trans h.1, k.2.1.trans h.2.1, k.2.2.1.trans h.2.2.1, fun f i q => (k.2.2.2.1 f i q).trans (h.2.2.2.1 f i q), fun i q => (k.2.2.2.2 i q).trans (h.2.2.2.2 i q)⟩
theorem Fc.jr {V' : VH} {S : Nat → Nat → Nat → Prop} (h : Fc V V' S) (q : ∀ f i, S g f i → f ≠ 13 ∧ f ≠ 14 ∧ f ≠ 15 ∧ f ≠ 16 ∧ (f = 9 → i = 13)) : JR V V' g := ⟨by rw [h.l], by rw [h.n], by rw [h.n], fun f i z => h.i (fun y => by have := q f i y; omega), fun i z => h.i (fun y => by have := q 9 i y; omega)⟩
/-- the stack's cells -/
def skS (g : Nat) : Nat → Nat → Nat → Prop := fun a f i => a = g ∧ (f = 9 ∧ i = 13 ∨ f = 17)
/-- part r of group g computes D, now and as long as its rows stay -/
def RunH (E : EE) (d : Nat) (V : VH) (g r : Nat) (D : Den) : Prop := ∀ (V1 : VH) (a f : Nat) (K : Int32 → VH → Prop), JR V V1 g → SL (vL V1) a f 14 → vN V1 a f = 16 → ¬ (a = g ∧ (f = 9 ∨ f = 17)) → (∀ V', Fc V1 V' (skS g) → K (D (vI V1 a f) (vI V1 g 18)) V') → vMI E d M_X2_run [sl g 9, wi (nI r), sl a f] V1 K
/-- what the class has of rules and aims -/
def Rl (E : EE) (d : Nat) (V : VH) (g nr na : Nat) (lv al : Nat → Nat) (wt : Nat → Int32) (D DA : Nat → Den) : Prop := PG (vL V) g ∧ nr ≤ 24 ∧ na ≤ 6 ∧ vI V g 9 1 = nI nr ∧ vI V g 9 2 = nI na ∧ (∀ r, r < nr → lv r < 3 ∧ vI V g 10 r = nI (lv r) ∧ vI V g 11 r = wt r ∧ RunH E d V g r (D r)) ∧ ∀ a, a < na → al a < 3 ∧ vI V g 10 (24 + a) = nI (al a) ∧ RunH E d V g (24 + a) (DA a)
theorem RunH.jr {V1 : VH} {r : Nat} {D : Den} (h : RunH E d V g r D) (k : JR V V1 g) : RunH E d V1 g r D := fun V2 a f K j => h V2 a f K (k.trans j)
/-- cells that weighing changes -/
def whS (g a4 f4 i0 : Nat) : Nat → Nat → Nat → Prop := fun a f i => a = g ∧ (f = 9 ∧ i = 13 ∨ f = 17 ∨ f = 18) ∨ a = a4 ∧ f = f4 ∧ i0 ≤ i ∧ i < i0 + 3
theorem c_weighAll {p nr na i0 a3 f3 a4 f4 : Nat} {lv al : Nat → Nat} {wt : Nat → Int32} {D DA : Nat → Den} {K : Int32 → VH → Prop} (h0 : 1 < d) (hS : Sp V g nv sz vl) (hR : Rl E (d - 1) V g nr na lv al wt D DA) (hp : p < 2 ^ 31) (h3 : SL (vL V) a3 f3 14) (h4 : SL (vL V) a4 f4 15) (n3 : vN V a3 f3 = 16) (q3 : ¬ (a3 = g ∧ (f3 = 9 ∨ f3 = 17 ∨ f3 = 18))) (hi : i0 + 3 ≤ vN V a4 f4) (hi2 : vN V a4 f4 < 2 ^ 31) (q4 : ¬ (a4 = a3 ∧ f4 = f3)) (q5 : ¬ (a4 = g ∧ f4 < 20))
    (hk : ∀ V', Fc V V' (whS g a4 f4 i0) → (∀ v, v < nv → vI V' g 18 v = vl v (Dg sz nv v p)) → (∀ l, l < 3 → vJ V' a4 f4 (i0 + l) = wsA al DA (vI V a3 f3) (vI V' g 18) (wsR lv wt D (vI V a3 f3) (vI V' g 18) nr) na l) → K (wst D (vI V a3 f3) (vI V' g 18) nr) V') : vMI E d M_X2_weighAll [sl g 9, sl g 5, wi (nI p), sl a3 f3, sl a4 f4, wi (nI i0)] V K := by
  have hg := hS.1
  have h12 := hS.2.2.1
  obtain ⟨_, hnr, hna, er, ea, hr, ha⟩ := id hR
  have e3 : nI (vN V a4 f4) - 3 = nI (vN V a4 f4 - 3) := by rw [show (3 : Int32) = nI 3 from rfl]; exact nI_sub (by omega)
  refine w_X2_weighAll_0 hg h3 h4 (by omega) ⟨fun q => absurd q (nI_pos (by omega)), fun _ => ⟨fun _ => ?_, fun q => absurd (by rw [e3]; exact nI_le (by omega) (by omega)) q⟩⟩
  refine c_look (by omega) hS hp (fun V1 f1 s1 => ?_)
  refine ⟨by rw [f1.n], by rw [f1.n], ?_⟩
  -- what stays, in whatever comes
  have F1 : Fc V V1 (whS g a4 f4 i0) := f1.mono (fun a f i z => Or.inl ⟨z.1, by omega⟩)
  have i3 : ∀ {W : VH}, Fc V W (whS g a4 f4 i0) → vI W a3 f3 = vI V a3 f3 := fun f => funext fun k => f.i (fun z => by
    rcases z with ⟨z1, z2⟩ | ⟨z1, z2, _⟩
    · exact q3 ⟨z1, by omega⟩
    · exact q4 ⟨z1.symm, z2.symm⟩)
  have jr : ∀ {W : VH}, Fc V W (whS g a4 f4 i0) → JR V W g := fun f => f.jr (fun f i z => by
    rcases z with ⟨_, z⟩ | ⟨z1, z2, _⟩
    · omega
    · have := fun y => q5 ⟨z1.symm, y⟩; omega)
  have k9 : ∀ {W : VH} (k : Nat), Fc V W (whS g a4 f4 i0) → k ≠ 13 → vI W g 9 k = vI V g 9 k := fun k f hk => (jr f).2.2.2.2 k hk
  have k10 : ∀ {W : VH} (f k : Nat), f = 10 ∨ f = 11 → Fc V W (whS g a4 f4 i0) → vI W g f k = vI V g f k := fun f k hf w => w.i (fun z => by
    rcases z with ⟨_, z⟩ | ⟨z1, z2, _⟩
    · omega
    · have := fun y => q5 ⟨z1.symm, y⟩; omega)
  have sk : ∀ {W : VH}, Fc V1 W (whS g a4 f4 i0) → Fc V W (whS g a4 f4 i0) := fun f => F1.trans f
  have slu : ∀ {W : VH} {a f k : Nat}, Fc V W (whS g a4 f4 i0) → SL (vL V) a f k → SL (vL W) a f k := fun w s => by rw [w.l]; exact s
  -- 'seen' stays from V1 on
  have go3 : ∀ (m a : Nat) (W : VH) (set : Int32), a + m = na → Fc V W (whS g a4 f4 i0) → vI W g 18 = vI V1 g 18 → set = wst D (vI V a3 f3) (vI V1 g 18) nr → (∀ l, l < 3 → vJ W a4 f4 (i0 + l) = wsA al DA (vI V a3 f3) (vI V1 g 18) (wsR lv wt D (vI V a3 f3) (vI V1 g 18) nr) a l) → vwp E d M_X2_weighAll 122 [some (sl g 9), some (sl g 5), some (wi (nI p)), some (sl a3 f3), some (sl a4 f4), some (wi (nI i0)), some (wi set), some (wi (nI a)), none] [] W (zi K) := by
    intro m
    induction m with
    | zero =>
      intro a W set ema w w18 es wj
      have : a = na := by omega
      subst this
      have hgw : PG (vL W) g := by rw [w.l]; exact hg
      refine w_X2_weighAll_122 hgw (slu w h3) (slu w h4) (by omega) ⟨fun _ => ?_, fun q => absurd (by rw [k9 2 w (by omega), ea]; exact nI_le (Nat.le_refl _) (by omega)) q⟩
      rw [es, ← w18]
      exact hk W w (fun v hv => by rw [w18]; exact s1 v hv) (fun l hl => by rw [w18]; exact wj l hl)
    | succ m ih =>
      intro a W set ema w w18 es wj
      have haa : a < na := by omega
      obtain ⟨l3, el, run⟩ := ha a haa
      have hgw : PG (vL W) g := by rw [w.l]; exact hg
      have e24 : (24 : Int32) + nI a = nI (24 + a) := nI_add 24 a
      refine w_X2_weighAll_122 hgw (slu w h3) (slu w h4) (by omega) ⟨fun q => absurd q (by rw [k9 2 w (by omega), ea]; exact nI_ge haa (by omega)), fun _ => ?_⟩
      rw [e24, nI_clamp (show 24 + a < 2 ^ 31 by omega), k10 10 (24 + a) (by omega) w, el, nI_add, nI_clamp (show i0 + al a < 2 ^ 31 by omega), w.n]
      refine ⟨vp_in_nI (by omega) (by decide), vp_in_nI (by omega) (by omega), run W a3 f3 _ (jr w) (slu w h3) (by rw [w.n]; exact n3) (fun z => q3 ⟨z.1, by omega⟩) (fun W3 f3' => ?_)⟩
      refine ⟨by first | rw [f3'.n, w.n] | rw [f3'.n], by first | rw [f3'.n, w.n] | rw [f3'.n], by rw [f3'.n, w.n]; exact vp_in_nI (by omega) (by omega), fun W14 e14 => ?_⟩
      have g3 : Fc W W3 (whS g a4 f4 i0) := f3'.mono (fun a f i z => Or.inl ⟨z.1, by have := z.2; omega⟩)
      have g14 : Fc W3 W14 (whS g a4 f4 i0) := by rw [e14]; exact Fc_wrJ (Or.inr ⟨rfl, rfl, by omega, by omega⟩)
      have w18' : vI W14 g 18 = vI V1 g 18 := by
        rw [← w18, e14]
        exact funext fun k => f3'.i (fun z => by have := z.2; omega)
      rw [nI_1]
      rw [i3 w, w18] at e14
      refine ih (a + 1) W14 set (by omega) ((w.trans g3).trans g14) w18' es (fun l hl => ?_)
      have jw : ∀ k, vJ W3 a4 f4 k = vJ W a4 f4 k := fun k => f3'.j (fun z => q5 ⟨z.1, by have := z.2; omega⟩)
      rw [e14]
      by_cases c : l = al a
      · subst c
        rw [wrJ_at, wsA_at, wj _ hl]
      · rw [wrJ_ne (fun z => c (by omega)), jw, wsA_ne c]
        exact wj l hl
  have go2 : ∀ (m r : Nat) (W : VH), r + m = nr → Fc V W (whS g a4 f4 i0) → vI W g 18 = vI V1 g 18 → (∀ l, l < 3 → vJ W a4 f4 (i0 + l) = wsR lv wt D (vI V a3 f3) (vI V1 g 18) r l) → vwp E d M_X2_weighAll 53 [some (sl g 9), some (sl g 5), some (wi (nI p)), some (sl a3 f3), some (sl a4 f4), some (wi (nI i0)), some (wi (wst D (vI V a3 f3) (vI V1 g 18) r)), some (wi (nI r)), none] [] W (zi K) := by
    intro m
    induction m with
    | zero =>
      intro r W emr w w18 wj
      have : r = nr := by omega
      subst this
      have hgw : PG (vL W) g := by rw [w.l]; exact hg
      refine w_X2_weighAll_53 hgw (slu w h3) (slu w h4) (by omega) ⟨fun _ => ?_, fun q => absurd (by rw [k9 1 w (by omega), er]; exact nI_le (Nat.le_refl _) (by omega)) q⟩
      exact go3 na 0 W _ (by omega) w w18 rfl (fun l hl => by rw [wsA_0]; exact wj l hl)
    | succ m ih =>
      intro r W emr w w18 wj
      have hrr : r < nr := by omega
      obtain ⟨l3, el, ew, run⟩ := hr r hrr
      have hgw : PG (vL W) g := by rw [w.l]; exact hg
      refine w_X2_weighAll_53 hgw (slu w h3) (slu w h4) (by omega) ⟨fun q => absurd q (by rw [k9 1 w (by omega), er]; exact nI_ge hrr (by omega)), fun _ => ?_⟩
      refine run W a3 f3 _ (jr w) (slu w h3) (by rw [w.n]; exact n3) (fun z => q3 ⟨z.1, by omega⟩) (fun W1 f1' => ?_)
      rw [i3 w, w18]
      have g1 : Fc W W1 (whS g a4 f4 i0) := f1'.mono (fun a f i z => Or.inl ⟨z.1, by have := z.2; omega⟩)
      have w1 := w.trans g1
      have hg1 : PG (vL W1) g := by rw [w1.l]; exact hg
      have w18' : vI W1 g 18 = vI V1 g 18 := by
        rw [← w18]
        exact funext fun k => f1'.i (fun z => by have := z.2; omega)
      have jw : ∀ k, vJ W1 a4 f4 k = vJ W a4 f4 k := fun k => f1'.j (fun z => q5 ⟨z.1, by have := z.2; omega⟩)
      have next : ∀ set : Int32, set = wst D (vI V a3 f3) (vI V1 g 18) (r + 1) → vwp E d M_X2_weighAll 85 [some (sl g 9), some (sl g 5), some (wi (nI p)), some (sl a3 f3), some (sl a4 f4), some (wi (nI i0)), some (wi set), some (wi (nI r)), some (wi (D r (vI V a3 f3) (vI V1 g 18)))] [] W1 (zi K) := fun set es => by
        refine w_X2_weighAll_85 hg1 (slu w1 h3) (slu w1 h4) ?_
        rw [nI_clamp (show r < 2 ^ 31 by omega), k10 10 r (by omega) w1, el, nI_add, nI_clamp (show i0 + lv r < 2 ^ 31 by omega), w1.n, k10 11 r (by omega) w1, ew]
        refine ⟨vp_in_nI (by omega) (by decide), vp_in_nI (by omega) (by omega), vp_in_nI (by omega) (by decide), vp_in_nI (by omega) (by omega), fun W5 e5 => ?_⟩
        have g5 : Fc W1 W5 (whS g a4 f4 i0) := by rw [e5]; exact Fc_wrJ (Or.inr ⟨rfl, rfl, by omega, by omega⟩)
        rw [nI_1, es]
        refine ih (r + 1) W5 (by omega) (w1.trans g5) (by rw [e5]; exact w18') (fun l hl => ?_)
        rw [e5]
        by_cases c : l = lv r
        · subst c
          rw [wrJ_at, wsR_at, jw, wj _ hl]
        · rw [wrJ_ne (fun z => c (by omega)), jw, wsR_ne c]
          exact wj l hl
      exact ⟨by rw [f1'.n], by rw [f1'.n], fun q => next _ (by rw [wst, if_pos q]), fun q => next _ (by rw [wst, if_neg q])⟩
  have go1 : ∀ (m l : Nat) (W : VH), l + m = 3 → Fc V W (whS g a4 f4 i0) → vI W g 18 = vI V1 g 18 → (∀ j, j < l → vJ W a4 f4 (i0 + j) = 0) → vwp E d M_X2_weighAll 26 [some (sl g 9), some (sl g 5), some (wi (nI p)), some (sl a3 f3), some (sl a4 f4), some (wi (nI i0)), some (wi (nI l)), none, none] [] W (zi K) := by
    intro m
    induction m with
    | zero =>
      intro l W eml w w18 wj
      have : l = 3 := by omega
      subst this
      have hgw : PG (vL W) g := by rw [w.l]; exact hg
      refine w_X2_weighAll_26 hgw (slu w h3) (slu w h4) ⟨fun _ => ?_, fun q => absurd (by decide) q⟩
      have := go2 nr 0 W (by omega) w w18 (fun l hl => by rw [wsR_0]; exact wj l hl)
      rw [wst] at this
      exact this
    | succ m ih =>
      intro l W eml w w18 wj
      have hgw : PG (vL W) g := by rw [w.l]; exact hg
      refine w_X2_weighAll_26 hgw (slu w h3) (slu w h4) ⟨fun q => absurd q (nI_ge (b := 3) (by omega) (by decide)), fun _ => ?_⟩
      rw [nI_add, nI_clamp (show i0 + l < 2 ^ 31 by omega), w.n, nI_1]
      refine ⟨vp_in_nI (by omega) (by omega), fun W2 e2 => ih (l + 1) W2 (by omega) (w.trans (by rw [e2]; exact Fc_wrJ (Or.inr ⟨rfl, rfl, by omega, by omega⟩))) (by rw [e2]; exact w18) (fun j hj => ?_)⟩
      rw [e2]
      by_cases c : j = l
      · subst c; exact wrJ_at
      · rw [wrJ_ne (fun z => by omega)]; exact wj j (by omega)
  exact go1 3 0 V1 (by omega) F1 rfl (fun j hj => absurd hj (Nat.not_lt_zero j))
end
