/-! the reference weighs all plans -/
section
variable {E : EE} {d : Nat} {V : VH} {p nv : Nat} {sz : Nat → Nat} {vl : Nat → Nat → Int32}
/-- fact f as it is, or as future u has it -/
def tfv (V : VH) (p : Nat) (u : Option Nat) (f : Nat) : Int32 := match u with
  | none => vI V 6 15 (16 * p + f)
  | some u => if vI V 6 31 (16 * (6 * p + u) + f) = 0 then vI V 6 15 (16 * p + f) else vI V 6 32 (16 * (6 * p + u) + f)
theorem c_takeFacts {nf : Nat} {u : Option Nat} {K : VH → Prop} (hp : p < 5) (hn : nf ≤ 16) (e : vI V 6 14 (4 * p) = nI nf) (hu : ∀ j, u = some j → j < 6) (hk : ∀ V', Fc V V' (fun a f _ => a = 6 ∧ f = 36) → (∀ f, f < nf → vI V' 6 36 f = tfv V p u f) → K V') : vMV E d M_X12_takeFacts [sl 6 0, wi (nI p), wi (cuI u)] V K := by
  have e4 : (4 : Int32) * nI p = nI (4 * p) := nI_mul 4 p
  have e16 : ∀ f, (16 : Int32) * nI p + nI f = nI (16 * p + f) := fun f => by rw [show (16 : Int32) = nI 16 from rfl, nI_mul, nI_add]
  have go : ∀ (m f : Nat) (W : VH), f + m = nf → Fc V W (fun a f _ => a = 6 ∧ f = 36) → (∀ i, i < f → vI W 6 36 i = tfv V p u i) → vwp E d M_X12_takeFacts 2 [some (sl 6 0), some (wi (nI p)), some (wi (cuI u)), some (wi (nI f)), none] [] W (zv K) := by
    intro m
    induction m with
    | zero =>
      intro f W em w wf
      refine w_X12_takeFacts_2 ?_
      rw [e4, nI_clamp (show 4 * p < 2 ^ 31 by omega), w.i (fun z => by omega), e]
      exact ⟨vp_in_nI (by omega) (by decide), fun _ => hk W w (fun i hi => wf i (by omega)), fun z => absurd (nI_le (by omega) (by omega)) z⟩
    | succ m ih =>
      intro f W em w wf
      have hf : f < nf := by omega
      have hl : SL (vL W) 6 36 14 ∨ True := Or.inr trivial
      have store : ∀ x : Int32, x = tfv V p u f → ∀ y : Int32, SL (vL W) 6 36 14 → vwp E d M_X12_takeFacts 67 [some (sl 6 0), some (wi (nI p)), some (wi (cuI u)), some (wi (nI f)), some (wi y)] [wi x, wi (nI f), sl 6 36] W (zv K) := fun x ex y hl => by
        refine vwp.wf (fun hW => ?_)
        refine w_X12_takeFacts_67 hl ?_
        have n36 : vN W 6 36 = 16 := hW.2.1 6 hW.1.2.1 (36, 16) (by decide)
        rw [n36, nI_clamp (show f < 2 ^ 31 by omega), nI_1]
        refine ⟨vp_in_nI (by omega) (by decide), fun W2 e2 => ih (f + 1) W2 (by omega) (w.trans (by rw [e2]; exact Fc_wrI ⟨rfl, rfl⟩)) (fun i hi => ?_)⟩
        rw [e2]
        by_cases c : i = f
        · subst c; rw [wrI_at]; exact ex
        · rw [wrI_ne (fun z => by omega)]; exact wf i (by omega)
      refine vwp.wf (fun hW => ?_)
      have hl : SL (vL W) 6 36 14 := ⟨hW.1.2.1, by decide, rfl⟩
      have plain : tfv V p u f = vI V 6 15 (16 * p + f) → ∀ y : Int32, vwp E d M_X12_takeFacts 56 [some (sl 6 0), some (wi (nI p)), some (wi (cuI u)), some (wi (nI f)), some (wi y)] [wi (nI f), sl 6 36] W (zv K) := fun ep y => by
        refine w_X12_takeFacts_56 hl ?_
        rw [e16, nI_clamp (show 16 * p + f < 2 ^ 31 by omega), w.i (fun z => by omega)]
        exact ⟨vp_in_nI (by omega) (by decide), store _ ep.symm y hl⟩
      refine w_X12_takeFacts_2 ?_
      rw [e4, nI_clamp (show 4 * p < 2 ^ 31 by omega), w.i (fun z => by omega), e]
      refine ⟨vp_in_nI (by omega) (by decide), fun z => absurd z (nI_ge hf (by omega)), fun _ => ?_⟩
      cases u with
      | none => exact ⟨fun _ => plain rfl _, fun z => absurd (by decide) z⟩
      | some j =>
        have hj := hu j rfl
        have ek : (16 : Int32) * ((6 : Int32) * nI p + cuI (some j)) + nI f = nI (16 * (6 * p + j) + f) := by
          show (16 : Int32) * ((6 : Int32) * nI p + nI j) + nI f = _
          rw [show (16 : Int32) = nI 16 from rfl, show (6 : Int32) = nI 6 from rfl, nI_mul, nI_add, nI_mul, nI_add]
        refine ⟨fun z => absurd z (nI_pos (by omega)), fun _ => ?_⟩
        rw [ek, nI_clamp (show 16 * (6 * p + j) + f < 2 ^ 31 by omega), w.i (fun z => by omega), w.i (fun z => by omega)]
        refine ⟨vp_in_nI (by omega) (by decide), fun z => ?_, fun z => ⟨vp_in_nI (by omega) (by decide), ?_⟩⟩
        · exact plain (if_pos z) _
        · exact store _ (if_neg z).symm _ hl
  exact w_X12_takeFacts_0 (go nf 0 V (by omega) Fc.refl (fun i hi => absurd hi (Nat.not_lt_zero i)))
/-- what is cached then -/
def chI (p : Nat) (u : Option Nat) : Int32 := match u with
  | none => nI p
  | some _ => -1
/-- all that the reference works out of a problem's plans -/
def Wq (V : VH) (nv : Nat) (sz : Nat → Nat) (vl : Nat → Nat → Int32) (nr na : Nat) (lv al : Nat → Nat) (wt : Nat → Int32) (D DA : Nat → Den) (fa : Nat → Int32) (b : Nat) : Prop := ∀ q, q < b → (∀ r, r < nr → vI V 6 43 (20000 * r + q) = D r fa (sn sz nv vl q)) ∧ (∀ a, a < na → vI V 6 44 (20000 * a + q) = DA a fa (sn sz nv vl q)) ∧ ∀ l, l < 3 → vJ V 6 45 (20000 * l + q) = scP sz nv vl D DA lv al wt nr na fa q l
theorem Wq.tq {nr na : Nat} {lv al : Nat → Nat} {wt : Nat → Int32} {D DA : Nat → Den} {fa : Nat → Int32} (h : Wq V nv sz vl nr na lv al wt D DA fa (Tp sz nv 0)) (ht : Tp sz nv 0 ≤ 20000) : Tq V (Tp sz nv 0) (scP sz nv vl D DA lv al wt nr na fa) := ⟨ht, fun q hq l hl => (h q hq).2.2 l hl⟩
/-- cells that weighing all plans changes -/
def waS : Nat → Nat → Nat → Prop := fun a f i => evS a f i ∨ a = 6 ∧ (f = 35 ∨ f = 36 ∨ f = 43 ∨ f = 44 ∨ f = 45 ∨ f = 0 ∧ (i = 62 ∨ i = 63))
theorem Rq.fc {V' : VH} {S : Nat → Nat → Nat → Prop} {nf nr na : Nat} {lv al : Nat → Nat} {wt : Nat → Int32} {D DA : Nat → Den} (h : Rq E d V nf nv p nr na lv al wt D DA) (k : Fc V V' S) (q : ∀ f i, f = 5 ∨ f = 6 ∨ f = 14 ∨ f = 24 ∨ f = 25 ∨ f = 26 ∨ f = 27 ∨ f = 28 → ¬ S 6 f i) : Rq E d V' nf nv p nr na lv al wt D DA := by
  obtain ⟨h1, h2, h3, h4, h5, h6, h7⟩ := h
  have t : TR (20000 * p) (20000 * p + 20000) V V' := k.tr (fun f i z _ _ => q f i (by omega))
  refine ⟨h1, h2, h3, by rw [k.i (q 14 _ (by omega))]; exact h4, by rw [k.i (q 14 _ (by omega))]; exact h5, fun r hr => ?_, fun a ha => ?_⟩
  · obtain ⟨x1, x2, x3, b, x4, x5⟩ := h6 r hr
    exact ⟨x1, by rw [k.i (q 24 _ (by omega))]; exact x2, by rw [k.i (q 25 _ (by omega))]; exact x3, b, by rw [k.i (q 26 _ (by omega))]; exact x4, fun V1 K t1 => x5 V1 K (t.trans t1)⟩
  · obtain ⟨x1, x2, b, x4, x5⟩ := h7 a ha
    exact ⟨x1, by rw [k.i (q 27 _ (by omega))]; exact x2, b, by rw [k.i (q 28 _ (by omega))]; exact x4, fun V1 K t1 => x5 V1 K (t.trans t1)⟩
theorem c_weighAllM {nr na nf : Nat} {u : Option Nat} {lv al : Nat → Nat} {wt : Nat → Int32} {D DA : Nat → Den} {K : VH → Prop} (h0 : 2 < d) (hS : Sq V p nv sz vl) (hR : Rq E (d - 2) V nf nv p nr na lv al wt D DA) (hx : ∀ r, r < nr → Dx nv nf (D r)) (hxa : ∀ a, a < na → Dx nv nf (DA a)) (hn : nf ≤ 16) (e : vI V 6 14 (4 * p) = nI nf) (hb : Bds nf (tfv V p u)) (hbv : ∀ v, v < nv → ∀ k, k < sz v → Bd (vl v k)) (hu : ∀ j, u = some j → j < 6)
    (hk : ∀ V', Fc V V' waS → Wq V' nv sz vl nr na lv al wt D DA (tfv V p u) (Tp sz nv 0) → vI V' 6 0 62 = chI p u → vI V' 6 0 63 = vI V 6 33 p → K V') : vMV E d M_X12_weighAll [sl 6 0, wi (nI p), wi (cuI u)] V K := by
  have hp := hS.1
  have t0 := hS.2.2.2.2.1
  refine w_X12_weighAll_0 (by omega) (c_takeFacts hp hn e hu (fun V1 f1 x1 => ?_))
  have F1 : Fc V V1 waS := f1.mono (fun a f i z => Or.inr ⟨z.1, by omega⟩)
  have go : ∀ (m q : Nat) (W : VH), q + m = Tp sz nv 0 → Fc V W waS → vI W 6 36 = vI V1 6 36 → Wq W nv sz vl nr na lv al wt D DA (tfv V p u) q → vwp E d M_X12_weighAll 8 [some (sl 6 0), some (wi (nI p)), some (wi (cuI u)), some (wi (nI q))] [] W (zv K) := by
    intro m
    induction m with
    | zero =>
      intro q W em w wf wq
      have : q = Tp sz nv 0 := by omega
      subst this
      have fin : ∀ t : Int32, t = chI p u → vwp E d M_X12_weighAll 40 [some (sl 6 0), some (wi (nI p)), some (wi (cuI u)), some (wi (nI (Tp sz nv 0)))] [wi t, sl 6 0] W (zv K) := fun t et => by
        refine w_X12_weighAll_40 (fun W1 e1 => ?_)
        rw [nI_clamp (show p < 2 ^ 31 by omega)]
        refine ⟨vp_in_nI hp (by decide), fun W3 e3 => ?_⟩
        have s1 : vI W1 6 33 p = vI V 6 33 p := by rw [e1, wrI_ne (fun z => by omega), w.i (fun z => by rcases z with ⟨_, z⟩ | ⟨_, z⟩ <;> omega)]
        rw [s1] at e3
        have g3 : Fc W W3 waS := by rw [e3, e1]; exact (Fc_wrI (Or.inr ⟨rfl, by omega⟩)).trans (Fc_wrI (Or.inr ⟨rfl, by omega⟩))
        refine hk W3 (w.trans g3) (fun q hq => ?_) (by rw [e3, wrI_ne (fun z => by omega), e1, wrI_at]; exact et) (by rw [e3]; exact wrI_at)
        obtain ⟨a1, a2, a3⟩ := wq q hq
        refine ⟨fun r hr => ?_, fun a ha => ?_, fun l hl => ?_⟩
        · rw [e3, wrI_ne (fun z => by omega), e1, wrI_ne (fun z => by omega)]; exact a1 r hr
        · rw [e3, wrI_ne (fun z => by omega), e1, wrI_ne (fun z => by omega)]; exact a2 a ha
        · rw [e3, e1]; exact a3 l hl
      refine w_X12_weighAll_8 (by omega) ?_
      rw [nI_clamp (show p < 2 ^ 31 by omega), w.i (fun z => by rcases z with ⟨_, z⟩ | ⟨_, z⟩ <;> omega), hS.2.2.2.1]
      refine ⟨vp_in_nI hp (by decide), fun _ => ?_, fun z => absurd (nI_le (Nat.le_refl _) (by omega)) z⟩
      cases u with
      | none => exact ⟨fun _ => fin _ rfl, fun z => absurd (by decide) z⟩
      | some j =>
        have hj := hu j rfl
        exact ⟨fun z => absurd z (nI_pos (by omega)), fun _ => fin _ rfl⟩
    | succ m ih =>
      intro q W em w wf wq
      have hq : q < Tp sz nv 0 := by omega
      have sw : Sq W p nv sz vl := hS.fc w (fun f i z y => by rcases y with ⟨_, y⟩ | ⟨_, y⟩ <;> omega)
      have rw_ : Rq E (d - 1 - 1) W nf nv p nr na lv al wt D DA := by
        rw [show d - 1 - 1 = d - 2 from by omega]
        exact hR.fc w (fun f i z y => by rcases y with ⟨_, y⟩ | ⟨_, y⟩ <;> omega)
      have fx : ∀ f, f < nf → vI W 6 36 f = tfv V p u f := fun f hf => by rw [wf]; exact x1 f hf
      refine w_X12_weighAll_8 (by omega) ?_
      rw [nI_clamp (show p < 2 ^ 31 by omega), w.i (fun z => by rcases z with ⟨_, z⟩ | ⟨_, z⟩ <;> omega), hS.2.2.2.1]
      refine ⟨vp_in_nI hp (by decide), fun z => absurd z (nI_ge hq (by omega)), fun _ => c_weighPlan (by omega) sw rw_ hx hxa (fun f hf => by rw [fx f hf]; exact hb f hf) hbv hq (fun W2 f2 b1 b2 b3 => ?_)⟩
      have g2 : Fc W W2 waS := f2.mono (fun a f i z => by rcases z with z | ⟨z1, z2⟩; exact Or.inl z; exact Or.inr ⟨z1, by omega⟩)
      have dr : ∀ r, r < nr → D r (vI W 6 36) (sn sz nv vl q) = D r (tfv V p u) (sn sz nv vl q) := fun r hr => hx r hr _ _ _ _ fx (fun _ _ => rfl)
      have da : ∀ a, a < na → DA a (vI W 6 36) (sn sz nv vl q) = DA a (tfv V p u) (sn sz nv vl q) := fun a ha => hxa a ha _ _ _ _ fx (fun _ _ => rfl)
      rw [nI_1]
      refine ih (q + 1) W2 (by omega) (w.trans g2) (by rw [← wf]; exact funext fun k => f2.i (fun z => by rcases z with ⟨_, z⟩ | ⟨_, z⟩ <;> omega)) (fun q' hq' => ?_)
      by_cases c : q' = q
      · subst c
        refine ⟨fun r hr => by rw [b1 r hr, dr r hr], fun a ha => by rw [b2 a ha, da a ha], fun l hl => ?_⟩
        rw [b3 l hl]
        unfold scP
        rw [wsR_ext nr dr, wsA_ext na da]
      · obtain ⟨a1, a2, a3⟩ := wq q' (by omega)
        have ne : ∀ r f, f = 43 ∨ f = 44 ∨ f = 45 → ¬ wqS q 6 f (20000 * r + q') := fun r f hf z => by
          rcases z with ⟨_, z⟩ | ⟨_, z⟩ <;> omega
        exact ⟨fun r hr => by rw [f2.i (ne r 43 (by omega))]; exact a1 r hr, fun a ha => by rw [f2.i (ne a 44 (by omega))]; exact a2 a ha, fun l hl => by rw [f2.j (ne l 45 (by omega))]; exact a3 l hl⟩
  exact go (Tp sz nv 0) 0 V1 (by omega) F1 rfl (fun q hq => absurd hq (Nat.not_lt_zero q))
theorem c_know {nr na nf : Nat} {lv al : Nat → Nat} {wt : Nat → Int32} {D DA : Nat → Den} {K : VH → Prop} (h0 : 3 < d) (hS : Sq V p nv sz vl) (hR : Rq E (d - 3) V nf nv p nr na lv al wt D DA) (hx : ∀ r, r < nr → Dx nv nf (D r)) (hxa : ∀ a, a < na → Dx nv nf (DA a)) (hn : nf ≤ 16) (e : vI V 6 14 (4 * p) = nI nf) (hb : Bds nf (tfv V p none)) (hbv : ∀ v, v < nv → ∀ k, k < sz v → Bd (vl v k))
    (hc : vI V 6 0 62 = nI p → vI V 6 0 63 = vI V 6 33 p → Wq V nv sz vl nr na lv al wt D DA (tfv V p none) (Tp sz nv 0))
    (hk : ∀ V', Fc V V' waS → Wq V' nv sz vl nr na lv al wt D DA (tfv V p none) (Tp sz nv 0) → vI V' 6 0 62 = nI p → vI V' 6 0 63 = vI V 6 33 p → K V') : vMV E d M_X12_know [sl 6 0, wi (nI p)] V K := by
  have hp := hS.1
  have again : vwp E d M_X12_know 21 [some (sl 6 0), some (wi (nI p))] [] V (zv K) := by
    refine w_X12_know_21 (by omega) ?_
    exact c_weighAllM (u := none) (by omega) hS (by rw [show d - 1 - 2 = d - 3 from by omega]; exact hR) hx hxa hn e hb hbv (fun j z => absurd z (by simp)) hk
  refine w_X12_know_0 ⟨fun _ => again, fun q => ?_⟩
  rw [nI_clamp (show p < 2 ^ 31 by omega)]
  exact ⟨vp_in_nI hp (by decide), fun q2 => hk V Fc.refl (hc q q2) q q2, fun _ => again⟩
end
