/-! the class's table is worked out -/
/-- D looks at vars below nv and facts below nf alone -/
def Dx (nv nf : Nat) (D : Den) : Prop := ∀ fa fa' se se' : Nat → Int32, (∀ f, f < nf → fa f = fa' f) → (∀ v, v < nv → se v = se' v) → D fa se = D fa' se'
theorem wst_ext {D : Nat → Den} {fa fa' se se' : Nat → Int32} : ∀ n, (∀ r, r < n → D r fa se = D r fa' se') → wst D fa se n = wst D fa' se' n := by
  intro n
  induction n with
  | zero => intro _; rw [wst, wst]
  | succ n ih => intro h; rw [wst, wst, ih (fun r hr => h r (by omega)), h n (by omega)]
theorem wsR_ext {lv : Nat → Nat} {wt : Nat → Int32} {D : Nat → Den} {fa fa' se se' : Nat → Int32} (n : Nat) (h : ∀ r, r < n → D r fa se = D r fa' se') : wsR lv wt D fa se n = wsR lv wt D fa' se' n := by
  have go : ∀ n l, (∀ r, r < n → D r fa se = D r fa' se') → wsR lv wt D fa se n l = wsR lv wt D fa' se' n l := by
    intro n
    induction n with
    | zero => intro l _; rw [wsR, wsR]
    | succ n ih => intro l h; rw [wsR, wsR, ih l (fun r hr => h r (by omega)), h n (by omega)]
  exact funext fun l => go n l h
theorem wsA_ext {al : Nat → Nat} {DA : Nat → Den} {fa fa' se se' : Nat → Int32} {s0 : Nat → Int64} (n : Nat) (h : ∀ r, r < n → DA r fa se = DA r fa' se') : wsA al DA fa se s0 n = wsA al DA fa' se' s0 n := by
  have go : ∀ n l, (∀ r, r < n → DA r fa se = DA r fa' se') → wsA al DA fa se s0 n l = wsA al DA fa' se' s0 n l := by
    intro n
    induction n with
    | zero => intro l _; rw [wsA, wsA]
    | succ n ih => intro l h; rw [wsA, wsA, ih l (fun r hr => h r (by omega)), h n (by omega)]
  exact funext fun l => go n l h
/-- the values of plan q -/
def sn (sz : Nat → Nat) (nv : Nat) (vl : Nat → Nat → Int32) (q : Nat) : Nat → Int32 := fun v => vl v (Dg sz nv v q)
/-- sets and scores of plan q -/
def stP (sz : Nat → Nat) (nv : Nat) (vl : Nat → Nat → Int32) (D : Nat → Den) (nr : Nat) (fa : Nat → Int32) (q : Nat) : Int32 := wst D fa (sn sz nv vl q) nr
def scP (sz : Nat → Nat) (nv : Nat) (vl : Nat → Nat → Int32) (D DA : Nat → Den) (lv al : Nat → Nat) (wt : Nat → Int32) (nr na : Nat) (fa : Nat → Int32) (q l : Nat) : Int64 := wsA al DA fa (sn sz nv vl q) (wsR lv wt D fa (sn sz nv vl q) nr) na l
/-- all rules that some plan below b breaks -/
def evb (st : Nat → Int32) : Nat → Int32
  | 0 => 0
  | b + 1 => evb st b ||| st b
/-- rows of the table -/
def TbN (V : VH) (g : Nat) : Prop := vN V g 22 ≤ 20000 ∧ vN V g 20 = vN V g 22 ∧ vN V g 21 = 3 * vN V g 22
/-- rows that working out a table may change -/
def rnS (g : Nat) : Nat → Nat → Prop := fun a f => a = g ∧ (f = 9 ∨ f = 17 ∨ f = 18 ∨ f = 19 ∨ f = 20 ∨ f = 21 ∨ f = 22)
section
variable {E : EE} {d : Nat} {V : VH} {g nv : Nat} {sz : Nat → Nat} {vl : Nat → Nat → Int32}
theorem c_renew_go {nr na nf : Nat} {lv al : Nat → Nat} {wt : Nat → Int32} {D DA : Nat → Den} {K : VH → Prop} (h0 : 2 < d) (hS : Sp V g nv sz vl) (hR : Rl E (d - 2) V g nr na lv al wt D DA) (hx : ∀ r, r < nr → Dx nv nf (D r)) (hxa : ∀ a, a < na → Dx nv nf (DA a)) (n23 : vN V g 23 = 16) (hN : TbN V g) (hT : Tp sz nv 0 ≤ vN V g 22)
    (hk : ∀ V', Fc V V' (fun a f i => a = g ∧ (f = 9 ∧ i = 13 ∨ f = 17 ∨ f = 18 ∨ f = 19 ∧ (i = 0 ∨ i = 1) ∨ f = 21 ∨ f = 22)) → Tb V' g (Tp sz nv 0) (stP sz nv vl D nr (vI V g 23)) (scP sz nv vl D DA lv al wt nr na (vI V g 23)) → vI V' g 19 0 = 1 → vI V' g 19 1 = evb (stP sz nv vl D nr (vI V g 23)) (Tp sz nv 0) → K V') : vwp E d M_X9_renew 66 [some (sl g 19), some (sl g 0), some (wi (nI (Tp sz nv 0))), none] [] V (zv K) := by
  have hg := hS.1
  have t0 := hS.2.2.2.2.1
  obtain ⟨c1, c2, c3⟩ := id hN
  let S : Nat → Nat → Nat → Prop := fun a f i => a = g ∧ (f = 9 ∧ i = 13 ∨ f = 17 ∨ f = 18 ∨ f = 19 ∧ (i = 0 ∨ i = 1) ∨ f = 21 ∨ f = 22)
  refine w_X9_renew_66 hg (fun V1 e1 => ?_)
  have f1 : Fc V V1 S := by rw [e1]; exact Fc_wrI ⟨rfl, by omega⟩
  have go : ∀ (m q : Nat) (W : VH), q + m = Tp sz nv 0 → Fc V W S → vI W g 19 1 = evb (stP sz nv vl D nr (vI V g 23)) q → (∀ p, p < q → vI W g 22 p = stP sz nv vl D nr (vI V g 23) p ∧ ∀ l, l < 3 → vJ W g 21 (3 * p + l) = scP sz nv vl D DA lv al wt nr na (vI V g 23) p l) → vwp E d M_X9_renew 73 [some (sl g 19), some (sl g 0), some (wi (nI (Tp sz nv 0))), some (wi (nI q))] [] W (zv K) := by
    intro m
    induction m with
    | zero =>
      intro q W emq w we wr
      have : q = Tp sz nv 0 := by omega
      have hgw : PG (vL W) g := by rw [w.l]; exact hg
      refine w_X9_renew_73 hgw (by omega) ⟨fun _ V2 e2 => ?_, fun z => absurd (nI_le (by omega) (by omega)) z⟩
      have g2 : Fc W V2 S := by rw [e2]; exact Fc_wrI ⟨rfl, by omega⟩
      refine hk V2 (w.trans g2) ⟨by rw [g2.n, w.n]; exact hT, by rw [g2.n, w.n]; exact c1, by rw [g2.n, w.n]; exact c2, by rw [g2.n, w.n]; exact c3, fun p hp => ?_⟩ (by rw [e2]; exact wrI_at) (by rw [e2, wrI_ne (fun z => by omega), ← this]; exact we)
      rw [e2, wrI_ne (fun z => by omega)]
      exact wr p (by omega)
    | succ m ih =>
      intro q W emq w we wr
      have hq : q < Tp sz nv 0 := by omega
      have hgw : PG (vL W) g := by rw [w.l]; exact hg
      have Sw : Sp W g nv sz vl := hS.fc w (fun f i z y => by obtain ⟨_, y⟩ := y; omega)
      have jw : JR V W g := w.jr (fun f i z => by obtain ⟨_, z⟩ := z; omega)
      have fw : vI W g 23 = vI V g 23 := funext fun k => w.i (fun z => by obtain ⟨_, z⟩ := z; omega)
      have Rw : Rl E (d - 1 - 1) W g nr na lv al wt D DA := by
        rw [show d - 1 - 1 = d - 2 from by omega]
        obtain ⟨r1, r2, r3, r4, r5, r6, r7⟩ := hR
        refine ⟨hgw, r2, r3, by rw [jw.2.2.2.2 1 (by omega)]; exact r4, by rw [jw.2.2.2.2 2 (by omega)]; exact r5, fun r hr => ?_, fun a ha => ?_⟩
        · obtain ⟨x1, x2, x3, x4⟩ := r6 r hr
          exact ⟨x1, by rw [w.i (fun z => by obtain ⟨_, z⟩ := z; omega)]; exact x2, by rw [w.i (fun z => by obtain ⟨_, z⟩ := z; omega)]; exact x3, x4.jr jw⟩
        · obtain ⟨x1, x2, x3⟩ := r7 a ha
          exact ⟨x1, by rw [w.i (fun z => by obtain ⟨_, z⟩ := z; omega)]; exact x2, x3.jr jw⟩
      have em : (3 : Int32) * nI q = nI (3 * q) := nI_mul 3 q
      refine w_X9_renew_73 hgw (by omega) ⟨fun z => absurd z (nI_ge hq (by omega)), fun _ => ?_⟩
      rw [em]
      refine c_weighAll (by omega) Sw Rw (by omega) (sP_23 hgw) (sP_21 hgw) (by rw [w.n]; exact n23) (by omega) (by rw [w.n]; omega) (by rw [w.n]; omega) (by omega) (by omega) (fun W2 f2 s2 j2 => ?_)
      have g2 : Fc W W2 S := f2.mono (fun a f i z => by rcases z with ⟨z1, z2⟩ | ⟨z1, z2, _⟩ <;> exact ⟨by omega, by omega⟩)
      rw [fw] at j2 ⊢
      have x1 : wst D (vI V g 23) (vI W2 g 18) nr = stP sz nv vl D nr (vI V g 23) q := wst_ext nr (fun r hr => hx r hr _ _ _ _ (fun _ _ => rfl) (fun v hv => s2 v hv))
      have x2 : ∀ l, wsA al DA (vI V g 23) (vI W2 g 18) (wsR lv wt D (vI V g 23) (vI W2 g 18) nr) na l = scP sz nv vl D DA lv al wt nr na (vI V g 23) q l := fun l => by
        unfold scP
        rw [wsR_ext nr (fun r hr => hx r hr _ _ _ _ (fun _ _ => rfl) (fun v hv => s2 v hv)), wsA_ext na (fun r hr => hxa r hr _ _ _ _ (fun _ _ => rfl) (fun v hv => s2 v hv))]
        rfl
      rw [x1, nI_clamp (show q < 2 ^ 31 by omega)]
      refine ⟨by rw [g2.n], by rw [g2.n, w.n]; exact vp_in_nI (by omega) (by omega), fun W9 e9 => ?_⟩
      have n9 : vN W9 g 22 = vN V g 22 := by rw [e9]; show vN W2 g 22 = _; rw [g2.n, w.n]
      have v9 : vI W9 g 22 q = stP sz nv vl D nr (vI V g 23) q := by rw [e9]; exact wrI_at
      have ev9 : vI W9 g 19 1 = evb (stP sz nv vl D nr (vI V g 23)) q := by rw [e9, wrI_ne (fun z => by omega), f2.i (fun z => by rcases z with ⟨_, z⟩ | ⟨_, z, _⟩ <;> omega)]; exact we
      rw [n9, v9, ev9, nI_1]
      refine ⟨vp_in_nI (by omega) (by omega), fun W11 e11 => ?_⟩
      have g11 : Fc W2 W11 S := by rw [e11, e9]; exact (Fc_wrI ⟨rfl, by omega⟩).trans (Fc_wrI ⟨rfl, by omega⟩)
      refine ih (q + 1) W11 (by omega) ((w.trans g2).trans g11) (by rw [e11, wrI_at, evb]) (fun p hp => ?_)
      have j11 : ∀ k, vJ W11 g 21 k = vJ W2 g 21 k := fun k => by rw [e11, e9]; rfl
      refine ⟨?_, fun l hl => ?_⟩
      · rw [e11, wrI_ne (fun z => by omega), e9]
        by_cases c : p = q
        · subst c; exact wrI_at
        · rw [wrI_ne (fun z => by omega), f2.i (fun z => by rcases z with ⟨_, z⟩ | ⟨_, z, _⟩ <;> omega)]
          exact (wr p (by omega)).1
      · rw [j11]
        by_cases c : p = q
        · subst c; rw [j2 l hl]; exact x2 l
        · rw [f2.j (fun z => by rcases z with ⟨_, z⟩ | ⟨_, z, z1, z2⟩ <;> omega)]
          exact (wr p (by omega)).2 l hl
  exact go (Tp sz nv 0) 0 V1 (by omega) f1 (by rw [e1, evb]; exact wrI_at) (fun p hp => absurd hp (Nat.not_lt_zero p))
end
