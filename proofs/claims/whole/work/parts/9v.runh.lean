/-! a part's steps, from the first to the last: RunH -/
/-- the steps C stand from s on -/
def Cod (V : VH) (g s : Nat) (C : CD) : Prop := ∀ k, k < C.length → vI V g 15 (s + 2 * k) = (C.getD k (0, 0)).1 ∧ vI V g 15 (s + 2 * k + 1) = (C.getD k (0, 0)).2
theorem Cod.tl {V : VH} {g s : Nat} {e : Int32 × Int32} {C : CD} (h : Cod V g s (e :: C)) : (vI V g 15 s = e.1 ∧ vI V g 15 (s + 1) = e.2) ∧ Cod V g (s + 2) C := by
  refine ⟨h 0 (Nat.succ_pos _), fun k hk => ?_⟩
  have := h (k + 1) (Nat.succ_lt_succ hk)
  rw [show s + 2 + 2 * k = s + 2 * (k + 1) by omega]
  exact this
section
variable {E : EE} {d : Nat} {V : VH} {g nn nv nf : Nat} {nt : Nat → Int32} {K : Int32 → VH → Prop}
theorem run_go {a f e0 : Nat} {r : Int32} (h0 : 3 < d) (h : EV V g nn nt) (hv : nv ≤ 12) (hf : nf ≤ 16) (ha : SL (vL V) a f 14) (na : vN V a f = 16) (ne : ¬ (a = g ∧ (f = 9 ∨ f = 17))) (he : e0 ≤ vN V g 15) (he2 : vN V g 15 < 2 ^ 31 - 2) :
    ∀ (C : CD) (s : Nat) (W : VH) (st : List Int32), s + 2 * C.length = e0 → Cod V g s C → (∀ e, e ∈ C → Okc nf nv nn nt e) → Fc V W (skS g) → SK W g st → (∀ V', Fc V V' (skS g) → K (hdz (exc nt (cut nf (vI V a f)) (cut nv (vI V g 18)) C st)) V') → vwp E d M_X2_run 44 [some (sl g 9), some (wi r), some (sl a f), some (wi (nI e0)), some (wi (nI s)), none, none, none] [] W (zi K) := by
  intro C
  induction C with
  | nil =>
    intro s W st es cd ok fW sk hk
    have es' : s = e0 := es
    have hg : PG (vL W) g := by rw [fW.l]; exact h.1
    have ha' : SL (vL W) a f 14 := by rw [fW.l]; exact ha
    refine w_X2_run_44 hg ha' (by omega) ⟨fun _ => ?_, fun q => absurd (by rw [nI_1]; exact nI_le (by omega) (by omega)) q⟩
    exact c_pop hg sk (fun V' f1 _ => ⟨by rw [f1.n], hk V' (fW.trans f1)⟩)
  | cons e C ih =>
    intro s W st es cd ok fW sk hk
    have es' : s + 2 * (C.length + 1) = e0 := es
    obtain ⟨⟨c1, c2⟩, cd'⟩ := cd.tl
    have oke := ok e (List.mem_cons_self)
    obtain ⟨o, x⟩ := e
    have c1' : vI V g 15 s = o := c1
    have c2' : vI V g 15 (s + 1) = x := c2
    have i15 : ∀ {W : VH} (k : Nat), Fc V W (skS g) → vI W g 15 k = vI V g 15 k := fun k w => w.i (fun z => by have := z.2; omega)
    have iaf : ∀ {W : VH}, Fc V W (skS g) → vI W a f = vI V a f := fun w => funext fun k => w.i (fun z => ne ⟨z.1, by have := z.2; omega⟩)
    have i18 : ∀ {W : VH}, Fc V W (skS g) → vI W g 18 = vI V g 18 := fun w => funext fun k => w.i (fun z => by have := z.2; omega)
    have pgW : ∀ {W : VH}, Fc V W (skS g) → PG (vL W) g := fun w => by rw [w.l]; exact h.1
    have slW : ∀ {W : VH}, Fc V W (skS g) → SL (vL W) a f 14 := fun w => by rw [w.l]; exact ha
    rw [exc_cons] at hk
    have okC : ∀ e, e ∈ C → Okc nf nv nn nt e := fun e he => ok e (List.mem_cons_of_mem _ he)
    -- push, and on
    have nx : ∀ (W1 : VH) (y : Int32) (st1 : List Int32) (l5 l6 : Int32), Fc V W1 (skS g) → SK W1 g st1 → psh y st1 = stp nt (cut nf (vI V a f)) (cut nv (vI V g 18)) (o, x) st → vMV E (d - 1) M_X2_push [sl g 9, wi y] W1 (fun V15 => vN V15 a f = vN W1 a f ∧ (vwp E d M_X2_run 184 [some (sl g 9), some (wi r), some (sl a f), some (wi (nI e0)), some (wi (nI s)), some (wi l5), some (wi l6), none] [] V15 (zi K))) := by
      intro W1 y st1 l5 l6 f1 sk1 ep
      refine c_push (pgW f1) sk1 (fun W2 f2 sk2 => ⟨by rw [f2.n], ?_⟩)
      refine w_X2_run_184 (pgW (f1.trans f2)) (slW (f1.trans f2)) ?_
      rw [show nI s + 2 = nI (s + 2) from nI_add s 2]
      rw [ep] at sk2
      exact ih (s + 2) W2 _ (by omega) cd' okC (f1.trans f2) sk2 hk
    refine w_X2_run_44 (pgW fW) (slW fW) (by omega) ⟨fun q => absurd q (by rw [nI_1]; exact nI_ge (by omega) (by omega)), fun _ => ?_⟩
    rw [nI_1, nI_clamp (show s < 2 ^ 31 by omega), nI_clamp (show s + 1 < 2 ^ 31 by omega), i15 s fW, i15 (s + 1) fW, c1', c2', fW.n]
    refine ⟨vp_in_nI (by omega) (by omega), vp_in_nI (by omega) (by omega), fun q2 => ⟨fun q7 => ⟨fun n7 => ⟨fun q22 => ?_, fun q22 => ?_⟩, fun e7 => ?_⟩, fun q7 => ?_⟩, fun q2 => ?_⟩
    · -- many
      refine c_ofMany (nf := nf) (nv := nv) (by omega) (h.fc fW) hv q22 oke ⟨by rw [fW.n], ?_⟩
      rw [i18 fW]
      refine nx W _ st _ _ fW sk ?_
      unfold stp
      rw [if_pos q2, if_pos q7, if_neg n7, if_pos q22]
    · refine c_pop (pgW fW) sk (fun W1 f1 sk1 => ⟨by rw [f1.n, fW.n], ?_⟩)
      refine c_pop (pgW (fW.trans f1)) sk1 (fun W2 f2 sk2 => ⟨by rw [f2.n], ?_⟩)
      refine c_ofTwo (by omega) ⟨rfl, ?_⟩
      refine nx W2 _ st.tail.tail _ _ ((fW.trans f1).trans f2) sk2 ?_
      unfold stp
      rw [if_pos q2, if_pos q7, if_neg n7, if_neg q22]
    · -- picked
      refine c_pop (pgW fW) sk (fun W1 f1 sk1 => ⟨by rw [f1.n, fW.n], ?_⟩)
      subst e7
      obtain ⟨w, n, ew, b1, en⟩ := Okc_7.mp oke
      subst ew
      have hl := h.lt
      refine c_picked (z := fun j => nt (w + 1 + j)) (by omega) ((h.fc fW).fc f1) b1 en (fun _ _ => rfl) ⟨rfl, ?_⟩
      refine nx W1 _ st.tail _ _ (fW.trans f1) sk1 ?_
      unfold stp
      rw [if_pos q2, if_pos q7, if_pos rfl, nI_clamp (show w < 2 ^ 31 by omega)]
      unfold pkx
      rw [en]
    · refine c_pop (pgW fW) sk (fun W1 f1 sk1 => ⟨by rw [f1.n, fW.n], ?_⟩)
      refine c_ofOne (by omega) ⟨rfl, ?_⟩
      refine nx W1 _ st.tail _ _ (fW.trans f1) sk1 ?_
      unfold stp
      rw [if_pos q2, if_neg q7]
    · refine c_leaf (nf := nf) (nv := nv) (e := (o, x)) (h.fc fW) hv hf (slW fW) (by rw [fW.n]; exact na) q2 (Okc_lo oke q2) oke ⟨by rw [fW.n], ?_⟩
      rw [iaf fW, i18 fW]
      refine nx W _ st _ _ fW sk ?_
      unfold stp
      rw [if_neg q2]
/-- what steps say of facts and values -/
def dnt (nf nv : Nat) (nt : Nat → Int32) (C : CD) : Den := fun fa se => hdz (exc nt (cut nf fa) (cut nv se) C [])
theorem cut_ex {n : Nat} {s t : Nat → Int32} (h : ∀ k, k < n → s k = t k) : cut n s = cut n t := funext fun k => by
  unfold cut
  by_cases c : k < n
  · rw [if_pos c, if_pos c, h k c]
  · rw [if_neg c, if_neg c]
theorem dnt_x {C : CD} : Dx nv nf (dnt nf nv nt C) := fun fa fa' se se' h1 h2 => by
  unfold dnt
  rw [cut_ex h1, cut_ex h2]
theorem runH_of {r s : Nat} {C : CD} (h0 : 3 < d) (h : EV V g nn nt) (hv : nv ≤ 12) (hf : nf ≤ 16) (hr : r < 30) (es : vI V g 13 r = nI s) (ee : vI V g 14 r = nI (s + 2 * C.length)) (he : s + 2 * C.length ≤ vN V g 15) (he2 : vN V g 15 < 2 ^ 31 - 2) (cd : Cod V g s C) (ok : ∀ e, e ∈ C → Okc nf nv nn nt e) : RunH E d V g r (dnt nf nv nt C) := by
  intro V1 a f K jr ha na ne hk
  have h1 : EV V1 g nn nt := ⟨⟨by rw [jr.1]; exact h.1.1, h.1.2⟩, (jr.2.2.2.2 3 (by decide)).trans h.2.1, by rw [jr.2.2.1]; exact h.2.2.1, by rw [jr.2.2.1]; exact h.2.2.2.1, fun k hk => (jr.2.2.2.1 16 k (by omega)).trans (h.2.2.2.2 k hk)⟩
  have c1 : Cod V1 g s C := fun k hk => by rw [jr.2.2.2.1 15 _ (by omega), jr.2.2.2.1 15 _ (by omega)]; exact cd k hk
  refine w_X2_run_0 h1.1 ha (by omega) ⟨fun q => absurd q (nI_pos (by omega)), fun _ => ⟨fun _ W e1 => ⟨vp_in_nI (by omega) (by decide), vp_in_nI (by omega) (by decide), ?_⟩, fun q => absurd (nI_lt (b := 30) (by omega) (by decide)) q⟩⟩
  have f1 : Fc V1 W (skS g) := by rw [e1]; exact Fc_wrI ⟨rfl, Or.inl ⟨rfl, rfl⟩⟩
  rw [nI_clamp (show r < 2 ^ 31 by omega), f1.i (a := g) (f := 14) (fun z => by have := z.2; omega), f1.i (a := g) (f := 13) (fun z => by have := z.2; omega), f1.n, jr.2.2.2.1 13 r (by omega), jr.2.2.2.1 14 r (by omega), es, ee, jr.2.1, imin_nI he (by omega), show imax (nI s) 0 = nI s from (imax_nI (b := 0) (by omega) (by decide)).trans (by rw [Nat.max_zero])]
  exact run_go h0 h1 hv hf ha na ne (by rw [jr.2.1]; exact he) (by rw [jr.2.1]; exact he2) C s W [] rfl c1 ok f1 ⟨by rw [e1, wrI_at]; rfl, by decide, trivial⟩ hk
end
