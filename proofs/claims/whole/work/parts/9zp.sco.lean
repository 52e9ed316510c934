/-! the class's table is made anew -/
section
variable {E : EE} {d : Nat} {V W : VH} {q B : Nat} {t : Nat → Int32} {n : Nat} {R : List SR} {nt fa : Nat → Int32} {h : Nat} {x : Int32} {cs : Nat → Int32} {S : Nat → Nat → Prop}
theorem Fr.byt {b c n : Nat} (k : Fr V W S) (h : Byt V b c n) (z1 : ¬ S b c) (z2 : ¬ S b (c + 1)) : Byt W b c n := by
  obtain ⟨h1, h2, h3, h4, h5⟩ := h
  have e := k.n z2
  exact ⟨by rw [k.1]; exact h1, by rw [k.i z1]; exact h2, by rw [e]; exact h3, by rw [e]; exact h4, by rw [e]; exact h5⟩
/-- rows that are made anew, or longer -/
theorem PbJ.fr (h : PbJ V q) (k : Fr V W S) (q1 : ∀ f, ¬ S (q + 1) f) (q2 : ∀ f, ¬ S 6 f) : PbJ W q := by
  have c : ∀ f, vI W (q + 1) f = vI V (q + 1) f := fun f => k.i (q1 f)
  have cn : ∀ f, vN W (q + 1) f = vN V (q + 1) f := fun f => k.n (q1 f)
  have cj : ∀ f, vJ W (q + 1) f = vJ V (q + 1) f := fun f => k.j (q1 f)
  have m : ∀ f, vI W 6 f = vI V 6 f := fun f => k.i (q2 f)
  have mj : ∀ f, vJ W 6 f = vJ V 6 f := fun f => k.j (q2 f)
  rcases h with ⟨a, b⟩ | ⟨t, n, R, nt, fa, h, x, cs, hs, hc, hm, ⟨l1, l2⟩, fu, tb, ch, px⟩
  · exact Or.inl ⟨by rw [m]; exact a, fun z => by rw [c]; rw [k.1] at z; exact b z⟩
  · refine Or.inr ⟨t, n, R, nt, fa, h, x, cs, hs, hc.fr (by rw [k.1]) (fun f _ => cn f) (fun f j _ => by rw [c]) (fun j => by rw [cj]), hm.fr hs (fun f j z _ => by rw [m]), ⟨by rw [c]; exact l1, by rw [m]; exact l2⟩, fu.ex (hs.2.2.2.1.1 0 (by decide)) (fun f j _ => by rw [c]) (fun f j z _ _ => by rw [m]), ?_, fun e1 e2 => ?_, px⟩
    · rcases tb with z | ⟨z1, z2⟩
      · exact Or.inl (by rw [c]; exact z)
      · exact Or.inr ⟨z1.ex (fun f _ => cn f) (fun j => by rw [c]) (fun j => by rw [cj]), by rw [c]; exact z2⟩
    · rw [m] at e1
      rw [m, m] at e2
      exact Wq.ex (ch e1 e2) (fun f j hf => by rw [m]) (fun j => by rw [mj])
theorem TpJ.fr (h : TpJ V) (k : Fr V W S) (z : ∀ f, f < 2 → ¬ S 0 f) (m : ∀ f, ¬ S 6 f) : TpJ W := by
  obtain ⟨n, h1, h2, h3⟩ := h
  exact ⟨n, k.byt h1 (z 0 (by decide)) (z 1 (by decide)), ⟨by rw [k.i (m 0)]; exact h2.1, h2.2⟩, fun i hi => by rw [k.i (z 1 (by decide)), k.i (m 1)]; exact h3 i hi⟩
theorem StJ.fr (h : StJ V) (k : Fr V W S) (z : ∀ f, 23 ≤ f → f ≤ 26 → ¬ S 0 f) (m : ∀ f, ¬ S 6 f) : StJ W := by
  obtain ⟨c, l, en, ⟨a1, a2, a3⟩, ⟨b1, b2, b3⟩, ⟨c1, c2, c3, c4⟩, e⟩ := h
  have m' : ∀ f, vI W 6 f = vI V 6 f := fun f => k.i (m f)
  have z' : ∀ f, 23 ≤ f → f ≤ 26 → vI W 0 f = vI V 0 f := fun f h1 h2 => k.i (z f h1 h2)
  refine ⟨c, l, en, ⟨by rw [z' 23 (by decide) (by decide)]; exact a1, by rw [m']; exact a2, a3⟩, ⟨k.byt b1 (z 24 (by decide) (by decide)) (z 25 (by decide) (by decide)), ⟨by rw [m']; exact b2.1, b2.2⟩, fun i hi => by rw [m', z' 25 (by decide) (by decide)]; exact b3 i hi⟩, ⟨c1, c2, fun i hi => by rw [z' 26 (by decide) (by decide), z' 25 (by decide) (by decide)]; exact c3 i hi, fun i hi => by rw [m']; exact c4 i hi⟩, ?_⟩
  rw [z' 23 (by decide) (by decide), m']
  exact e
theorem JS.fr (hJ : JS B V) (k : Fr V W S) (z : ∀ f, S 0 f → ¬ (f < 7 ∨ f = 16 ∨ 23 ≤ f ∧ f ≤ 26 ∨ f = 28)) (m : ∀ f, ¬ S 6 f) (hg : GrJ W) (hc : CapOK W) (hp : ∀ q, q < 4 → (∃ f, S (q + 1) f) → PbJ W q) (h15 : vN W 0 15 = vN V 0 15 ∨ 4096 ≤ vN W 0 15) : JS B W := by
  obtain ⟨a1, a2, ⟨cap, a3, a15⟩, a4, a5, a6, a7, a8, a9⟩ := hJ
  have m' : ∀ f, vI W 6 f = vI V 6 f := fun f => k.i (m f)
  have i0 : ∀ f, (f < 7 ∨ f = 16 ∨ 23 ≤ f ∧ f ≤ 26 ∨ f = 28) → vI W 0 f = vI V 0 f := fun f y => k.i (fun y' => z f y' y)
  have n0 : ∀ f, (f < 7 ∨ f = 16 ∨ 23 ≤ f ∧ f ≤ 26 ∨ f = 28) → vN W 0 f = vN V 0 f := fun f y => k.n (fun y' => z f y' y)
  refine ⟨a1.fr k (fun f hf y => z f y (by omega)) m, ?_, ⟨cap, ?_⟩, ?_, a5.fr k (fun f h1 h2 y => z f y (by omega)) m, hg, ?_, hc, fun q hq => ?_⟩
  · unfold BdJ
    rw [i0 28 (by omega), m', k.j (m 0), k.j (fun y => z 28 y (by omega))]
    exact a2
  · unfold TkJ TkN
    rw [n0 3 (by omega), n0 4 (by omega), n0 5 (by omega), n0 6 (by omega)]
    exact ⟨a3, by omega⟩
  · unfold SeJ
    rw [i0 16 (by omega), m']
    exact a4
  · unfold StpJ
    rw [m', m']
    exact a7
  · by_cases c : ∃ f, S (q + 1) f
    · exact hp q hq c
    · exact (a9 q hq).fr k (fun f y => c ⟨f, y⟩) m
/-- rows of the table -/
def tbS (q a f : Nat) : Prop := a = q + 1 ∧ (f = 20 ∨ f = 21 ∨ f = 22)
theorem PbI.gr (hI : PbI V q t n R nt fa h x cs) (k : Fr V W (tbS q)) (hf : vI V (q + 1) 19 0 = 0) : PbI W q t n R nt fa h x cs := by
  have hq6 : q + 1 ≠ 6 := hI.2.1.1.2.2
  have c : ∀ f, f < 20 ∨ 22 < f → vI W (q + 1) f = vI V (q + 1) f := fun f z => k.i (fun y => by have := y.2; omega)
  have cn : ∀ f, f < 20 ∨ 22 < f → vN W (q + 1) f = vN V (q + 1) f := fun f z => k.n (fun y => by have := y.2; omega)
  have cj : ∀ f, f < 20 ∨ 22 < f → vJ W (q + 1) f = vJ V (q + 1) f := fun f z => k.j (fun y => by have := y.2; omega)
  have m : ∀ f, vI W 6 f = vI V 6 f := fun f => k.i (fun y => hq6 y.1.symm)
  have mj : ∀ f, vJ W 6 f = vJ V 6 f := fun f => k.j (fun y => hq6 y.1.symm)
  obtain ⟨hs, hc, hm, ⟨l1, l2⟩, fu, tb, ch, px⟩ := hI
  refine ⟨hs, hc.fr (by rw [k.1]) (fun f z => cn f (by omega)) (fun f j z => by rw [c f (by unfold kpC at z; omega)]) (fun j => by rw [cj 3 (by omega)]), hm.fr hs (fun f j z _ => by rw [m]), ⟨by rw [c 0 (by omega)]; exact l1, by rw [m]; exact l2⟩, fu.ex (hs.2.2.2.1.1 0 (by decide)) (fun f j _ => by rw [c f (by omega)]) (fun f j z _ _ => by rw [m]), Or.inl (by rw [c 19 (by omega)]; exact hf), fun e1 e2 => ?_, px⟩
  rw [m] at e1
  rw [m, m] at e2
  exact Wq.ex (ch e1 e2) (fun f j hf => by rw [m]) (fun j => by rw [mj])
/-- the class's table stands -/
def Scd (V : VH) (q : Nat) (R : List SR) (nt fa : Nat → Int32) : Prop := Tb V (q + 1) (plR R) (stP (szR R) (tcR R 1) (vlR R) (DR R nt) (tcR R 2) fa) (scP (szR R) (tcR R 1) (vlR R) (DR R nt) (DRa R nt) (lvn R) (aln R) (wtR R) (tcR R 2) (tcR R 3) fa) ∧ vI V (q + 1) 19 1 = evb (stP (szR R) (tcR R 1) (vlR R) (DR R nt) (tcR R 2) fa) (plR R)
theorem evb_ext {st st' : Nat → Int32} : ∀ b, (∀ p, p < b → st p = st' p) → evb st b = evb st' b := by
  intro b
  induction b with
  | zero => intro _; rfl
  | succ b ih => intro h; rw [evb, evb, ih (fun p hp => h p (by omega)), h b (by omega)]
theorem renew_go {K : VH → Prop} (h0 : 6 < d) (hW : vN V (q + 1) 23 = 16) (hq : q < 4) (hJ : JS B V) (hI : PbI V q t n R nt fa h x cs) (hN : plR R ≤ vN V (q + 1) 22) (hk : ∀ V1, JS B V1 → PbI V1 q t n R nt fa h x cs → Scd V1 q R nt fa → K V1) : vwp E d M_X9_renew 66 [some (sl (q + 1) 19), some (sl (q + 1) 0), some (wi (nI (plR R))), none] [] V (zv K) := by
  have hq6 : q + 1 ≠ 6 := hI.2.1.1.2.2
  have bd := hI.bd
  have est : ∀ p, stP (szR R) (tcR R 1) (vlR R) (DR R nt) (tcR R 2) (vI V (q + 1) 23) p = stP (szR R) (tcR R 1) (vlR R) (DR R nt) (tcR R 2) fa p := stP_ext bd.1
  have esc := scP_ext (R := R) (nt := nt) (fa := vI V (q + 1) 23) (fa' := fa) bd.1
  refine c_renew_go (nf := tcR R 0) (by omega) hI.sp (hI.2.1.rl hI.1 (by omega)) (fun r _ => PrS.dx r) (fun a _ => PrS.dxa a) hW (hJ.2.2.2.2.2.1.2 (q + 1) (by omega) (by omega) hI.2.1.1.1).2.1 hN (fun V1 k tb e0 e1 => ?_)
  rw [show stP (szR R) (tcR R 1) (vlR R) (DR R nt) (tcR R 2) (vI V (q + 1) 23) = stP (szR R) (tcR R 1) (vlR R) (DR R nt) (tcR R 2) fa from funext est, show scP (szR R) (tcR R 1) (vlR R) (DR R nt) (DRa R nt) (lvn R) (aln R) (wtR R) (tcR R 2) (tcR R 3) (vI V (q + 1) 23) = scP (szR R) (tcR R 1) (vlR R) (DR R nt) (DRa R nt) (lvn R) (aln R) (wtR R) (tcR R 2) (tcR R 3) fa from funext esc] at tb
  rw [show stP (szR R) (tcR R 1) (vlR R) (DR R nt) (tcR R 2) (vI V (q + 1) 23) = stP (szR R) (tcR R 1) (vlR R) (DR R nt) (tcR R 2) fa from funext est] at e1
  have sc : Scd V1 q R nt fa := ⟨tb, e1⟩
  have c : ∀ f j, ¬ (f = 9 ∧ j = 13 ∨ f = 17 ∨ f = 18 ∨ f = 19 ∧ (j = 0 ∨ j = 1) ∨ f = 21 ∨ f = 22) → vI V1 (q + 1) f j = vI V (q + 1) f j := fun f j z => k.i (fun y => z y.2)
  have m : ∀ f j, vI V1 6 f j = vI V 6 f j := fun f j => k.i (fun y => hq6 y.1.symm)
  have mj : ∀ f j, vJ V1 6 f j = vJ V 6 f j := fun f j => k.j (fun y => hq6 y.1.symm)
  have hI1 : PbI V1 q t n R nt fa h x cs := by
    obtain ⟨hs, hc, hm, ⟨l1, l2⟩, fu, _, ch, px⟩ := hI
    refine ⟨hs, hc.fr (by rw [k.l]) (fun f z => by rw [k.n]) (fun f j z => c f j (by unfold kpC at z; omega)) (fun j => k.j (fun y => by have := y.2; omega)), hm.fr hs (fun f j z _ => m f j), ⟨by rw [c 0 0 (by omega)]; exact l1, by rw [m]; exact l2⟩, fu.ex (hs.2.2.2.1.1 0 (by decide)) (fun f j _ => c f j (by omega)) (fun f j z _ _ => m f j), Or.inr sc, fun z1 z2 => ?_, px⟩
    rw [m] at z1
    rw [m, m] at z2
    exact Wq.ex (ch z1 z2) (fun f j hf => m f j) (fun j => mj 45 j)
  exact hk V1 (hJ.sc hq (k.mono (fun a f j y => Or.inl ⟨y.1, by have := y.2; omega⟩)) (Or.inr ⟨t, n, R, nt, fa, h, x, cs, hI1⟩)) hI1 sc
theorem c_renewQ {K : VH → Prop} (h0 : 6 < d) (hW : WF V) (hq : q < 4) (hJ : JS B V) (hI : PbI V q t n R nt fa h x cs) (hk : ∀ V1, JS B V1 → PbI V1 q t n R nt fa h x cs → Scd V1 q R nt fa → K V1) : vMV E d M_X9_renew [sl (q + 1) 19, sl (q + 1) 0] V K := by
  have n23 : vN V (q + 1) 23 = 16 := vnP hW hI.2.1.1 (by decide)
  have gj := hJ.2.2.2.2.2.1
  obtain ⟨t1, t2, t3⟩ := (gj.2 (q + 1) (by omega) (by omega) hI.2.1.1.1).2.1
  have p20 := hI.p20
  have hpl : vI V (q + 1) 5 1 = nI (plR R) := hI.sp.2.2.2.1
  refine w_X9_renew_0 (by omega) hI.2.1.1 hpl p20 (by omega) rfl t2 t3 rfl (fun z => ?_) (fun z y => renew_go h0 n23 hq hJ hI y hk) (fun z y => ?_)
  · rcases hI.2.2.2.2.2.1 with w | w
    · exact absurd w z
    · exact hk V hJ hI w
  · generalize eN : max (plR R) (min 20000 (2 * vN V (q + 1) 22)) = N
    have hN : plR R ≤ N ∧ N ≤ 20000 := by omega
    generalize eW : gr0 (gr0 (gr0 V (q + 1) 22 N) (q + 1) 20 N) (q + 1) 21 (3 * N) = W
    have k : Fr V W (tbS q) := by
      rw [← eW]
      exact ((Fr_gro ⟨rfl, by omega⟩).trans (Fr_gro ⟨rfl, by omega⟩)).trans (Fr_gro ⟨rfl, by omega⟩)
    have m22 : vN W (q + 1) 22 = N := by rw [← eW]; simp [gr0, gro, vN]
    have m20 : vN W (q + 1) 20 = N := by rw [← eW]; simp [gr0, gro, vN]
    have m21 : vN W (q + 1) 21 = 3 * N := by rw [← eW]; simp [gr0, gro, vN]
    have hI1 := hI.gr k z
    refine renew_go h0 (by rw [k.n (fun y => by have := y.2; omega)]; exact n23) hq (hJ.fr k (fun f y => by have := y.1; omega) (fun f y => hI.2.1.1.2.2 y.1.symm) ⟨fun g h1 h2 h3 => by rw [k.1] at h3; rw [k.2.1, k.2.2.1]; exact gj.1 g h1 h2 h3, fun g h1 h2 h3 => ?_⟩ (fun g f h1 h2 h3 => ?_) (fun q' hq' ⟨f, y⟩ => ?_) (Or.inl (k.n (fun y => by have := y.1; omega)))) hI1 (by omega) hk
    · rw [k.1] at h3
      obtain ⟨b1, b2, l, b3⟩ := gj.2 g h1 h2 h3
      by_cases u : g = q + 1
      · subst u
        refine ⟨?_, ⟨by omega, by rw [m20, m22], by rw [m21, m22]⟩, l, k.byt b3 (fun y => by have := y.2; omega) (fun y => by have := y.2; omega)⟩
        unfold CpS
        rw [k.n (fun y => by have := y.2; omega), k.n (fun y => by have := y.2; omega)]
        exact b1
      · refine ⟨?_, ?_, l, k.byt b3 (fun y => u y.1) (fun y => u y.1)⟩
        · unfold CpS
          rw [k.n (fun y => u y.1), k.n (fun y => u y.1)]
          exact b1
        · unfold TbN
          rw [k.n (fun y => u y.1), k.n (fun y => u y.1), k.n (fun y => u y.1)]
          exact b2
    · rw [k.1] at h1
      have old := hJ.2.2.2.2.2.2.2.1 g f h1 h2 h3
      by_cases u : tbS q g f
      · obtain ⟨rfl, u⟩ := u
        rcases u with rfl | rfl | rfl
        · rw [m20]; exact hN.2
        · rw [m21]; show 3 * N ≤ 60000; omega
        · rw [m22]; exact hN.2
      · rw [k.n u]; exact old
    · have : q' = q := by have := y.1; omega
      subst this
      exact Or.inr ⟨t, n, R, nt, fa, h, x, cs, hI1⟩
theorem c_scoredQ {K : Nat → VH → Prop} (h0 : 7 < d) (hW : WF V) (hq : q < 4) (hJ : JS B V) (hI : PbI V q t n R nt fa h x cs) (hk : ∀ V1, JS B V1 → PbI V1 q t n R nt fa h x cs → Scd V1 q R nt fa → K (q + 1) V1) : vMP E d M_X11_scored [sl 0 28, wi (nI q)] V K :=
  w_X11_scored_0 (by omega) (c_known_y hI hq ⟨fun z => absurd hI.2.1.1.1 z, fun _ => ⟨hI.2.1.1.2, c_renewQ (by omega) hW hq hJ hI hk⟩⟩)
end
