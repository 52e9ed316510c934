/-! the table is made anew within a call -/
theorem Fc_gro {V V1 : VH} {S : Nat → Nat → Nat → Prop} {g f n : Nat} {cI : Nat → Int32} {cJ : Nat → Int64} (k : Fc V V1 S) : Fc (gro V g f n cI cJ) (gro V1 g f n cI cJ) S := by
  obtain ⟨k1, k2, k3, k4, k5⟩ := k
  refine ⟨?_, k2, k3, ?_, fun a b i z => ⟨?_, ?_⟩⟩
  · show (vT V1 + 1, vU V1 + n) = (vT V + 1, vU V + n)
    unfold vT vU
    rw [k1]
  · show (fun a b => if a = g ∧ b = f then n else vN V1 a b) = (fun a b => if a = g ∧ b = f then n else vN V a b)
    rw [k4]
  · show r2 (vI V1) g f cI a b i = r2 (vI V) g f cI a b i
    unfold r2
    by_cases c : a = g ∧ b = f
    · rw [if_pos c, if_pos c]
    · rw [if_neg c, if_neg c]; exact (k5 a b i z).1
  · show r2 (vJ V1) g f cJ a b i = r2 (vJ V) g f cJ a b i
    unfold r2
    by_cases c : a = g ∧ b = f
    · rw [if_pos c, if_pos c]
    · rw [if_neg c, if_neg c]; exact (k5 a b i z).2
section
variable {E : EE} {d : Nat} {V V1 W : VH} {q B : Nat} {t : Nat → Int32} {n : Nat} {R : List SR} {nt fa : Nat → Int32} {h h' : Nat} {x : Int32} {cs : Nat → Int32}
theorem JS.grow {N : Nat} (hJ : JS B V) (hq : q < 4) (hI : PbI V q t n R nt fa h x cs) (z : vI V (q + 1) 19 0 = 0) (hN : N ≤ 20000) (eW : W = gr0 (gr0 (gr0 V (q + 1) 22 N) (q + 1) 20 N) (q + 1) 21 (3 * N)) : JS B W ∧ PbI W q t n R nt fa h x cs ∧ vN W (q + 1) 22 = N := by
  have gj := hJ.2.2.2.2.2.1
  have k : Fr V W (tbS q) := by
    rw [eW]
    exact ((Fr_gro ⟨rfl, by omega⟩).trans (Fr_gro ⟨rfl, by omega⟩)).trans (Fr_gro ⟨rfl, by omega⟩)
  have m22 : vN W (q + 1) 22 = N := by rw [eW]; simp [gr0, gro, vN]
  have m20 : vN W (q + 1) 20 = N := by rw [eW]; simp [gr0, gro, vN]
  have m21 : vN W (q + 1) 21 = 3 * N := by rw [eW]; simp [gr0, gro, vN]
  have hI1 := hI.gr k z
  refine ⟨hJ.fr k (fun f y => by have := y.1; omega) (fun f y => hI.2.1.1.2.2 y.1.symm) ⟨fun g h1 h2 h3 => by rw [k.1] at h3; rw [k.2.1, k.2.2.1]; exact gj.1 g h1 h2 h3, fun g h1 h2 h3 => ?_⟩ (fun g f h1 h2 h3 => ?_) (fun q' hq' ⟨f, y⟩ => ?_) (Or.inl (k.n (fun y => by have := y.1; omega))), hI1, m22⟩
  · rw [k.1] at h3
    obtain ⟨b1, b2, l, b3⟩ := gj.2 g h1 h2 h3
    by_cases u : g = q + 1
    · subst u
      refine ⟨?_, ⟨by omega, by rw [m20, m22], by rw [m21, m22]⟩, l, k.byt b3 (fun y => by have := y.2; omega) (fun y => by have := y.2; omega)⟩
      unfold CpS
      rw [k.n (fun y => by have := y.2; omega), k.n (fun y => by have := y.2; omega)]
      exact b1
    · refine ⟨?_, ?_, l, k.byt b3 (fun y => u y.1) (fun y => u y.1)⟩
      · unfold CpS
        rw [k.n (fun y => u y.1), k.n (fun y => u y.1)]
        exact b1
      · unfold TbN
        rw [k.n (fun y => u y.1), k.n (fun y => u y.1), k.n (fun y => u y.1)]
        exact b2
  · rw [k.1] at h1
    have old := hJ.2.2.2.2.2.2.2.1 g f h1 h2 h3
    by_cases u : tbS q g f
    · obtain ⟨rfl, u⟩ := u
      rcases u with rfl | rfl | rfl
      · rw [m20]; exact hN
      · rw [m21]; show 3 * N ≤ 60000; omega
      · rw [m22]; exact hN
    · rw [k.n u]; exact old
  · have : q' = q := by have := y.1; omega
    subst this
    exact Or.inr ⟨t, n, R, nt, fa, h, x, cs, hI1⟩
/-- cells of the table -/
def rnC (q a f j : Nat) : Prop := a = q + 1 ∧ (f = 9 ∧ j = 13 ∨ f = 17 ∨ f = 18 ∨ f = 19 ∧ (j = 0 ∨ j = 1) ∨ f = 21 ∨ f = 22)
/-- facts that the class has at hand -/
theorem Rl.fc {nr na g : Nat} {lv al : Nat → Nat} {wt : Nat → Int32} {D DA : Nat → Den} {S : Nat → Nat → Nat → Prop} (hR : Rl E d V g nr na lv al wt D DA) (w : Fc V W S) (z : ∀ f j, S g f j → f ≠ 10 ∧ f ≠ 11 ∧ f ≠ 13 ∧ f ≠ 14 ∧ f ≠ 15 ∧ f ≠ 16 ∧ (f = 9 → j = 13)) : Rl E d W g nr na lv al wt D DA := by
  have jw : JR V W g := w.jr (fun f i y => by have := z f i y; omega)
  obtain ⟨r1, r2, r3, r4, r5, r6, r7⟩ := hR
  refine ⟨by rw [w.l]; exact r1, r2, r3, by rw [jw.2.2.2.2 1 (by omega)]; exact r4, by rw [jw.2.2.2.2 2 (by omega)]; exact r5, fun r hr => ?_, fun a ha => ?_⟩
  · obtain ⟨x1, x2, x3, x4⟩ := r6 r hr
    exact ⟨x1, by rw [w.i (fun y => by have := z _ _ y; omega)]; exact x2, by rw [w.i (fun y => by have := z _ _ y; omega)]; exact x3, x4.jr jw⟩
  · obtain ⟨x1, x2, x3⟩ := r7 a ha
    exact ⟨x1, by rw [w.i (fun y => by have := z _ _ y; omega)]; exact x2, x3.jr jw⟩
theorem renewF_go {S : Nat → Nat → Nat → Prop} {K : VH → Prop} (h0 : 6 < d) (hW : vN V (q + 1) 23 = 16) (hI : PbI V q t n R nt fa h x cs) (tb : TbN V (q + 1)) (k : Fc V V1 S) (z : ∀ a f j, S a f j → a ≠ q + 1) (hN : plR R ≤ vN V (q + 1) 22) (hk : ∀ V5, Fc V V5 (fun a f j => S a f j ∨ rnC q a f j) → Scd V5 q R nt fa → (∀ a f j, a ≠ q + 1 → vI V5 a f j = vI V1 a f j ∧ vJ V5 a f j = vJ V1 a f j) → K V5) : vwp E d M_X9_renew 66 [some (sl (q + 1) 19), some (sl (q + 1) 0), some (wi (nI (plR R))), none] [] V1 (zv K) := by
  have bd := hI.bd
  have zq : ∀ f j, ¬ S (q + 1) f j := fun f j y => z _ _ _ y rfl
  have e23 : ∀ j, j < tcR R 0 → vI V1 (q + 1) 23 j = fa j := fun j hj => by rw [k.i (zq _ _)]; exact bd.1 j hj
  have est : stP (szR R) (tcR R 1) (vlR R) (DR R nt) (tcR R 2) (vI V1 (q + 1) 23) = stP (szR R) (tcR R 1) (vlR R) (DR R nt) (tcR R 2) fa := funext (stP_ext e23)
  have esc : scP (szR R) (tcR R 1) (vlR R) (DR R nt) (DRa R nt) (lvn R) (aln R) (wtR R) (tcR R 2) (tcR R 3) (vI V1 (q + 1) 23) = scP (szR R) (tcR R 1) (vlR R) (DR R nt) (DRa R nt) (lvn R) (aln R) (wtR R) (tcR R 2) (tcR R 3) fa := funext (scP_ext e23)
  have rl := (hI.2.1.rl (E := E) (d := d - 2) hI.1 (by omega)).fc k (fun f j y => absurd y (zq f j))
  refine c_renew_go (nf := tcR R 0) (by omega) (hI.sp.fc k (fun f i _ => zq f i)) rl (fun r _ => PrS.dx r) (fun a _ => PrS.dxa a) (by rw [k.n]; exact hW) (by unfold TbN; rw [k.n]; exact tb) (by rw [k.n]; exact hN) (fun V5 k5 tb5 e0 e1 => ?_)
  rw [est, esc] at tb5
  rw [est] at e1
  exact hk V5 ((k.mono (fun a f j y => Or.inl y)).trans (k5.mono (fun a f j y => Or.inr ⟨y.1, y.2⟩))) ⟨tb5, e1⟩ (fun a f j c => ⟨k5.i (fun y => c y.1), k5.j (fun y => c y.1)⟩)
theorem c_renewF {S : Nat → Nat → Nat → Prop} {K : VH → Prop} (h0 : 6 < d) (hW : WF V) (hq : q < 4) (hJ : JS B V) (hI : PbI V q t n R nt fa h x cs) (k : Fc V V1 S) (z : ∀ a f j, S a f j → a ≠ q + 1) (hk : ∀ V0 V5, JS B V0 → PbI V0 q t n R nt fa h x cs → Fc V0 V5 (fun a f j => S a f j ∨ rnC q a f j) → Scd V5 q R nt fa → (∀ a f j, ¬ (a = q + 1 ∧ (f = 20 ∨ f = 21 ∨ f = 22)) → vI V0 a f j = vI V a f j ∧ vJ V0 a f j = vJ V a f j) → (∀ a f j, a ≠ q + 1 → vI V5 a f j = vI V1 a f j ∧ vJ V5 a f j = vJ V1 a f j) → K V5) : vMV E d M_X9_renew [sl (q + 1) 19, sl (q + 1) 0] V1 K := by
  have zq : ∀ f j, ¬ S (q + 1) f j := fun f j y => z _ _ _ y rfl
  have n23 : vN V (q + 1) 23 = 16 := vnP hW hI.2.1.1 (by decide)
  have gj := hJ.2.2.2.2.2.1
  have tbn := (gj.2 (q + 1) (by omega) (by omega) hI.2.1.1.1).2.1
  obtain ⟨t1, t2, t3⟩ := id tbn
  have p20 := hI.p20
  have hpl : vI V1 (q + 1) 5 1 = nI (plR R) := by rw [k.i (zq _ _)]; exact hI.sp.2.2.2.1
  have e19 : vI V1 (q + 1) 19 0 = vI V (q + 1) 19 0 := k.i (zq _ _)
  refine w_X9_renew_0 (cap := vN V (q + 1) 22) (by omega) (by rw [k.l]; exact hI.2.1.1) hpl p20 (by omega) (by rw [k.n]) (by rw [k.n]; exact t2) (by rw [k.n]; exact t3) rfl (fun y => ?_) (fun y w => ?_) (fun y w => ?_)
  · rw [e19] at y
    rcases hI.2.2.2.2.2.1 with c | c
    · exact absurd c y
    · exact hk V V1 hJ hI (k.mono (fun a f j y => Or.inl y)) ⟨c.1.fc k (fun i => ⟨zq _ _, zq _ _⟩), by rw [k.i (zq _ _)]; exact c.2⟩ (fun a f j _ => ⟨rfl, rfl⟩) (fun a f j _ => ⟨rfl, rfl⟩)
  · exact renewF_go h0 n23 hI tbn k z w (fun V5 k5 s5 e5 => hk V V5 hJ hI k5 s5 (fun a f j _ => ⟨rfl, rfl⟩) e5)
  · rw [e19] at y
    generalize eN : max (plR R) (min 20000 (2 * vN V (q + 1) 22)) = N
    have hN : plR R ≤ N ∧ N ≤ 20000 := by omega
    generalize e0 : gr0 (gr0 (gr0 V (q + 1) 22 N) (q + 1) 20 N) (q + 1) 21 (3 * N) = V0
    obtain ⟨j0, i0, m0⟩ := hJ.grow hq hI y hN.2 e0.symm
    have k0 : Fc V0 (gr0 (gr0 (gr0 V1 (q + 1) 22 N) (q + 1) 20 N) (q + 1) 21 (3 * N)) S := by rw [← e0]; exact Fc_gro (Fc_gro (Fc_gro k))
    have f1 : Fr V1 (gr0 (gr0 (gr0 V1 (q + 1) 22 N) (q + 1) 20 N) (q + 1) 21 (3 * N)) (tbS q) := ((Fr_gro ⟨rfl, by omega⟩).trans (Fr_gro ⟨rfl, by omega⟩)).trans (Fr_gro ⟨rfl, by omega⟩)
    have f0 : Fr V V0 (tbS q) := by
      rw [← e0]
      exact ((Fr_gro ⟨rfl, by omega⟩).trans (Fr_gro ⟨rfl, by omega⟩)).trans (Fr_gro ⟨rfl, by omega⟩)
    exact renewF_go h0 (by rw [f0.n (fun y => by have := y.2; omega)]; exact n23) i0 (j0.2.2.2.2.2.1.2 (q + 1) (by omega) (by omega) i0.2.1.1.1).2.1 k0 z (by omega) (fun V5 k5 s5 e5 => hk V0 V5 j0 i0 k5 s5 (fun a f j c => ⟨by rw [f0.i (fun y => c ⟨y.1, y.2⟩)], by rw [f0.j (fun y => c ⟨y.1, y.2⟩)]⟩) (fun a f j c => ⟨by rw [(e5 a f j c).1, f1.i (fun y => c y.1)], by rw [(e5 a f j c).2, f1.j (fun y => c y.1)]⟩))
/-- the same, with the table -/
def enT (q a f j : Nat) : Prop := enS q a f j ∨ a = q + 1 ∧ (f = 19 ∨ f = 21 ∨ f = 22)
theorem PbI.en2 {V' : VH} (hI : PbI V q t n R nt fa h x cs) (k : Fc V V' (enT q)) (tb : TabC V' (q + 1) R nt fa) (ch : CchM V' q R nt fa) (hh : vI V' (q + 1) 0 8 = nI h' ∧ h' < plR R) (hm : Hq V' q (tcR R 1) (szR R) h') : PbI V' q t n R nt fa h' x cs := by
  have hq6 : q + 1 ≠ 6 := hI.2.1.1.2.2
  have hq0 : q + 1 ≠ 0 := by omega
  have c : ∀ f j, ¬ (f = 0 ∧ j = 8 ∨ f = 9 ∧ j = 13 ∨ f = 17 ∨ f = 18 ∨ f = 27 ∨ f = 28 ∨ f = 30 ∨ f = 31 ∨ f = 19 ∨ f = 20 ∨ f = 21 ∨ f = 22) → vI V' (q + 1) f j = vI V (q + 1) f j := fun f j z => k.i (fun y => by rcases y with (y | y | y) | y; have := y.2; omega; exact hq6 y.1; exact hq0 y.1; have := y.2; omega)
  have cj : ∀ j, vJ V' (q + 1) 3 j = vJ V (q + 1) 3 j := fun j => k.j (fun y => by rcases y with (y | y | y) | y; have := y.2; omega; exact hq6 y.1; exact hq0 y.1; have := y.2; omega)
  have m : ∀ f j, 1 ≤ f → f < 34 → f ≠ 19 → vI V' 6 f j = vI V 6 f j := fun f j z1 z2 z3 => k.i (fun y => by rcases y with (y | y | y) | y; exact hq6 y.1.symm; have := y.2; omega; exact absurd y.1 (by decide); exact hq6 y.1.symm)
  have pc := hI.2.1
  have pm := hI.2.2.1
  refine ⟨hI.1, pc.up (by rw [k.l]) (fun f _ => by rw [k.n]) (fun f j z => c f j (by unfold kpD at z; omega)) cj ⟨fun u hu => by rw [c 23 u (by omega)]; exact hI.bd.1 u hu, hI.bd.2⟩ hh ?_ ?_, pm.up hI.1 (fun f j z l z1 z2 z3 z4 => m f j (by have := z.1; omega) (by omega) z2) ?_ hm ?_ ?_, ⟨by rw [c 0 0 (by omega)]; exact hI.2.2.2.1.1, by rw [m 2 q (by omega) (by omega) (by omega)]; exact hI.2.2.2.1.2⟩, hI.2.2.2.2.1.ex hI.f16 (fun f j z => c f j (by omega)) (fun f j _ z1 z2 => m f j (by omega) (by omega) (by omega)), tb, ch, hI.2.2.2.2.2.2.2⟩
  · rw [c 0 9 (by omega)]; exact pc.2.2.2.2.2.2.2.2.2.1
  · exact fun v hv => by rw [c 24 v (by omega)]; exact pc.2.2.2.2.2.2.2.2.2.2 v hv
  · exact fun u hu => by rw [m 15 _ (by omega) (by omega) (by omega)]; exact pm.2.2.2.2.2.2.2.1 u hu
  · exact fun v hv => by rw [m 21 _ (by omega) (by omega) (by omega)]; exact hI.pq v hv
  · exact fun v hv => by rw [m 20 _ (by omega) (by omega) (by omega)]; exact pm.2.2.2.2.2.2.2.2.2.2 v hv
theorem JS.en2 {V' : VH} (hJ : JS B V) (hq : q < 4) (k : Fc V V' (enT q)) (hb : BdJ V') (he : SeJ V') (hs : StpJ B V') (hc : ∀ q', q' < 4 → q' ≠ q → ¬ vI V' 6 0 62 = nI q') (hp : PbJ V' q) : JS B V' := by
  obtain ⟨a1, a2, ⟨cap, a3⟩, a4, a5, a6, a7, a8, a9⟩ := hJ
  have ne : ∀ a f j, ¬ enS q a f j → ¬ (a = q + 1) → ¬ enT q a f j := fun a f j z w y => by rcases y with y | y; exact z y; exact w y.1
  refine ⟨a1.ex k (fun f j hf y => ?_) (fun y => ?_) (fun j y => ?_), hb, ⟨cap, a3.fc k⟩, he, a5.ex k (fun f j h1 h2 y => ?_) (fun j hj y => ?_) (fun f j hf y => ?_), a6.fc k (fun g j h1 h2 y => ?_), hs, k.cap a8, fun q' hq' => ?_⟩
  · rcases y with y | y
    · unfold enS at y; omega
    · omega
  · rcases y with y | y
    · unfold enS at y; omega
    · omega
  · rcases y with y | y
    · unfold enS at y; omega
    · omega
  · rcases y with y | y
    · unfold enS at y; omega
    · omega
  · rcases y with y | y
    · unfold enS at y; omega
    · omega
  · rcases y with y | y
    · unfold enS at y; omega
    · omega
  · rcases y with y | y
    · unfold enS at y; omega
    · omega
  · by_cases z : q' = q
    · subst z; exact hp
    · refine (a9 q' hq').fc hq' k (fun a f j y w => ?_) (Or.inr (hc q' hq' z))
      rcases y with (⟨y1, y2⟩ | ⟨y1, y2⟩ | ⟨y1, y2⟩) | ⟨y1, y2⟩
      · rcases w with w | ⟨w, _⟩ <;> omega
      · rcases w with w | ⟨w, ⟨w1, w2⟩ | w⟩
        · omega
        · omega
        · have w1 := w.1
          have w2 := w.2.1
          by_cases u : f = 19
          · subst u
            have w3 : 12 * q' ≤ j := w.2.2.1
            have w4 : j < 12 * q' + 12 := w.2.2.2
            omega
          · omega
      · rcases w with w | ⟨w, _⟩ <;> omega
      · rcases w with w | ⟨w, _⟩ <;> omega
end
