/-! the row of sets is made -/
section
variable {E : EE} {d : Nat} {V V' V1 V2 W : VH} {q B : Nat} {t : Nat → Int32} {n : Nat} {R : List SR} {nt fa : Nat → Int32} {h h' : Nat} {x b : Int32} {cs : Nat → Int32}
def r15 (a f : Nat) : Prop := a = 0 ∧ f = 15
theorem PbI.fr15 (hI : PbI V q t n R nt fa h x cs) (k : Fr V W r15) : PbI W q t n R nt fa h x cs := by
  have q1 : ∀ f, ¬ r15 (q + 1) f := fun f y => absurd y.1 (by omega)
  have q2 : ∀ f, ¬ r15 6 f := fun f y => absurd y.1 (by decide)
  have c : ∀ f, vI W (q + 1) f = vI V (q + 1) f := fun f => k.i (q1 f)
  have cn : ∀ f, vN W (q + 1) f = vN V (q + 1) f := fun f => k.n (q1 f)
  have cj : ∀ f, vJ W (q + 1) f = vJ V (q + 1) f := fun f => k.j (q1 f)
  have m : ∀ f, vI W 6 f = vI V 6 f := fun f => k.i (q2 f)
  have mj : ∀ f, vJ W 6 f = vJ V 6 f := fun f => k.j (q2 f)
  obtain ⟨hs, hc, hm, ⟨l1, l2⟩, fu, tb, ch, px⟩ := hI
  refine ⟨hs, hc.fr (by rw [k.1]) (fun f _ => cn f) (fun f j _ => by rw [c]) (fun j => by rw [cj]), hm.fr hs (fun f j z _ => by rw [m]), ⟨by rw [c]; exact l1, by rw [m]; exact l2⟩, fu.ex (hs.2.2.2.1.1 0 (by decide)) (fun f j _ => by rw [c]) (fun f j z _ _ => by rw [m]), ?_, fun e1 e2 => ?_, px⟩
  · rcases tb with z | ⟨z1, z2⟩
    · exact Or.inl (by rw [c]; exact z)
    · exact Or.inr ⟨z1.ex (fun f _ => cn f) (fun j => by rw [c]) (fun j => by rw [cj]), by rw [c]; exact z2⟩
  · rw [m] at e1
    rw [m, m] at e2
    exact Wq.ex (ch e1 e2) (fun f j hf => by rw [m]) (fun j => by rw [mj])
theorem Scd.fr15 (s : Scd V q R nt fa) (k : Fr V W r15) : Scd W q R nt fa := by
  have q1 : ∀ f, ¬ r15 (q + 1) f := fun f y => absurd y.1 (by omega)
  exact ⟨s.1.ex (fun f _ => k.n (q1 f)) (fun j => by rw [k.i (q1 22)]) (fun j => by rw [k.j (q1 21)]), by rw [k.i (q1 19)]; exact s.2⟩
theorem JS.fr15 (hJ : JS B V) (k : Fr V W r15) (h15 : vN W 0 15 = 4096) : JS B W := by
  have gj := hJ.2.2.2.2.2.1
  have ng : ∀ g f, 1 ≤ g → ¬ r15 g f := fun g f h1 y => by have := y.1; omega
  refine hJ.fr k (fun f y => by have := y.2; omega) (fun f y => absurd y.1 (by decide)) ⟨fun g h1 h2 h3 => by rw [k.1] at h3; rw [k.2.1, k.2.2.1]; exact gj.1 g h1 h2 h3, fun g h1 h2 h3 => ?_⟩ (fun g f h1 h2 h3 => ?_) (fun q hq ⟨f, y⟩ => absurd y.1 (by omega)) (Or.inr (by omega))
  · rw [k.1] at h3
    obtain ⟨c1, c2, l, c3⟩ := gj.2 g h1 h2 h3
    refine ⟨?_, ?_, l, k.byt c3 (ng g _ h1) (ng g _ h1)⟩
    · unfold CpS; rw [k.n (ng g _ h1), k.n (ng g _ h1)]; exact c1
    · unfold TbN; rw [k.n (ng g _ h1), k.n (ng g _ h1), k.n (ng g _ h1)]; exact c2
  · rw [k.1] at h1
    by_cases y : r15 g f
    · obtain ⟨rfl, rfl⟩ := y
      rw [h15]; decide
    · rw [k.n y]; exact hJ.2.2.2.2.2.2.2.1 g f h1 h2 h3
theorem c_lookAtSets {K : Int32 → VH → Prop} (h0 : 3 < d) (hW : WF V) (hJ : JS B V) (hI : PbI V q t n R nt fa h x cs) (s : Scd V q R nt fa) (hk : ∀ W V', JS B W → PbI W q t n R nt fa h x cs → Fc W V' seR → SfC V' R nt fa (apL R h x) → K (nI (2 ^ (HL R).length - 1)) V') : vMI E d M_X1_lookAtSets [sl 0 10, sl (q + 1) 0] V K := by
  obtain ⟨_, _, n15⟩ := hJ.2.2.1
  have cap : vN V 0 15 ≤ 4096 := hJ.2.2.2.2.2.2.2.1 0 15 hW.1.1 (by decide) (by decide)
  have lrI : ∀ a f j, lrS a f j → a = 0 ∧ 7 ≤ f ∧ f ≤ 22 := fun a f j y => ⟨y.1, by have := y.2; omega⟩
  refine w_X1_lookAtSets_0 (by omega) hI.2.1.1 (c_listRules hI (fun V1 f1 l1 => ?_))
  rw [f1.n]
  refine ⟨by omega, fun z => ?_, fun z => ?_⟩
  · refine look_go (by omega) (hI.lr f1 lrI) (s.fz f1 (fun a f j y => y.1)) l1 (by rw [f1.n]; omega) (by rw [f1.n]; omega) (fun V' f' sf => hk V V' hJ hI ((f1.mono (fun a f j y => ⟨y.1, by have := y.2; omega⟩)).trans (f'.mono (fun a f j y => ⟨y.1, Or.inr (Or.inr y.2)⟩))) sf)
  · generalize eW : gr0 V 0 15 4096 = W
    generalize eW1 : gr0 V1 0 15 4096 = W1
    have k : Fr V W r15 := by rw [← eW]; exact Fr_gro ⟨rfl, rfl⟩
    have k1 : Fr V1 W1 r15 := by rw [← eW1]; exact Fr_gro ⟨rfl, rfl⟩
    have fw : Fc W W1 lrS := by rw [← eW, ← eW1]; exact Fc_gro f1
    have n4 : vN W 0 15 = 4096 := by rw [← eW]; simp [gr0, gro, vN]
    have hIW := hI.fr15 k
    have hJW := hJ.fr15 k n4
    have lW : LsH W1 R := ⟨by rw [k1.i (fun y => by have := y.2; omega)]; exact l1.1, fun j hj => by rw [k1.i (fun y => by have := y.2; omega)]; exact l1.2 j hj⟩
    refine look_go (by omega) (hIW.lr fw lrI) ((s.fr15 k).fz fw (fun a f j y => y.1)) lW (by rw [fw.n]; omega) (by rw [fw.n]; omega) (fun V' f' sf => hk W V' hJW hIW ((fw.mono (fun a f j y => ⟨y.1, by have := y.2; omega⟩)).trans (f'.mono (fun a f j y => ⟨y.1, Or.inr (Or.inr y.2)⟩))) sf)
end
