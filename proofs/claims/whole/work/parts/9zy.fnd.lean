/-! find -/
theorem CapOK.js {V : VH} {cap : Nat} (hW : WF V) (h1 : TpJ V) (h2 : TkN V cap) (h3 : StJ V) (h4 : GrJ V) (h5 : vN V 0 15 ≤ 4096) : CapOK V := by
  obtain ⟨n, ⟨_, _, _, _, b1⟩, _⟩ := h1
  obtain ⟨t1, t2, t3, t4, _, t6⟩ := h2
  obtain ⟨_, m, _, _, ⟨⟨_, _, _, _, c1⟩, _⟩, _⟩ := h3
  refine CapOK.of hW ⟨b1, by omega, by omega, by omega, by omega, h5, c1⟩ (fun g g0 g6 hl => ?_)
  obtain ⟨⟨_, e1, _, e2⟩, ⟨f1, f2, f3⟩, n, ⟨_, _, _, _, e3⟩⟩ := h4.2 g (by omega) (by omega) hl
  exact ⟨e3, by omega, by omega, by omega, by omega, by omega⟩
section
variable {E : EE} {d : Nat} {V W : VH} {q B : Nat} {t : Nat → Int32} {n : Nat} {R : List SR} {nt fa : Nat → Int32} {h : Nat} {x : Int32} {cs : Nat → Int32} {S : Nat → Nat → Prop}
theorem WF.n02 (h : WF V) : vN V 0 2 = 0 := h.2.1 0 h.1.1 (2, 0) (by decide)
theorem JS.ft {cap : Nat} (hJ : JS B V) (k : Fr V W scR) (tk : TkN W cap) (h02 : vN W 0 2 = 0) : JS B W := by
  obtain ⟨a1, a2, ⟨_, _, a15⟩, a4, a5, a6, a7, a8, a9⟩ := hJ
  have n6 : ∀ f, ¬ scR 6 f := fun f y => absurd y.1 (by decide)
  have m' : ∀ f, vI W 6 f = vI V 6 f := fun f => k.i (n6 f)
  have i0 : ∀ f, f < 2 ∨ 6 < f → vI W 0 f = vI V 0 f := fun f y => k.i (fun z => by have := z.2; omega)
  have ng : ∀ g f, 1 ≤ g → ¬ scR g f := fun g f h1 y => by have := y.1; omega
  have b1 := a1.fr k (fun f hf y => by have := y.2; omega) n6
  have b5 := a5.fr k (fun f h1 h2 y => by have := y.2; omega) n6
  have b6 : GrJ W := ⟨fun g h1 h2 h3 => by rw [k.1] at h3; rw [k.2.1, k.2.2.1]; exact a6.1 g h1 h2 h3, fun g h1 h2 h3 => by
    rw [k.1] at h3
    obtain ⟨c1, c2, l, c3⟩ := a6.2 g h1 h2 h3
    refine ⟨?_, ?_, l, k.byt c3 (ng g _ h1) (ng g _ h1)⟩
    · unfold CpS; rw [k.n (ng g _ h1), k.n (ng g _ h1)]; exact c1
    · unfold TbN; rw [k.n (ng g _ h1), k.n (ng g _ h1), k.n (ng g _ h1)]; exact c2⟩
  refine ⟨b1, ?_, ⟨cap, tk, by rw [k.n (fun y => by have := y.2; omega)]; exact a15⟩, ?_, b5, b6, ?_, fun g f h1 h2 h3 => ?_, fun q hq => ?_⟩
  · unfold BdJ
    rw [i0 28 (by omega), m', k.j (n6 0), k.j (fun y => by have := y.2; omega)]
    exact a2
  · unfold SeJ
    rw [i0 16 (by omega), m']
    exact a4
  · unfold StpJ
    rw [m', m']
    exact a7
  · by_cases y : scR g f
    · obtain ⟨rfl, y⟩ := y
      obtain ⟨t1, t2, t3, t4, _, t6⟩ := tk
      rcases y with rfl | rfl | rfl | rfl | rfl
      · rw [h02]; exact Nat.zero_le _
      · rw [t1]; exact t6
      · rw [t2]; exact t6
      · rw [t3]; exact t6
      · rw [t4]; exact t6
    · rw [k.n y]
      exact a8 g f (by rw [← k.1]; exact h1) h2 h3
  · exact (a9 q hq).fr k (fun f => ng (q + 1) f (by omega)) n6
theorem PbI.ft (hI : PbI V q t n R nt fa h x cs) (k : Fr V W S) (z : ∀ a f, S a f → a = 0) : PbI W q t n R nt fa h x cs := by
  have n6 : ∀ f, ¬ S 6 f := fun f y => absurd (z _ _ y) (by decide)
  have nq : ∀ f, ¬ S (q + 1) f := fun f y => absurd (z _ _ y) (by omega)
  have c : ∀ f, vI W (q + 1) f = vI V (q + 1) f := fun f => k.i (nq f)
  have cn : ∀ f, vN W (q + 1) f = vN V (q + 1) f := fun f => k.n (nq f)
  have cj : ∀ f, vJ W (q + 1) f = vJ V (q + 1) f := fun f => k.j (nq f)
  have m : ∀ f, vI W 6 f = vI V 6 f := fun f => k.i (n6 f)
  have mj : ∀ f, vJ W 6 f = vJ V 6 f := fun f => k.j (n6 f)
  obtain ⟨hs, hc, hm, ⟨l1, l2⟩, fu, tb, ch, px⟩ := hI
  refine ⟨hs, hc.fr (by rw [k.1]) (fun f z => cn f) (fun f j z => by rw [c f]) (fun j => by rw [cj 3]), hm.fr hs (fun f j z _ => by rw [m]), ⟨by rw [c 0]; exact l1, by rw [m]; exact l2⟩, fu.ex (hs.2.2.2.1.1 0 (by decide)) (fun f j _ => by rw [c f]) (fun f j z _ _ => by rw [m]), ?_, fun e1 e2 => ?_, px⟩
  · rcases tb with w | ⟨w1, w2⟩
    · exact Or.inl (by rw [c]; exact w)
    · exact Or.inr ⟨w1.ex (fun f _ => cn f) (fun j => by rw [c]) (fun j => by rw [cj]), by rw [c]; exact w2⟩
  · rw [m] at e1
    rw [m, m] at e2
    exact Wq.ex (ch e1 e2) (fun f j hf => by rw [m]) (fun j => by rw [mj])
/-- the reference's scratch changes -/
theorem JS.rs {S : Nat → Nat → Nat → Prop} (hJ : JS B V) (k : Fc V W S) (z : ∀ a f j, S a f j → a = 6 ∧ f = 0 ∧ 37 ≤ j ∧ j ≤ 61) : JS B W := by
  refine hJ.fc 4 k (fun a f j y w => ?_) (fun q' a f j h1 h2 y w => ?_) (fun g j h1 h2 y => ?_) (Or.inl (fun a f j y w => ?_)) (hJ.2.2.2.2.2.2.1.fc k (fun f j y w => ?_)) (fun p => absurd p (by omega))
  · have := z a f j y; unfold Glo at w; omega
  · have := z a f j y
    rcases w with w | ⟨_, w | ⟨w, _⟩⟩ <;> omega
  · have := z _ _ _ y; omega
  · have := z a f j y; unfold Cch at w; omega
  · have := z _ _ _ y; omega
end
section
variable {E : EE} {d x B B' : Nat}
theorem tkT_0 (t : Nat → Int32) (n : Nat) : tkT t n 0 = tkA t n 0 := rfl
theorem o_find (hE : eFr E) (h0 : 190 < d) (hB : B ≤ B') : VO_find E d (JA x B) (JA x B') := fun V a0 hJ => liftI hJ (fun hW hS => by
  rcases hS.inQ a0 with ⟨hP, hM⟩ | ⟨q, t, n, R, nt, fa, h, px, cs, hq, rfl, hI⟩
  · exact nul_find (J := fun V2 => WF V2 → JS B' V2) (by omega) hW hP hM (fun _ => hS.mono hB)
  · obtain ⟨l, by0, tp, teq⟩ := hS.1
    obtain ⟨cap, tk, _⟩ := hS.2.2.1
    refine w_X11_find_0 (by omega) (c_known_y hI hq ⟨fun _ => ⟨hI.2.1.1.2, c_scan (by omega) by0 tp.2 tk (fun V4 cap' f4 tk4 _ _ _ _ tr ta => ?_)⟩, fun z => absurd hI.2.1.1.1 z⟩)
    have f4 : Fr V V4 scR := f4
    generalize et : vI V 0 (0 + 1) = tt at *
    have et' : vI V 0 1 = tt := et
    have n6 : ∀ f, ¬ scR 6 f := fun f y => absurd y.1 (by decide)
    obtain ⟨r1, r2, r3, r4⟩ := tr 0 (Nat.zero_le _)
    obtain ⟨_, b1, b2, b3, b4⟩ := ta
    have hI4 := hI.ft f4 (fun a f y => y.1)
    have i1 : vI V4 6 0 1 = nI l := by rw [f4.i (n6 0)]; exact tp.1
    have e01 : vI V4 0 0 1 = nI l := by rw [f4.i (fun y => by have := y.2; omega)]; exact by0.2.1
    generalize eT : tkT tt l 0 = T0 at *
    obtain ⟨vc, _, fe, en, _, _, nmk, _⟩ := tkT_ok tt l 0
    rw [eT] at vc fe en nmk
    have l20 := tp.2
    have c16 : T0.1 < 65536 := by have := of_decide_eq_true vc; omega
    have ref : ∀ (c : Int32), (T0.1 = 1 → T0.f = 0 → T0.e = l → c = mnI (lku (tcR R) (nmR R) T0.2.1)) → (¬ (T0.1 = 1 ∧ T0.f = 0 ∧ T0.e = l) → c = -1) → vMI E d M_X12_find [sl 6 0, wi (nI q)] V4 (fun r' V2 => c = r' ∧ (WF V2 → JS B' V2)) := fun c c1 c2 => by
      refine w_X12_find_0 (by omega) (c_isProblem_y hI4.mi hq ⟨fun _ V5 e5 V6 e6 V7 e7 => ?_, fun w => absurd w (by decide)⟩)
      have k7 : Fc V4 V7 (fun a f j => a = 6 ∧ f = 0 ∧ 37 ≤ j ∧ j ≤ 40) := by
        rw [e7, e6, e5]
        exact ((Fc_wrI ⟨rfl, rfl, by omega, by omega⟩).trans (Fc_wrI ⟨rfl, rfl, by omega, by omega⟩)).trans (Fc_wrI ⟨rfl, rfl, by omega, by omega⟩)
      have s7 : SrcM V7 tt l := by
        refine ⟨?_, l20, Or.inr ⟨?_, fun i hi => ?_⟩⟩
        · rw [e7, wrI_ne (fun z => by omega), e6, wrI_at, e5, wrI_ne (fun z => by omega)]; exact i1
        · rw [e7, wrI_ne (fun z => by omega), e6, wrI_ne (fun z => by omega), e5, wrI_at]; decide
        · unfold bt
          rw [k7.i (fun y => by have := y.2; omega), f4.i (n6 1), ← teq i hi]
      refine c_next hE (by omega) s7 (i := 0) (by rw [e7]; exact wrI_at) (Nat.zero_le _) (fun V8 k8 rt => ?_)
      rw [← tkT_0, eT] at rt
      obtain ⟨_, u1, u3, u4, _⟩ := rt
      have k48 : Fc V4 V8 (fun a f j => a = 6 ∧ f = 0 ∧ 37 ≤ j ∧ j ≤ 61) := (k7.mono (fun a f j y => ⟨y.1, y.2.1, y.2.2.1, by have := y.2.2.2; omega⟩)).trans (k8.mono (fun a f j y => ⟨y.1, y.2.1, by have := y.2.2; omega, by have := y.2.2; omega⟩))
      have fin : WF V8 → JS B' V8 := fun w8 => by
        have w4 : JS B V4 → JS B' V8 := fun j4 => (j4.rs k48 (fun a f j y => y)).mono hB
        exact w4 (hS.ft f4 tk4 (by rw [← k48.n]; exact w8.n02))
      have i8 : vI V8 6 0 1 = nI l := by rw [k48.i (fun y => by have := y.2.2; omega)]; exact i1
      rw [u1, u3, u4, i8]
      refine ⟨fun z => ⟨c2 (fun y => z (by rw [y.1]; rfl)), fin⟩, fun z => ⟨fun y => ⟨c2 (fun w => y (by rw [w.2.1]; rfl)), fin⟩, fun y => ⟨fun w => ?_, fun w => ⟨c2 (fun u => w (by rw [u.2.2])), fin⟩⟩⟩⟩
      have z1 : T0.1 = 1 := (nI_eq (b := 1) (by omega) (by decide)).mp z
      have y0 : T0.f = 0 := (nI_eq (b := 0) (by omega) (by decide)).mp y
      have w0 : T0.e = l := (nI_eq (by omega) (by omega)).mp w
      have s8 : SrcM V8 tt l := s7.fc k8 (fun f i z y => by have := y.2; omega)
      have n8 : NmM V8 q (tcR R) (nmR R) := (hI4.mi.fc hI4.1 k48 (fun f j y => by have := y.2.1; omega)).1.2.2.1
      refine c_meaning (i := 0) (by omega) (by omega) s8 n8 (by rw [eT]; exact u3) (by rw [eT]; exact u4) (by rw [eT]; exact z1) ?_
      rw [eT]
      exact ⟨c1 z1 y0 w0, fin⟩
    rw [b1, b3, b4, r1, r3, r4, e01]
    refine ⟨fun z => ref _ (fun e1 => absurd (by rw [e1]; rfl) z) (fun _ => rfl), fun z => ⟨fun y => ref _ (fun _ e2 => absurd (by rw [e2]; rfl) y) (fun _ => rfl), fun y => ⟨fun w => ?_, fun w => ref _ (fun _ _ e3 => absurd (by rw [e3]) w) (fun _ => rfl)⟩⟩⟩
    have z1 : T0.1 = 1 := by
      unfold clK at z
      by_cases k0 : T0.1 = 0
      · rw [if_pos k0] at z; exact absurd z (by decide)
      · rw [if_neg k0] at z
        by_cases k1 : T0.1 = 1
        · exact k1
        · rw [if_neg k1] at z
          by_cases k2 : T0.1 = 2
          · rw [if_pos k2] at z; exact absurd z (by decide)
          · rw [if_neg k2] at z
            by_cases k3 : T0.1 = 3
            · rw [if_pos k3] at z; exact absurd z (by decide)
            · rw [if_neg k3] at z; exact absurd z (by decide)
    have y0 : T0.f = 0 := (nI_eq (b := 0) (by omega) (by decide)).mp y
    have w0 : T0.e = l := (nI_eq (by omega) (by omega)).mp w
    have key : vJ V4 0 2 7 = T0.2.1 := by
      rw [b2, r2 (by rw [z1]; decide)]
      unfold clX; rw [if_pos z1]
    rw [key]
    refine c_lookUp hI4.2.1.1 hI4.2.1.2.2.1 ?_
    cases e : lku (tcR R) (nmR R) T0.2.1 with
    | none =>
      refine ⟨fun z => absurd z (by decide), fun _ => ref _ (fun _ _ _ => by rw [e]; rfl) (fun _ => rfl)⟩
    | some y =>
      obtain ⟨s4, k4, _⟩ := lku_lt e
      have m24 : y.2 < 24 := by
        have := (hI4.2.1.2.2.1.1 y.1 s4).2
        omega
      refine ⟨fun _ => ?_, fun z => absurd (nI_le (a := 0) (Nat.zero_le _) (show 24 * y.1 + y.2 < 2 ^ 31 by omega)) z⟩
      have er : (100 : Int32) * (lkI (some y) / 24) + (lkI (some y) - lkI (some y) / 24 * 24) = nI (100 * y.1 + y.2) := by
        show (100 : Int32) * (nI (24 * y.1 + y.2) / nI 24) + (nI (24 * y.1 + y.2) - nI (24 * y.1 + y.2) / nI 24 * nI 24) = _
        rw [nI_rem (by omega) (by decide), nI_div (by omega) (by decide), show (100 : Int32) = nI 100 from rfl, nI_mul, nI_add, show (24 * y.1 + y.2) / 24 = y.1 by omega, show (24 * y.1 + y.2) % 24 = y.2 by omega]
      rw [er]
      exact ref _ (fun _ _ _ => by rw [e]; rfl) (fun z => absurd ⟨z1, y0, w0⟩ z))
end
