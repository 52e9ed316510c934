/-! the class reads a whole text -/
/-- rows of S alone change; which problem is read may -/
def Fq (V V' : VH) (S : Nat → Nat → Prop) : Prop := vL V' = vL V ∧ ∀ a f, ¬ S a f → vN V' a f = vN V a f ∧ vI V' a f = vI V a f ∧ vJ V' a f = vJ V a f
theorem Fr.fq {V V' : VH} {S S' : Nat → Nat → Prop} (h : Fr V V' S) (k : ∀ a f, S a f → S' a f) : Fq V V' S' := ⟨h.1, fun a f q => h.2.2.2 a f (fun z => q (k a f z))⟩
theorem Fc.fq {V V' : VH} {S : Nat → Nat → Nat → Prop} {S' : Nat → Nat → Prop} (h : Fc V V' S) (k : ∀ a f j, S a f j → S' a f) : Fq V V' S' := (h.fr k).fq (fun _ _ z => z)
theorem Fq.trans {V V1 V2 : VH} {S : Nat → Nat → Prop} (h : Fq V V1 S) (k : Fq V1 V2 S) : Fq V V2 S := ⟨k.1.trans h.1, fun a f q => ⟨(k.2 a f q).1.trans (h.2 a f q).1, (k.2 a f q).2.1.trans (h.2 a f q).2.1, (k.2 a f q).2.2.trans (h.2 a f q).2.2⟩⟩
theorem Fq.i {V V' : VH} {S : Nat → Nat → Prop} (h : Fq V V' S) {a f : Nat} (q : ¬ S a f) : vI V' a f = vI V a f := (h.2 a f q).2.1
theorem Fq.j {V V' : VH} {S : Nat → Nat → Prop} (h : Fq V V' S) {a f : Nat} (q : ¬ S a f) : vJ V' a f = vJ V a f := (h.2 a f q).2.2
theorem Fq.n {V V' : VH} {S : Nat → Nat → Prop} (h : Fq V V' S) {a f : Nat} (q : ¬ S a f) : vN V' a f = vN V a f := (h.2 a f q).1
/-- rows that reading a text into problem g changes -/
def rdS (g : Nat) : Nat → Nat → Prop := fun a f => a = 0 ∧ 2 ≤ f ∧ f ≤ 8 ∨ a = g ∧ f ≠ 1 ∧ f ≠ 2
/-- a problem as it is when it has been read -/
def DyC (V : VH) (g : Nat) : Prop := vI V g 0 0 = 0 ∧ vI V g 0 8 = 0 ∧ vI V g 0 9 = 0 ∧ vI V g 0 11 = 0 ∧ vI V g 19 0 = 0 ∧ ∀ j, j < 12 → vI V g 24 j = 1
theorem nL_mul (a b : Nat) : nL a * nL b = nL (a * b) := (Int64.ofNat_mul a b).symm
theorem nL_lt {a b : Nat} (ha : a < 2 ^ 63) (hb : b < 2 ^ 63) : nL a < nL b ↔ a < b := by
  rw [Int64.lt_iff_toInt_lt]
  have ea : (nL a).toInt = (a : Int) := Int64.toInt_ofNat_of_lt ha
  have eb : (nL b).toInt = (b : Int) := Int64.toInt_ofNat_of_lt hb
  rw [ea, eb]; omega
section
variable {E : EE} {d : Nat} {V : VH} {g : Nat}
theorem HsC_nil : HsC 0 [] := ⟨fun k _ => ⟨fun z => by rw [tst_z] at z; exact absurd z (by decide), fun z => absurd z.1 (Nat.not_lt_zero k)⟩, cnt_none (fun i _ => tst_z i)⟩
theorem Sfr.dy {V' : VH} (h : Sfr V V' g) (g0 : g ≠ 0) (k : DyC V g) : DyC V' g := by
  have q : ∀ f, f = 0 ∨ f = 19 ∨ f = 24 → vI V' g f = vI V g f := fun f hf => h.1.i (fun z => by rcases z with ⟨z, _⟩ | z; exact g0 z; omega)
  obtain ⟨k1, k2, k3, k4, k5, k6⟩ := k
  exact ⟨by rw [q 0 (by omega)]; exact k1, by rw [q 0 (by omega)]; exact k2, by rw [q 0 (by omega)]; exact k3, by rw [q 0 (by omega)]; exact k4, by rw [q 19 (by omega)]; exact k5, fun j hj => by rw [q 24 (by omega)]; exact k6 j hj⟩
theorem Sfr.fq {V' : VH} (h : Sfr V V' g) : Fq V V' (rdS g) := h.1.fq (fun a f z => by rcases z with ⟨z, y⟩ | ⟨z, y⟩; exact Or.inl ⟨z, by omega⟩; exact Or.inr ⟨z, by omega⟩)
theorem c_readT {n cap F : Nat} {K : Int32 → VH → Prop} (hE : eFr E) (h0 : 170 < d) (hW : WF V) (hg : PG (vL V) g) (hB : Byt V g 1 n) (hn : n ≤ 20000) (hN : TkN V cap) (hc : CpS V g) (hF : 8 * 20000 + 7 < F)
    (he : ∀ e, rdx (tkT (vI V g 2) n) F (n + 1) = .inl e → ∀ V', Fq V V' (rdS g) → (∃ cap', TkN V' cap') → CpS V' g → Flt V' e → ((vP V' = g ∧ vQ V' = g) ∧ ∀ f, 19 < f → f < 23 → vN V' g f = vN V g f) → K 0 V')
    (hy : ∀ q, rdx (tkT (vI V g 2) n) F (n + 1) = .inr q → ∀ V', Fq V V' (rdS g) → (∃ cap', TkN V' cap') → CpS V' g → DyC V' g → NmC V' g (tcR q.2) (nmR q.2) → CDt V' g q.2 → (vI V' g 9 3 = nI (nbR q.2) ∧ vI V' g 9 10 = nI (ubR q.2) ∧ nbR q.2 ≤ vN V' g 16 ∧ ubR q.2 ≤ vN V' g 15) → WR (tkT (vI V g 2) n) F (tln (vI V g 2) n) q.2 q.1 → q.1 = tln (vI V g 2) n → (tkT (vI V g 2) n q.1).1 = 0 → vI V' 0 2 10 = 0 → ((vP V' = g ∧ vQ V' = g) ∧ ∀ f, 19 < f → f < 23 → vN V' g f = vN V g f) → K 1 V') : vMI E d M_X5_read [sl 0 7, sl g 0] V K := by
  have g0 : g ≠ 0 := hg.2.1
  refine w_X5_read_0 hg (by omega) (fun V1 e1 V2 e2 V3 e3 => ?_)
  have l3 : vL V3 = vL V := by rw [e3, e2, e1]; rfl
  have m3 : vN V3 = vN V := by rw [e3, e2, e1]; rfl
  have i3 : ∀ f, vI V3 g f = vI V g f := fun f => by
    rw [e3, e2, e1]; exact funext fun j => if_neg (fun z => g0 z.1)
  have hg3 : PG (vL V3) g := by rw [l3]; exact hg
  have q3 : Fq V V3 (rdS g) := ⟨l3, fun a f z => ⟨by rw [m3], by
    rw [e3, e2, e1]; exact funext fun j => wrI_ne (V := wrQ (wrP V g) g) (fun y => z (Or.inl ⟨y.1, by omega, by omega⟩)), by rw [e3, e2, e1]; rfl⟩⟩
  have p3 : vP V3 = g := by rw [e3, e2, e1]; rfl
  have pq3 : vQ V3 = g := by rw [e3, e2, e1]; rfl
  have o3 : vI V3 0 7 7 = 0 := by rw [e3, wrI_at]
  refine c_clear (by omega) hg3 (by rw [m3]; exact vnP hW hg (by decide)) (by rw [m3]; exact vnP hW hg (by decide)) (fun V4 f4 c4 => ?_)
  have fr4 : Fr V3 V4 (fun _ _ => True) := f4.fr (fun _ _ _ _ => True.intro)
  have q4 : Fq V V4 (rdS g) := q3.trans (f4.fq (fun a f j z => Or.inr ⟨z.1, by have := z.2; omega, by have := z.2; omega⟩))
  have t4 : vI V4 g 2 = vI V g 2 := q4.i (fun z => by rcases z with ⟨z, _⟩ | z; exact g0 z; omega)
  have B4 : Byt V4 g 1 n := by
    obtain ⟨b1, b2, b3, b4, b5⟩ := hB
    have n2 : vN V4 g (1 + 1) = vN V g (1 + 1) := q4.n (fun z => by rcases z with ⟨z, _⟩ | z; exact g0 z; omega)
    exact ⟨by rw [q4.1]; exact b1, by rw [q4.i (fun z => by rcases z with ⟨z, _⟩ | z; exact g0 z; omega)]; exact b2, by rw [n2]; exact b3, by rw [n2]; exact b4, by rw [n2]; exact b5⟩
  have N4 : TkN V4 cap := by unfold TkN; rw [f4.n, m3]; exact hN
  have hg4 : PG (vL V4) g := by rw [q4.1]; exact hg
  refine c_scan (by omega) B4 hn N4 (fun V8 cap' f8 N8 k5 lt10 f10 f11 rows a0 => ?_)
  have et : vI V4 g (1 + 1) = vI V g 2 := t4
  rw [et] at k5 lt10 rows
  generalize et' : vI V g 2 = t at *
  have ns : ∀ f, ¬ scR g f := fun f z => g0 z.1
  have i8 : ∀ f, vI V8 g f = vI V4 g f := fun f => f8.i (ns f)
  have q8 : Fq V V8 (rdS g) := q4.trans (f8.fq (fun a f z => Or.inl ⟨z.1, by have := z.2; omega, by have := z.2; omega⟩))
  have hg8 : PG (vL V8) g := by rw [q8.1]; exact hg
  obtain ⟨tl1, tl2, tl3⟩ := tln_ok t n
  have hT : TL (tkT t n) (tln t n) := ⟨tl2, tl3⟩
  obtain ⟨d1, d2, d3, d4, d5, d6, d7, d8, d9, d10, d11, d12, d13, d14⟩ := c4
  have cc : CpS V8 g := by
    unfold CpS
    rw [f8.n (ns 15), f8.n (ns 16), f4.n, m3]; exact hc
  have cx : tln t n ≤ tcl t n := by unfold tcl; split <;> omega
  have v7 : ∀ j, vI V8 0 7 j = vI V3 0 7 j := fun j => by rw [f8.i (fun z => by have := z.2; omega), f4.i (fun z => g0 z.1.symm)]
  have s8 : CS V8 g (tkT t n) (tln t n) (tcR []) (nmR []) 0 0 (nbR []) (ubR []) (vI V8 0 7 8) := by
    refine ⟨⟨by rw [f8.2.1, fr4.2.1]; exact p3, by rw [f8.2.2.1, fr4.2.2.1]; exact pq3, hg8, ⟨cap', _, N8, k5, cx, lt10⟩, rows, ⟨hT, by omega, fun j => ?_⟩, ⟨fun s hs => ⟨by rw [i8]; exact d5 s hs, Nat.zero_le _⟩, fun s hs k hk => absurd hk (Nat.not_lt_zero k)⟩⟩, a0, Nat.zero_le _, ⟨by rw [v7]; exact o3, f10⟩, by decide, rfl, ⟨by rw [i8]; exact d11, by rw [i8]; exact d12, Nat.zero_le _, Nat.zero_le _⟩, Nat.zero_le _, Nat.zero_le _, cc⟩
    obtain ⟨x1, x2, x3, x4, x5, x6, x7, x8⟩ := tkT_ok t n j
    exact ⟨x1, by omega, by omega, x8⟩
  have y8 : DyC V8 g := ⟨by rw [i8]; exact d1, by rw [i8]; exact d2, by rw [i8]; exact d3, by rw [i8]; exact d4, by rw [i8]; exact d13, fun j hj => by rw [i8]; exact d14 j hj⟩
  have b8 : CDt V8 g [] := ⟨⟨fun k hk => absurd hk (Nat.not_lt_zero k), fun k hk => absurd hk (Nat.not_lt_zero k), fun k hk => absurd hk (Nat.not_lt_zero k)⟩, ⟨hg8, by rw [i8]; exact d6, Nat.zero_le _, by rw [i8]; exact d7, (by decide : (1 : Nat) ≤ 20000), fun v hv => absurd hv (Nat.not_lt_zero v)⟩, by rw [i8, d8]; exact HsC_nil, by rw [i8]; exact d9, by rw [i8]; exact d10⟩
  have nSt : ∀ f, 19 < f → f < 23 → ¬ StR g g f := fun f h1 h2 y => by rcases y with ⟨y, _⟩ | ⟨_, y⟩; exact g0 y; omega
  have go : ∀ (m k i : Nat) (R : List SR) (W : VH) (sv : Int32), k + m = n + 1 → R.length = k → k ≤ i → WR (tkT t n) F (tln t n) R i → Fq V W (rdS g) → (∀ f, 19 < f → f < 23 → vN W g f = vN V g f) → vI W 0 2 5 = nI (tcl t n) → DyC W g → CS W g (tkT t n) (tln t n) (tcR R) (nmR R) i 0 (nbR R) (ubR R) sv → CDt W g R → rdl (tkT t n) F (n + 1) [] 0 = rdl (tkT t n) F m R i → vwp E d M_X5_read 35 [some (sl 0 7), some (sl g 0), some (wi (nI k)), none] [] W (zi K) := by
    intro m
    induction m with
    | zero =>
      intro k i R W sv em eR ek hw
      have := hw.2.2.2.2.2.2.2
      omega
    | succ m ih =>
      intro k i R W sv em eR ek hw fW nW c5 yW sW bW hX
      have hgW := sW.1.2.2.1
      have iL := hw.2.2.2.2.2.2.2
      have lenW : vI W g 1 1 = nI n := by rw [fW.i (fun z => by rcases z with ⟨z, _⟩ | z; exact g0 z; omega)]; exact hB.2.1
      have tkW : ∃ cap', TkN W cap' := by obtain ⟨cap', _, z, _⟩ := sW.1.2.2.2.1; exact ⟨cap', z⟩
      have st : ¬ (R ≠ [] ∧ (tkT t n i).1 = 0) → vwp E d M_X5_read 65 [some (sl 0 7), some (sl g 0), some (wi (nI k)), none] [] W (zi K) := by
        intro hne
        have hX : rdl (tkT t n) F (n + 1) [] 0 = nrB (stm (tkT t n) R F i) (fun i1 r => rdl (tkT t n) F m (R ++ [r]) i1) := by rw [hX, rdl, if_neg hne]
        have hS : StH W g (tkT t n) (tln t n) R (stm (tkT t n) R F i) (fun x V' => vwp E d M_X5_read 149 [some (sl 0 7), some (sl g 0), some (wi (nI k)), some (wi x)] [] V' (zi K)) := by
          refine ⟨fun e z V' f ft => ?_, fun i' r z V' f hs' b' => ?_⟩
          · have hg' : PG (vL V') g := by rw [f.1.1]; exact hgW
            have tk' : ∃ cap', TkN V' cap' := by
              obtain ⟨cap', z1⟩ := tkW
              have nr : ∀ f, f = 3 ∨ f = 4 ∨ f = 5 ∨ f = 6 → ¬ StR g 0 f := fun f hf y => by rcases y with ⟨_, y⟩ | ⟨y, _⟩; omega; exact g0 y.symm
              exact ⟨cap', by rw [f.1.n (nr 3 (by omega))]; exact z1.1, by rw [f.1.n (nr 4 (by omega))]; exact z1.2.1, by rw [f.1.n (nr 5 (by omega))]; exact z1.2.2.1, by rw [f.1.n (nr 6 (by omega))]; exact z1.2.2.2.1, z1.2.2.2.2⟩
            refine w_X5_read_149 hg' ⟨fun q => absurd rfl q, fun _ => he e ?_ V' (fW.trans f.fq) tk' ?_ ft ⟨⟨f.1.2.1.trans sW.1.1, f.1.2.2.1.trans sW.1.2.1⟩, fun f' h1 h2 => (f.1.n (nSt f' h1 h2)).trans (nW f' h1 h2)⟩⟩
            · unfold rdx; rw [hX, z]; rfl
            · exact f.2.2 ⟨sW.2.2.2.2.2.2.2.2.2.1, sW.2.2.2.2.2.2.2.2.2.2.1, sW.2.2.2.2.2.2.2.2.2.2.2.1, sW.2.2.2.2.2.2.2.2.2.2.2.2⟩
          · obtain ⟨sv', s'⟩ := hs'
            obtain ⟨w1, w2, w3, w4, w5⟩ := stm_wr hT (by omega) hw z
            refine w_X5_read_149 s'.1.2.2.1 ⟨fun _ => ?_, fun q => absurd q (by decide)⟩
            rw [nI_1]
            exact ih (k + 1) i' (R ++ [r]) V' sv' (by omega) (by rw [List.length_append, eR]; rfl) (by omega) w1 (fW.trans f.fq) (fun f' h1 h2 => (f.1.n (nSt f' h1 h2)).trans (nW f' h1 h2)) (f.2.1.trans c5) (f.dy g0 yW) s' b' (by rw [hX, z]; rfl)
        refine w_X5_read_65 hgW (by omega) (cs_is sW (c := 300) (by decide) rfl ?_)
        unfold stm at hS
        by_cases c0 : (tkT t n i).1 = 300
        · rw [decide_eq_true c0]; rw [if_pos c0] at hS
          exact ⟨fun q => absurd q (by decide), fun _ => cs_fact (by omega) sW bW hw c0 hS⟩
        rw [decide_eq_false c0]; rw [if_neg c0] at hS
        refine ⟨fun _ => cs_is sW (c := 301) (by decide) rfl ?_, fun q => absurd rfl q⟩
        by_cases c1 : (tkT t n i).1 = 301
        · rw [decide_eq_true c1]; rw [if_pos c1] at hS
          exact ⟨fun q => absurd q (by decide), fun _ => cs_var (by omega) sW bW hw c1 hS⟩
        rw [decide_eq_false c1]; rw [if_neg c1] at hS
        refine ⟨fun _ => cs_is sW (c := 303) (by decide) rfl ?_, fun q => absurd rfl q⟩
        by_cases c2 : (tkT t n i).1 = 303
        · rw [decide_eq_true c2]; rw [if_pos c2] at hS
          exact ⟨fun q => absurd q (by decide), fun _ => cs_rule hE (by omega) sW bW hw (by omega) c2 hS⟩
        rw [decide_eq_false c2]; rw [if_neg c2] at hS
        refine ⟨fun _ => cs_is sW (c := 305) (by decide) rfl ?_, fun q => absurd rfl q⟩
        by_cases c3 : (tkT t n i).1 = 305
        · rw [decide_eq_true c3]; rw [if_pos c3] at hS
          exact ⟨fun q => absurd q (by decide), fun _ => cs_aim hE (by omega) sW bW hw (by omega) c3 hS⟩
        rw [decide_eq_false c3]; rw [if_neg c3] at hS
        exact ⟨fun _ => cs_refuse sW (fun V' a b => hS.1 _ rfl V' a.st b), fun q => absurd rfl q⟩
      obtain ⟨t1, t2, t3, t4', t5⟩ := sW.tok
      refine w_X5_read_35 hgW (by omega) ⟨fun q => absurd ((nI_ltI (by omega) (by omega)).mp (lenW ▸ q)) (by omega), fun _ => ⟨fun q => st (fun z => ?_), fun q => ⟨fun z => st (fun y => z ?_), fun z => ?_⟩⟩⟩
      · have k0 : k = 0 := by
          by_cases y : 0 < k
          · exact absurd q (nI_ge (a := 0) y (by omega))
          · omega
        exact z.1 (List.length_eq_zero_iff.mp (eR.trans k0))
      · rw [t2, y.2]; rfl
      · have c0 : (tkT t n i).1 = 0 := by
          by_cases y : (tkT t n i).1 = 0
          · exact y
          · exfalso
            rw [t2] at z
            unfold clK at z
            rw [if_neg y] at z
            split at z
            · exact absurd z (by decide)
            · split at z
              · exact absurd z (by decide)
              · split at z
                · exact absurd z (by decide)
                · exact absurd z (by decide)
        have hne : R ≠ [] := fun y => q (by rw [y] at eR; rw [← eR]; exact Int32.le_refl _)
        have eL : i = tln t n := by
          by_cases y : i < tln t n
          · exact absurd c0 (tl2 i y).1
          · omega
        have ec : tcl t n = i := by unfold tcl; rw [← eL, if_neg (by rw [c0]; decide)]
        have hX : rdl (tkT t n) F (n + 1) [] 0 = .inr (i, R) := by rw [hX, rdl, if_pos ⟨hne, c0⟩]
        have hR : rdx (tkT t n) F (n + 1) = if tcR R 1 = 0 ∨ 20000000 < plR R * i then .inl (6, (tkT t n i).f) else .inr (i, R) := by unfold rdx; rw [hX]
        obtain ⟨_, s1, s2, s3, s4, _⟩ := bW.2.1
        have cpW : CpS W g := ⟨sW.2.2.2.2.2.2.2.2.2.1, sW.2.2.2.2.2.2.2.2.2.2.1, sW.2.2.2.2.2.2.2.2.2.2.2.1, sW.2.2.2.2.2.2.2.2.2.2.2.2⟩
        have bad : ∀ x : Int64, (tcR R 1 = 0 ∨ 20000000 < plR R * i) → vwp E (d - 1) M_X5_isWhole 44 [some (sl 0 7), some (wj x), none] [] W (zi (fun r1 V1 => bz r1 ∧ K r1 V1)) := fun x y => by
          refine w_X5_isWhole_44 (by omega) (cs_fail sW rfl t4' (fun V' a b => ⟨Or.inl rfl, Or.inl rfl, he _ (by rw [hR, if_pos y]) V' (fW.trans a.st.fq) ?_ ?_ b ⟨⟨a.1.2.1.trans sW.1.1, a.1.2.2.1.trans sW.1.2.1⟩, fun f' h1 h2 => (a.st.1.n (nSt f' h1 h2)).trans (nW f' h1 h2)⟩⟩))
          · obtain ⟨cap', _, z, _⟩ := (sW.1.r a).2.2.2.1; exact ⟨cap', z⟩
          · exact ⟨a.2.2.2.2.1, a.2.2.2.2.2.1, a.2.2.2.2.2.2.1, a.2.2.2.2.2.2.2⟩
        refine w_X5_isWhole_0 ?_
        rw [sW.1.1, s1, s3, c5, ec, i2l_nI (show Tp (szR R) (tcR R 1) 0 < 2 ^ 31 by omega), i2l_nI (show i < 2 ^ 31 by omega), nL_mul]
        have pb : plR R * i ≤ 20000 * 20000 := Nat.mul_le_mul s4 (by omega)
        have ps : Tp (szR R) (tcR R 1) 0 * i = plR R * i := rfl
        refine ⟨hgW, fun y => bad _ (Or.inl ?_), fun y => ⟨fun u => bad _ (Or.inr ?_), fun u => ?_⟩⟩
        · by_cases w : 0 < tcR R 1
          · exact absurd y (nI_ge (a := 0) w (by omega))
          · omega
        · exact (nL_lt (a := 20000000) (by decide) (by omega)).mp u
        · have y0 : tcR R 1 ≠ 0 := fun w => y (by rw [w]; exact Int32.le_refl _)
          have u0 : ¬ 20000000 < plR R * i := fun w => u ((nL_lt (a := 20000000) (by decide) (by omega)).mpr w)
          refine ⟨Or.inr rfl, hy (i, R) (by rw [hR, if_neg (by omega)]) W fW tkW cpW yW sW.1.2.2.2.2.2.2 bW ⟨sW.2.2.2.2.2.2.1.1, sW.2.2.2.2.2.2.1.2.1, sW.2.2.2.2.2.2.2.1, sW.2.2.2.2.2.2.2.2.1⟩ hw eL c0 sW.2.2.2.1.2 ⟨⟨sW.1.1, sW.1.2.1⟩, nW⟩⟩
  exact go (n + 1) 0 0 [] V8 _ (by omega) rfl (Nat.le_refl _) WR_nil q8 (fun f h1 h2 => by rw [f8.n (ns f), f4.n, m3]) k5 y8 s8 b8 rfl
end
