/-! prove -/
theorem i2b_i2b (y : Int32) : i2b (i2b y) = i2b y := by
  refine i2b_eq ?_
  have a := bt_i2b (fun _ => y) 0
  unfold bt at a
  exact a
section
variable {E : EE} {d : Nat} {V V' V1 V2 : VH} {q g B c : Nat} {t : Nat → Int32} {n : Nat} {R : List SR} {nt fa : Nat → Int32} {h : Nat} {x : Int32} {cs : Nat → Int32} {ln ad : Nat → Nat} {nf : Nat → Nat → Nat}
theorem c_beats {K : Int32 → VH → Prop} (h0 : 3 < d) (hI : PbI V q t n R nt fa h x cs) (s : Scd V q R nt fa) (hk0 : (∀ p, p ∈ gdR R nt fa h x → btr (scQ R nt fa) p h = false) → ∀ V', Fc V V' (lsS (q + 1)) → K 0 V') (hk1 : (∃ p, p ∈ gdR R nt fa h x ∧ btr (scQ R nt fa) p h = true) → ∀ V', Fc V V' (lsS (q + 1)) → K 1 V') : vMI E d M_X9_beatsHand [sl (q + 1) 19, sl (q + 1) 0] V K := by
  have p20 := hI.p20
  refine w_X9_beatsHand_0 hI.2.1.1 (by omega) ?_
  rw [hI.2.1.2.2.2.2.2.2.2.2.2.1]
  refine c_gatherQ (by omega) hI s (fun V1 f1 l1 => ?_)
  have gl : (gdR R nt fa h x).length ≤ plR R := Nat.le_trans (List.length_filter_le _ _) (by rw [List.length_range]; exact Nat.le_refl _)
  have hh : vI V1 (q + 1) 0 8 = nI h := by rw [f1.i (fun y => by have := y.2; omega)]; exact hI.hnd.1
  have pg1 : PG (vL V1) (q + 1) := by rw [f1.l]; exact hI.2.1.1
  have tb1 := s.1.fc f1 (fun i => ⟨fun y => by have := y.2; omega, fun y => by have := y.2; omega⟩)
  have go : ∀ m j, j + m = (gdR R nt fa h x).length → (∀ i, i < j → btr (scQ R nt fa) ((gdR R nt fa h x).getD i 0) h = false) → vwp E d M_X9_beatsHand 12 [some (sl (q + 1) 19), some (sl (q + 1) 0), some (wi (nI j))] [] V1 (zi K) := by
    intro m
    induction m with
    | zero =>
      intro j e no
      have : j = (gdR R nt fa h x).length := by omega
      subst this
      refine w_X9_beatsHand_12 pg1 (by omega) ⟨fun _ => hk0 (fun p hp => ?_) V1 f1, fun z => absurd (by rw [l1.1]; exact nI_le (Nat.le_refl _) (by omega)) z⟩
      obtain ⟨i, hi, e⟩ := List.getElem_of_mem hp
      have := no i hi
      rw [List.getD_eq_getElem?_getD, List.getElem?_eq_getElem hi] at this
      rw [← e]; exact this
    | succ m ih =>
      intro j e no
      have hj : j < (gdR R nt fa h x).length := by omega
      obtain ⟨a1, a2⟩ := ls_at (i := j) s f1 l1 gl hj
      have mem := getD_mem hj
      refine w_X9_beatsHand_12 pg1 (by omega) ⟨fun z => absurd z (by rw [l1.1]; exact nI_ge hj (by omega)), fun _ => ⟨a1, ?_⟩⟩
      rw [a2, hh]
      refine c_isBetter (by omega) pg1 tb1 (gd_lt mem) hI.hnd.2 ⟨fun z => ?_, fun z => hk1 ⟨_, mem, bI_1.mp z⟩ V1 f1⟩
      rw [nI_1]
      refine ih (j + 1) (by omega) (fun i hi => ?_)
      by_cases c : i = j
      · rw [c]; exact bI_0.mp z
      · exact no i (by omega)
  exact go _ 0 (Nat.zero_add _) (fun i hi => absurd hi (Nat.not_lt_zero i))
theorem prove_go {K : Int32 → VH → Prop} (h0 : 3 < d) (hm : KnM V q t n R nt fa h x cs) (hk1 : (∃ p, p ∈ gdR R nt fa h x ∧ btr (scQ R nt fa) p h = true) → K (-1) V)
    (hk0 : (∀ p, p ∈ gdR R nt fa h x → btr (scQ R nt fa) p h = false) → ∀ V2, V2 = wrI V 6 0 84 0 → vMV E (d - 1) M_X12_print [sl 6 0, wi (nI q), wi 0] V2 (fun V3 => (vI V3 6 0 84 ≤ 20000 → vwp E d M_X12_prove 84 [some (sl 6 0), some (wi (nI q)), some (wi (nI h)), some (wi 0)] [] V3 (zi K)) ∧ (¬ vI V3 6 0 84 ≤ 20000 → K (-1) V3))) : vwp E d M_X12_prove 23 [some (sl 6 0), some (wi (nI q)), some (wi (nI h)), some (wi 0)] [] V (zi K) := by
  have p20 := hm.p20
  have q5 := hm.q5
  have pl := hm.pl
  have go : ∀ m p, p + m = plR R → (∀ i, i < p → i ∈ gdR R nt fa h x → btr (scQ R nt fa) i h = false) → vwp E d M_X12_prove 23 [some (sl 6 0), some (wi (nI q)), some (wi (nI h)), some (wi (nI p))] [] V (zi K) := by
    intro m
    induction m with
    | zero =>
      intro p e no
      have : p = plR R := by omega
      subst this
      refine w_X12_prove_23 (by omega) ?_
      rw [nI_clamp (show q < 2 ^ 31 by omega), pl]
      exact ⟨vp_in_nI q5 (by decide), fun _ => hk0 (fun p hp => no p (gd_lt hp) hp), fun z => absurd (nI_le (Nat.le_refl _) (by omega)) z⟩
    | succ m ih =>
      intro p e no
      have hp : p < plR R := by omega
      have next : (p ∈ gdR R nt fa h x → btr (scQ R nt fa) p h = false) → vwp E d M_X12_prove 53 [some (sl 6 0), some (wi (nI q)), some (wi (nI h)), some (wi (nI p))] [] V (zi K) := fun c => by
        refine w_X12_prove_53 ?_
        rw [nI_1]
        refine ih (p + 1) (by omega) (fun i hi hg => ?_)
        by_cases u : i = p
        · subst u; exact c hg
        · exact no i (by omega) hg
      refine w_X12_prove_23 (by omega) ?_
      rw [nI_clamp (show q < 2 ^ 31 by omega), pl]
      refine ⟨vp_in_nI q5 (by decide), fun z => absurd z (nI_ge hp (by omega)), fun _ => c_isGood (by omega) hm.sq hm.hq hm.pq hm.tq hp ⟨fun z => next (fun hg => ?_), fun z => c_isBetterM hm.tq hp hm.hq.1 ⟨fun y => next (fun _ => bI_0.mp y), fun y => hk1 ⟨p, ?_, bI_1.mp y⟩⟩⟩⟩
      · have a := (List.mem_filter.mp hg).2
        have b := bI_0.mp z
        rw [b] at a
        exact absurd a (by decide)
      · exact List.mem_filter.mpr ⟨List.mem_range.mpr hp, bI_1.mp z⟩
  exact go (plR R) 0 (Nat.zero_add _) (fun i hi => absurd hi (Nat.not_lt_zero i))
theorem PbI.names (hI : PbI V q t n R nt fa h x cs) : ∃ (ln ad : Nat → Nat) (nf : Nat → Nat → Nat), NmV R ln nf ∧ ∀ v, v < tcR R 1 → vI V 6 12 (96 * q + 24 + v) = nI (ad v) ∧ vI V 6 13 (96 * q + 24 + v) = nI (ln v) ∧ ad v + ln v ≤ 20000 ∧ ∀ j, j < ln v → bt (vI V 6 3) (20000 * q + ad v + j) = nf v j := by
  have nm := hI.2.2.1.2.2.1.2 1 (by decide)
  have ex : ∀ v, ∃ a l, v < tcR R 1 → vI V 6 12 (96 * q + 24 * 1 + v) = nI a ∧ vI V 6 13 (96 * q + 24 * 1 + v) = nI l ∧ 1 ≤ l ∧ l ≤ 8 ∧ a + l ≤ 20000 ∧ nmR R 1 v = nL (pkb (bf (vI V 6 3) (20000 * q + a)) l) ∧ ∀ j, j < l → isA (bt (vI V 6 3) (20000 * q + a + j)) = true := fun v => by
    by_cases c : v < tcR R 1
    · obtain ⟨a, l, z⟩ := nm v c
      exact ⟨a, l, fun _ => z⟩
    · exact ⟨0, 0, fun z => absurd z c⟩
  obtain ⟨ad, ex2⟩ := Classical.skolem.mp ex
  obtain ⟨ln, ex3⟩ := Classical.skolem.mp ex2
  refine ⟨ln, ad, fun v => bf (vI V 6 3) (20000 * q + ad v), fun v hv => ?_, fun v hv => ?_⟩
  · obtain ⟨z1, z2, z3, z4, z5, z6, z7⟩ := ex3 v hv
    exact ⟨z3, z4, fun j hj => isA_v _ (z7 j hj), z6⟩
  · obtain ⟨z1, z2, z3, z4, z5, z6, z7⟩ := ex3 v hv
    exact ⟨z1, z2, z5, fun j hj => rfl⟩
end
section
variable {E : EE} {d x B B' : Nat}
theorem o_prove (h0 : 190 < d) (hB : B ≤ B') : VO_prove E d (JA x B) (JA x B') := fun V a0 hJ => liftI hJ (fun hW hS => by
  rcases hS.inQ a0 with ⟨hP, hM⟩ | ⟨q, t, n, R, nt, fa, h, px, cs, hq, rfl, hI⟩
  · exact nul_prove (J := fun V2 => WF V2 → JS B' V2) (by omega) hW hP hM (fun _ => hS.mono hB)
  · have p20 := hI.p20
    have n12 := hI.v12
    refine w_X11_prove_0 (by omega) (c_scoredQ (by omega) hW hq hS hI (fun V1 hS1 hI1 s1 => ⟨fun z => absurd hI1.2.1.1.1 z, fun _ => ⟨hI1.2.1.1.2, c_beats (by omega) hI1 s1 (fun no V4 f4 => ⟨fun z => absurd rfl z, fun _ => ?_⟩) (fun yes V4 f4 => ⟨fun _ => ?_, fun z => absurd z (by decide)⟩)⟩⟩))
    · obtain ⟨ln, ad, nf, hN, hA⟩ := hI1.names
      have hI4 : PbI V4 q t n R nt fa h px cs := hI1.csq (f4.mono (fun a f j y => lsS_cs y))
      have mi4 := hI4.mi
      have wc : WrC V4 (q + 1) R px := ⟨hI4.sp, hI4.2.1.2.2.2.2.2.2.2.2.2.1, fun v hv => hI4.2.1.2.2.1.2 1 (by decide) v hv⟩
      have wm : ∀ {W}, MiQ W q t n R fa h px cs → (∀ f j, f = 12 ∨ f = 13 ∨ f = 3 → vI W 6 f j = vI V1 6 f j) → WrM W q R px ln ad nf := fun {W} mi e => ⟨mi.1.2.2.2.2.1, mi.1.2.2.2.2.2.2.2.2.2.1, fun v hv => by
        rw [e 12 _ (by omega), e 13 _ (by omega), show vI W 6 3 = vI V1 6 3 from funext fun j => e 3 j (by omega)]
        exact hA v hv⟩
      have wa3 : ∀ {f j}, f = 12 ∨ f = 13 ∨ f = 3 → ¬ waS 6 f j := fun {f j} hf y => by
        rcases y with ⟨_, y⟩ | ⟨_, y⟩ <;> omega
      have l3 : ∀ {f j}, ¬ lsS (q + 1) 6 f j := fun y => by have := y.1; omega
      refine c_fits (by omega) wc hN (fun big => ⟨fun z => absurd rfl z, fun _ => ?_⟩) (fun le => ⟨fun _ => ?_, fun z => absurd z (by decide)⟩)
      · -- no room
        refine w_X12_prove_0 (by omega) (c_isProblem_y mi4 hq ⟨fun _ => know_end (by omega) hq hS1 hI1 (f4.mono (fun a f j y => lsS_cs y)) (fun V2 f2 w mi2 hI2 hS2 => c_handOf (by omega) hI2.sq hI2.hq (prove_go (by omega) ⟨mi2, w⟩ (fun ⟨p, hp, yes⟩ => absurd yes (by rw [no p hp]; decide)) (fun _ V3 e3 => ?_))), fun w => absurd w (by decide)⟩)
        have g84 : vI V3 6 0 84 = nI 0 := by rw [e3, wrI_at]; rfl
        have k3 : Fc V2 V3 (plS 0) := by rw [e3]; exact Fc_wrI ⟨rfl, by omega⟩
        have m3 : WrM V3 q R px ln ad nf := by
          refine wm (mi2.fc hI.1 k3 (fun f j y => by have := y.2; omega)) (fun f j hf => ?_)
          rw [k3.i (fun y => by have := y.2; omega), f2.i (wa3 hf), f4.i l3]
        refine w_X12_print_0 ?_
        have := c_ptree (E := E) (q := q) (x := px) (ad := ad) hN (tcR R 1) (d - 1)
        rw [Nat.sub_self] at this
        refine this V3 0 _ _ (by omega) (Nat.le_refl _) m3 (by omega) g84 (fun V5 k5 => ?_)
        have e5 : vI V5 6 0 84 = nI 20001 := by rw [k5.2.1]; congr 1; omega
        refine ⟨fun z => absurd (by rw [e5] at z; exact z) (by decide), fun _ => ⟨rfl, fun _ => ?_⟩⟩
        have k25 : Fc V2 V5 (plS 0) := k3.trans k5.1
        refine JS.mono (hS2.fc 4 k25 (fun a f j y z => ?_) (fun q a f j hq _ y z => ?_) (fun g j h1 h2 y => ?_) (Or.inl (fun a f j y z => ?_)) (hS2.2.2.2.2.2.2.1.fc k25 (fun f j y z => ?_)) (fun h => absurd h (by decide))) hB
        · have := y.1; have := y.2; unfold Glo at z; omega
        · have := y.1; have := y.2; unfold OfP at z
          rcases z with z | ⟨_, z | z⟩
          · omega
          · omega
          · have := z.1; have := z.2.1; omega
        · have := y.1; omega
        · have := y.1; have := y.2; unfold Cch at z; omega
        · have := y.2; omega
      · -- it is written
        obtain ⟨N, by0, tp, teq⟩ := hS1.1
        have pg4 := hI4.2.1.1
        have b4 : Byt V4 0 0 N := by0.fc2 f4 (fun y => by have := y.1; omega)
        refine w_X4_write_0 pg4 b4.1 (by omega) (c_keep (m := 0) b4 (Nat.zero_le _) (fun V5 g5 t5 => ?_))
        have wc5 : WrC V5 (q + 1) R px := by
          obtain ⟨h1, h2, h3⟩ := wc
          have ng : ∀ f, ¬ ((q + 1) = 0 ∧ f = 0) := fun f y => by omega
          exact ⟨h1.fro (by rw [g5.1]) (fun f _ => g5.i (ng f)), by rw [g5.i (ng 0)]; exact h2, fun v hv => by rw [g5.j (ng 3)]; exact h3 v hv⟩
        have wt := c_wtree (E := E) (g := q + 1) (x := px) hN (tcR R 1) (d - 1 - 1)
        rw [Nat.sub_self] at wt
        generalize eL : trL (szR R) (tst px) ln nf (tcR R 1) (tcR R 1) = L at *
        refine w_X4_writeTree_0 wc5.1.1 t5.1 (wt V5 0 _ _ (by omega) (Nat.le_refl _) wc5 t5 (by omega) (fun V12 k12 => ?_))
        have t12 : Byt V12 0 0 L.length := by have := k12.2.1; rw [Nat.zero_add] at this; exact this
        rw [t12.2.1]
        have g12 : Fr V4 V12 (bR 0 0) := (g5.mono (fun a f y => ⟨y.1, Or.inl y.2⟩)).trans k12.1
        have hI12 : PbI V12 q t n R nt fa h px cs := hI4.ft g12 (fun a f y => y.1)
        have i612 : ∀ f, vI V12 6 f = vI V4 6 f := fun f => g12.i (fun y => absurd y.1 (by decide))
        refine w_X12_prove_0 (by omega) (c_isProblem_y hI12.mi hq ⟨fun _ => know_go (V' := V12) (S := fun _ _ _ => False) (by omega) hI12 Fc.refl (fun f j y => y) (fun V2 f2 w mi2 e1 e2 => c_handOf (by omega) mi2.1.2.2.2.2.1 mi2.1.2.2.2.2.2.2.2.2.1 (prove_go (by omega) ⟨mi2, w⟩ (fun ⟨p, hp, yes⟩ => absurd yes (by rw [no p hp]; decide)) (fun _ V3 e3 => ?_))), fun w => absurd w (by decide)⟩)
        have g84 : vI V3 6 0 84 = nI 0 := by rw [e3, wrI_at]; rfl
        have k3 : Fc V2 V3 (plS 0) := by rw [e3]; exact Fc_wrI ⟨rfl, by omega⟩
        have m3 : WrM V3 q R px ln ad nf := by
          refine wm (mi2.fc hI.1 k3 (fun f j y => by have := y.2; omega)) (fun f j hf => ?_)
          rw [k3.i (fun y => by have := y.2; omega), f2.i (wa3 hf), i612, f4.i l3]
        refine w_X12_print_0 ?_
        have := c_ptree (E := E) (q := q) (x := px) (ad := ad) hN (tcR R 1) (d - 1)
        rw [Nat.sub_self, eL] at this
        refine this V3 0 _ _ (by omega) (Nat.le_refl _) m3 (by omega) g84 (fun V5' k5 => ?_)
        have e5 : vI V5' 6 0 84 = nI L.length := by rw [k5.2.1]; congr 1; omega
        have k25 : Fc V2 V5' (plS 0) := k3.trans k5.1
        refine ⟨fun _ => ?_, fun z => absurd (by rw [e5]; exact nI_le (b := 20000) le (by decide)) z⟩
        -- copied to the tape
        have cp : ∀ m i W, i + m = L.length → Fc V5' W (fun a f j => a = 6 ∧ f = 1) → (∀ j, j < i → vI W 6 1 j = i2b (nI (L.getD j 0))) → vwp E d M_X12_prove 84 [some (sl 6 0), some (wi (nI q)), some (wi (nI h)), some (wi (nI i))] [] W (zi (fun r' V2 => nI L.length = r' ∧ (WF V2 → JS B' V2))) := by
          intro m
          induction m with
          | zero =>
            intro i W ei fw hc
            have : i = L.length := by omega
            subst this
            have w84 : vI W 6 0 84 = nI L.length := by rw [fw.i (fun y => by omega)]; exact e5
            refine w_X12_prove_84 ?_
            rw [w84]
            refine ⟨fun _ Y eY => ?_, fun z => absurd (nI_le (Nat.le_refl _) (by omega)) z⟩
            have y01 : vI Y 6 0 1 = nI L.length := by rw [eY, wrI_at]
            rw [y01]
            refine ⟨rfl, fun wY => ?_⟩
            have kY : Fc W Y (fun a f j => a = 6 ∧ f = 0 ∧ j = 1) := by rw [eY]; exact Fc_wrI ⟨rfl, rfl, rfl⟩
            have kW : Fc V12 Y (fun a f j => waS a f j ∨ plS 0 a f j ∨ a = 6 ∧ (f = 1 ∨ f = 0 ∧ j = 1)) := (((f2.mono (fun a f j y => Or.inl y)).trans (k25.mono (fun a f j y => Or.inr (Or.inl y)))).trans (fw.mono (fun a f j y => Or.inr (Or.inr ⟨y.1, Or.inl y.2⟩)))).trans (kY.mono (fun a f j y => Or.inr (Or.inr ⟨y.1, Or.inr y.2⟩)))
            have gx : Gx V1 Y (gxS q) gxT := (((Gx.of_fc (T := gxT) f4).mono (fun a f j y => Or.inr (Or.inl (Or.inl ⟨y.1, by have := y.2; omega⟩))) (fun a f y => y)).trans ((Gx.of_fr g12).mono (fun a f j y => Or.inl ⟨y.1, by have := y.2; omega⟩) (fun a f y => ⟨y.1, by have := y.2; omega⟩))).trans ((Gx.of_fc (T := gxT) kW).mono (fun a f j y => by
              rcases y with y | y | y
              · exact Or.inr (Or.inl (waS_qr y))
              · exact Or.inr (Or.inl (Or.inr ⟨y.1, by have := y.2; omega⟩))
              · exact Or.inr (Or.inr ⟨y.1, by have := y.2; omega⟩)) (fun a f y => y))
            have n0 : ∀ {f j}, ¬ (waS 0 f j ∨ plS 0 0 f j ∨ (0 : Nat) = 6 ∧ (f = 1 ∨ f = 0 ∧ j = 1)) := fun {f j} y => by
              rcases y with y | y | y
              · rcases y with ⟨y, _⟩ | ⟨y, _⟩ <;> omega
              · have := y.1; omega
              · omega
            have n62 : ∀ {j}, j = 62 ∨ j = 63 → ¬ (plS 0 6 0 j) := fun hj y => by have := y.2; omega
            have toV2 : ∀ {f j}, (f = 43 ∨ f = 44 ∨ f = 45) ∨ f = 0 ∧ (j = 62 ∨ j = 63) → vI Y 6 f j = vI V2 6 f j ∧ vJ Y 6 f j = vJ V2 6 f j := fun {f j} hf => by
              have z1 : ¬ ((6 : Nat) = 6 ∧ f = 0 ∧ j = 1) := fun y => by omega
              have z2 : ¬ ((6 : Nat) = 6 ∧ f = 1) := fun y => by omega
              have z3 : ¬ plS 0 6 f j := fun y => by have := y.2; omega
              exact ⟨by rw [kY.i z1, fw.i z2, k25.i z3], by rw [kY.j z1, fw.j z2, k25.j z3]⟩
            refine (hS1.gx hq hI1 gx ?_ ?_ ?_ ?_ ?_ ?_ wY).mono hB
            · refine ⟨L.length, t12.fc2 kW n0, ⟨y01, le⟩, fun i hi => ?_⟩
              have a := k12.2.2.2 i hi
              rw [Nat.zero_add] at a
              rw [kW.i n0, a, kY.i (fun y => by omega), hc i hi]
            · have a := hS1.2.1
              have z28 : vI V12 0 28 = vI V1 0 28 ∧ vJ V12 0 28 = vJ V1 0 28 := ⟨by rw [g12.i (fun y => by have := y.2; omega)]; exact funext fun j => f4.i (fun y => by have := y.1; omega), by rw [g12.j (fun y => by have := y.2; omega)]; exact funext fun j => f4.j (fun y => by have := y.1; omega)⟩
              have m6 : ∀ j, j = 2 ∨ j = 3 ∨ j = 4 → ¬ (waS 6 0 j ∨ plS 0 6 0 j ∨ (6 : Nat) = 6 ∧ ((0 : Nat) = 1 ∨ (0 : Nat) = 0 ∧ j = 1)) := fun j hj y => by
                rcases y with y | y | y
                · rcases y with ⟨_, y⟩ | ⟨_, y⟩ <;> omega
                · have := y.2; omega
                · omega
              have i6 : ∀ j, j = 2 ∨ j = 3 ∨ j = 4 → vI Y 6 0 j = vI V1 6 0 j ∧ vJ Y 6 0 j = vJ V1 6 0 j := fun j hj => ⟨by rw [kW.i (m6 j hj), i612, f4.i l3], by rw [kW.j (m6 j hj), g12.j (fun y => absurd y.1 (by decide)), f4.j l3]⟩
              unfold BdJ
              rw [kW.i n0, kW.j n0, kW.j n0, z28.1, z28.2, (i6 4 (by omega)).1, (i6 2 (by omega)).2, (i6 3 (by omega)).2]
              exact a
            · obtain ⟨cap, tk, _⟩ := hS1.2.2.1
              have e : ∀ f, 3 ≤ f → f ≤ 6 → vN Y 0 f = vN V1 0 f := fun f u1 u2 => by rw [kW.n, g12.n (fun y => by have := y.2; omega), f4.n]
              exact ⟨cap, by unfold TkN; rw [e 3 (by omega) (by omega), e 4 (by omega) (by omega), e 5 (by omega) (by omega), e 6 (by omega) (by omega)]; exact tk⟩
            · rw [(toV2 (by omega)).1]; exact e1
            · rw [(toV2 (by omega)).1, e2, i612, f4.i l3]
            · exact Wq.ex w (fun f j hf => (toV2 (by omega)).1) (fun j => (toV2 (by omega)).2)
          | succ m ih =>
            intro i W ei fw hc
            have w84 : vI W 6 0 84 = nI L.length := by rw [fw.i (fun y => by omega)]; exact e5
            have w58 : vI W 6 58 i = i2b (nI (L.getD i 0)) := by
              rw [fw.i (fun y => by omega)]
              have := k5.2.2 i (by omega) (by omega)
              rw [Nat.zero_add] at this
              exact this
            refine w_X12_prove_84 ?_
            rw [w84, nI_clamp (show i < 2 ^ 31 by omega), w58, i2b_i2b, nI_1]
            refine ⟨fun z => absurd z (nI_ge (by omega) (by omega)), fun _ => ⟨vp_in_nI (by omega) (by decide), vp_in_nI (by omega) (by decide), fun W4 e4 => ih (i + 1) W4 (by omega) (fw.trans (by rw [e4]; exact Fc_wrI ⟨rfl, rfl⟩)) (fun j hj => ?_)⟩⟩
            by_cases u : j = i
            · rw [u, e4, wrI_at]
            · rw [e4, wrI_ne (fun z => u z.2.2)]; exact hc j (by omega)
        exact cp L.length 0 V5' (Nat.zero_add _) Fc.refl (fun j hj => absurd hj (Nat.not_lt_zero j))
    · have mi4 := hI1.mi.fc hI1.1 f4 (fun f j y => by have := y.1; omega)
      exact w_X12_prove_0 (by omega) (c_isProblem_y mi4 hq ⟨fun _ => know_end (by omega) hq hS1 hI1 (f4.mono (fun a f j y => lsS_cs y)) (fun V2 f2 w mi2 hI2 hS2 => c_handOf (by omega) hI2.sq hI2.hq (prove_go (by omega) ⟨mi2, w⟩ (fun _ => ⟨rfl, fun _ => hS2.mono hB⟩) (fun no => absurd yes (fun ⟨p, hp, y⟩ => by rw [no p hp] at y; exact absurd y (by decide))))), fun w => absurd w (by decide)⟩))
end
