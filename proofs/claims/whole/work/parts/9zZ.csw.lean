/-! the class reads the values of a var -/
theorem lsr_get {x y : Int32} {k : Nat} (h : k < (lsr x y).length) : (lsr x y).getD k 0 = x + nI k := by
  rw [lsr_len] at h
  unfold lsr
  rw [List.getD_eq_getElem?_getD, List.getElem?_map, List.getElem?_range h]
  rfl
theorem mem_getD {A : List Int32} {x : Int32} : x ∈ A ↔ ∃ k, k < A.length ∧ A.getD k 0 = x := by
  constructor
  · intro h
    obtain ⟨k, hk⟩ := List.getElem?_of_mem h
    obtain ⟨hl, e⟩ := List.getElem?_eq_some_iff.mp hk
    exact ⟨k, hl, by rw [List.getD_eq_getElem?_getD, hk]; rfl⟩
  · intro ⟨k, hl, e⟩
    rw [← e, List.getD_eq_getElem?_getD, List.getElem?_eq_getElem hl]
    exact List.getElem_mem _
/-- no value twice -/
def Dst (A : List Int32) : Prop := ∀ a b, a < b → b < A.length → A.getD a 0 ≠ A.getD b 0
theorem Dst.add {A : List Int32} {x : Int32} (h : Dst A) (hx : ¬ x ∈ A) : Dst (A ++ [x]) := fun a b hab hb => by
  rw [List.length_append] at hb
  have hb : b < A.length + 1 := hb
  by_cases c : b < A.length
  · rw [getD_appl, getD_appl, if_pos c, if_pos (by omega)]; exact h a b hab c
  · have : b = A.length := by omega
    subst this
    rw [getD_appl, getD_appl, if_neg c, if_pos hab, Nat.sub_self]
    exact fun z => hx (mem_getD.mpr ⟨a, hab, z⟩)
theorem Dst.le {A : List Int32} (h : Dst A) (hb : ∀ x, x ∈ A → Bn 99 x) : A.length ≤ 199 := by
  by_cases c : A.length ≤ 199
  · exact c
  · exfalso
    have bd : ∀ i, i ≤ 199 → Bn 99 (A.getD i 0) := fun i hi => hb _ (mem_getD.mpr ⟨i, by omega, rfl⟩)
    obtain ⟨a, b, hab, hb9, e⟩ := php 199 (fun i => ((A.getD i 0).toInt + 99).toNat) (fun i hi => by
      have := bd i hi
      obtain ⟨b1, b2⟩ := this
      show ((A.getD i 0).toInt + 99).toNat < 199
      omega)
    have e : ((A.getD a 0).toInt + 99).toNat = ((A.getD b 0).toInt + 99).toNat := e
    obtain ⟨b1, b2⟩ := bd a (by omega)
    obtain ⟨b3, b4⟩ := bd b hb9
    exact h a b hab (by omega) (Int32.toInt_inj.mp (by omega))
/-- the listing holds the values A -/
def LsA (V : VH) (A : List Int32) : Prop := vI V 0 7 10 = nI A.length ∧ A.length ≤ 199 ∧ ∀ k, k < A.length → vI V 0 8 k = A.getD k 0
/-- what reading values leads to -/
def VlH (V : VH) (g : Nat) (T : Nat → TK) (L : Nat) (tc : Nat → Nat) (nm : Nat → Nat → Int64) (nb ub : Nat) (sv : Int32) (X : NR (List Int32)) (K : Int32 → VH → Prop) : Prop := (∀ e, X = .inl e → ∀ V', Sfr V V' g → Flt V' e → K 0 V') ∧ ∀ i1 vs, X = .inr (i1, vs) → ∀ V', Dtf V V' g ub nb → CS V' g T L tc nm i1 0 nb ub sv → vJ V' 0 7 3 = vJ V 0 7 3 → vI V' 0 7 4 = vI V 0 7 4 → LsA V' vs → K 1 V'
def lsT : Nat → Nat → Nat → Prop := fun a f j => a = 0 ∧ (f = 7 ∧ j = 10 ∨ f = 8)
section
variable {E : EE} {d : Nat} {V : VH} {g : Nat} {T : Nat → TK} {F L : Nat} {R : List SR} {tc : Nat → Nat} {nm : Nat → Nat → Int64} {i nb ub : Nat} {sv : Int32}
theorem CS.ls {V' : VH} (h : CS V g T L tc nm i 0 nb ub sv) (f : Fc V V' lsT) : CS V' g T L tc nm i 0 nb ub sv ∧ Dtf V V' g ub nb ∧ vJ V' 0 7 3 = vJ V 0 7 3 ∧ vI V' 0 7 4 = vI V 0 7 4 ∧ vI V' 0 7 5 = vI V 0 7 5 := by
  obtain ⟨g0, g6⟩ := h.g0
  exact ⟨h.gen f (fun a f j z => by obtain ⟨z1, z2⟩ := z; omega) (h.1.2.2.2.2.2.2.fc f (fun f j _ z => g0 z.1)), f.dd g0 (fun a f j z => ⟨z.1, by have := z.2; omega⟩), f.j (fun z => by have := z.2; omega), f.i (fun z => by have := z.2; omega), f.i (fun z => by have := z.2; omega)⟩
theorem cs_fromTo {K : Int32 → VH → Prop} (h0 : 2 < d) (h : CS V g T L tc nm i 0 nb ub sv) (hl : vI V 0 7 10 = 0) (hV : VlH V g T L tc nm nb ub sv (rng T i) K) : vMI E d M_X5_valuesFromTo [sl 0 7] V K := by
  obtain ⟨he, hy⟩ := hV
  obtain ⟨g0, g6⟩ := h.g0
  refine w_X5_valuesFromTo_0 (by omega) (cs_numeral (sg := true) (lo := 0) (hi := 99) (by omega) h (by decide) (by decide) (fun e z V1 r1 t1 => ⟨fun q => absurd rfl q, fun _ => he e (by unfold rng; rw [z]; rfl) V1 r1.st t1⟩) (fun i1 x z V1 r1 s1 a1 x1 _ _ _ _ _ => ⟨fun _ => ?_, fun q => absurd q (by decide)⟩))
  have e1 : rng T i = (if (T i1).1 = 202 then nrB (nmr T true 0 99 (i1 + 1)) (fun i2 y => if y < x then .inl (5, (T (i2 - 1)).f) else .inr (i2, lsr x y)) else .inl (rfe T i1)) := by unfold rng; rw [z]; rfl
  refine cs_accept (c := 202) (by omega) s1 (by decide) rfl (fun z1 V3 r3 t3 => ⟨fun _ => he _ (by rw [e1, if_neg z1]) V3 (r1.st.trans r3.st) t3, fun q => absurd rfl q⟩) (fun z1 V3 r3 s3 a3 => ⟨fun q => absurd q (by decide), fun _ => ?_⟩)
  rw [if_pos z1] at e1
  refine cs_numeral (sg := true) (lo := 0) (hi := 99) (by omega) s3 (by decide) (by decide) (fun e z2 V5 r5 t5 => ⟨fun q => absurd rfl q, fun _ => he e (by rw [e1, z2]; rfl) V5 ((r1.st.trans r3.st).trans r5.st) t5⟩) (fun i2 y z2 V5 r5 s5 a5 y5 p5 _ _ _ _ => ⟨fun _ => ?_, fun q => absurd q (by decide)⟩)
  rw [z2] at e1
  have e1 : rng T i = (if y < x then .inl (5, (T (i2 - 1)).f) else .inr (i2, lsr x y)) := e1
  rw [x1, y5]
  refine ⟨fun q => ?_, fun q => ?_⟩
  · rw [if_neg (Int32.not_lt.mpr q)] at e1
    obtain ⟨⟨bx1, bx2⟩, _⟩ := nmr_hi (by decide) z
    obtain ⟨⟨by1, by2⟩, _⟩ := nmr_hi (by decide) z2
    have qi := Int32.le_iff_toInt_le.mp q
    have len := lsr_len x y
    have ti : ∀ k : Nat, k ≤ 199 → (x + nI k).toInt = x.toInt + k := fun k hk => by
      have bk : (nI k).toInt = (k : Int) := Int32.toInt_ofNat_of_lt (by omega)
      rw [Int32.toInt_add, bk]; exact Int.bmod_eq_of_le (by omega) (by omega)
    have dt : Dtf V V5 g ub nb := ((r1.dd a1).trans (r3.dd a3)).trans (r5.dd a5)
    have k3 : vJ V5 0 7 3 = vJ V 0 7 3 := by rw [(r5.2.2.1 3 (by omega)).2, (r3.2.2.1 3 (by omega)).2, (r1.2.2.1 3 (by omega)).2]
    have k4 : vI V5 0 7 4 = vI V 0 7 4 := by rw [(r5.2.2.1 4 (by omega)).1, (r3.2.2.1 4 (by omega)).1, (r1.2.2.1 4 (by omega)).1]
    have k10 : vI V5 0 7 10 = 0 := by rw [(r5.2.2.1 10 (by omega)).1, (r3.2.2.1 10 (by omega)).1, (r1.2.2.1 10 (by omega)).1]; exact hl
    have go : ∀ (m k : Nat) (W : VH) (c : Int32), k + m = (lsr x y).length → c = x + nI k → Fc V5 W lsT → vI W 0 7 10 = nI k → (∀ j, j < k → vI W 0 8 j = x + nI j) → vwp E d M_X5_valuesFromTo 67 [some (sl 0 7), some (wi x), some (wi c)] [] W (zi K) := by
      intro m
      induction m with
      | zero =>
        intro k W c ek ec w w10 w8
        obtain ⟨s6, d6, j3, j4, j5⟩ := s5.ls w
        have hlt : y < c := by rw [ec, Int32.lt_iff_toInt_lt, ti k (by omega)]; omega
        refine w_X5_valuesFromTo_67 ⟨fun _ => hy i2 (lsr x y) e1 W (dt.trans d6) s6 (j3.trans k3) (j4.trans k4) ⟨by rw [w10, show k = (lsr x y).length by omega], by omega, fun j hj => ?_⟩, fun q2 => absurd (show vI W 0 7 5 < c by rw [j5, y5]; exact hlt) q2⟩
        rw [w8 j (by omega), lsr_get hj]
      | succ m ih =>
        intro k W c ek ec w w10 w8
        obtain ⟨s6, d6, j3, j4, j5⟩ := s5.ls w
        have hge : ¬ y < c := by rw [ec, Int32.lt_iff_toInt_lt, ti k (by omega)]; omega
        refine w_X5_valuesFromTo_67 ⟨fun q2 => absurd (show y < c by rw [j5, y5] at q2; exact q2) hge, fun _ => ?_⟩
        rw [w10, nI_1, nI_clamp (show k < 2 ^ 31 by omega)]
        refine ⟨fun q2 => absurd q2 (nI_ge (by omega) (by decide)), fun _ W1 f1 => ⟨vp_in_nI (by omega) (by decide), fun W3 f3 => ?_⟩⟩
        have c3 : Fc W W3 lsT := by rw [f3, f1]; exact (Fc_wrI ⟨rfl, Or.inl ⟨rfl, rfl⟩⟩).trans (Fc_wrI ⟨rfl, Or.inr rfl⟩)
        refine ih (k + 1) W3 _ (by omega) (by rw [ec, Int32.add_assoc, nI_1]) (w.trans c3) (by rw [f3, wrI_ne (fun z => by omega), f1, wrI_at]) (fun j hj => ?_)
        by_cases z : j = k
        · subst z; rw [f3, wrI_at]; exact ec
        · rw [f3, wrI_ne (fun y => by omega), f1, wrI_ne (fun y => by omega)]; exact w8 j (by omega)
    exact go _ 0 V5 x (Nat.zero_add _) (by rw [show nI 0 = 0 from rfl, Int32.add_zero]) Fc.refl k10 (fun j hj => absurd hj (Nat.not_lt_zero j))
  · rw [if_pos (Int32.not_le.mp q)] at e1
    exact cs_fail s5 rfl p5 (fun V' a b => ⟨Or.inl rfl, he _ e1 V' (((r1.st.trans r3.st).trans r5.st).trans a.st) b⟩)
theorem cs_braces {K : Int32 → VH → Prop} (h0 : 2 < d) (h : CS V g T L tc nm i 0 nb ub sv) (hc : (T i).1 = 123) (hl : vI V 0 7 10 = 0) (hV : VlH V g T L tc nm nb ub sv (vst T 200 [] (i + 1)) K) : vMI E d M_X5_valuesInBraces [sl 0 7] V K := by
  obtain ⟨he, hy⟩ := hV
  have rd : ∀ (n : Nat) (A : List Int32) (j : Nat) (W : VH), A.length + n = 200 → Dst A → (∀ x, x ∈ A → Bn 99 x) → (T j).1 ≠ 0 → (T j).1 ≠ 3 → Dtf V W g ub nb → CS W g T L tc nm j 0 nb ub sv → vJ W 0 7 3 = vJ V 0 7 3 → vI W 0 7 4 = vI V 0 7 4 → LsA W A → vst T 200 [] (i + 1) = vst T n A (j + 1) → vwp E d M_X5_valuesInBraces 37 [some (sl 0 7), some (wi (nI A.length)), none] [] W (zi K) := by
    intro n
    induction n with
    | zero =>
      intro A j W eA hD hB
      exact absurd (hD.le hB) (by omega)
    | succ m ih =>
      intro A j W eA hD hB n0 n3 dW sW k3 k4 lW hX
      refine w_X5_valuesInBraces_37 (by omega) (cs_step sW n0 n3 (fun W1 r1 s1 a1 => cs_numeral (sg := true) (lo := 0) (hi := 99) (by omega) s1 (by decide) (by decide) (fun e z W3 r3 t3 => ⟨fun q => absurd rfl q, fun _ => he e (by rw [hX, vst, z]; rfl) W3 ((dW.st.trans r1.st).trans r3.st) t3⟩) (fun i1 x z W3 r3 s3 a3 x3 p3 _ _ _ _ => ⟨fun _ => ?_, fun q => absurd q (by decide)⟩)))
      have eX : vst T 200 [] (i + 1) = (if x ∈ A then .inl (5, (T (i1 - 1)).f) else if (T i1).1 = 44 then vst T m (A ++ [x]) (i1 + 1) else if (T i1).1 = 125 then .inr (i1 + 1, A ++ [x]) else .inl (rfe T i1)) := by rw [hX, vst, z]; rfl
      obtain ⟨g0, g6⟩ := s3.g0
      have n8 : ¬ rdR g 0 8 := fun y => by rcases y with ⟨_, y⟩ | ⟨y, _⟩; omega; exact g0 y.symm
      have d3 : Dtf V W3 g ub nb := (dW.trans (r1.dd a1)).trans (r3.dd a3)
      have j3 : vJ W3 0 7 3 = vJ V 0 7 3 := by rw [(r3.2.2.1 3 (by omega)).2, (r1.2.2.1 3 (by omega)).2]; exact k3
      have j4 : vI W3 0 7 4 = vI V 0 7 4 := by rw [(r3.2.2.1 4 (by omega)).1, (r1.2.2.1 4 (by omega)).1]; exact k4
      have l3 : LsA W3 A := ⟨by rw [(r3.2.2.1 10 (by omega)).1, (r1.2.2.1 10 (by omega)).1]; exact lW.1, lW.2.1, fun k hk => by rw [r3.1.i n8, r1.1.i n8]; exact lW.2.2 k hk⟩
      have in_ : ∀ (q k : Nat), k + q = A.length → (∀ j, j < k → A.getD j 0 ≠ x) → vwp E d M_X5_valuesInBraces 59 [some (sl 0 7), some (wi (nI A.length)), some (wi (nI k))] [] W3 (zi K) := by
        intro q
        induction q with
        | zero =>
          intro k ek hne
          have nx : ¬ x ∈ A := fun y => by
            obtain ⟨u, hu, e⟩ := mem_getD.mp y
            exact hne u (by omega) e
          have bx := (nmr_hi (by decide) z).1
          have hB' : ∀ y, y ∈ A ++ [x] → Bn 99 y := fun y hy => by
            rcases List.mem_append.mp hy with w | w
            · exact hB y w
            · rw [List.mem_singleton.mp w]; exact bx
          have hD' := hD.add nx
          have le' := hD'.le hB'
          rw [List.length_append] at le'
          have le' : A.length + 1 ≤ 199 := le'
          rw [if_neg nx] at eX
          refine w_X5_valuesInBraces_59 (by omega) ⟨fun _ => ?_, fun y => absurd (show vI W3 0 7 10 ≤ nI k by rw [l3.1]; exact nI_le (by omega) (by omega)) y⟩
          rw [l3.1, nI_1, nI_clamp (show A.length < 2 ^ 31 by omega)]
          refine ⟨fun y => absurd y (nI_ge (by omega) (by decide)), fun _ W4 f4 => ⟨vp_in_nI (by omega) (by decide), fun W6 f6 => w_X5_valuesInBraces_131 ?_⟩⟩
          have x4 : vI W4 0 7 5 = x := by rw [f4, wrI_ne (fun y => by omega)]; exact x3
          rw [x4] at f6
          have c6 : Fc W3 W6 lsT := by rw [f6, f4]; exact (Fc_wrI ⟨rfl, Or.inl ⟨rfl, rfl⟩⟩).trans (Fc_wrI ⟨rfl, Or.inr rfl⟩)
          obtain ⟨s6, d6, m3, m4, m5⟩ := s3.ls c6
          have l6 : LsA W6 (A ++ [x]) := by
            refine ⟨?_, by rw [List.length_append]; exact le', fun u hu => ?_⟩
            · rw [f6, wrI_ne (fun y => by omega), f4, wrI_at, List.length_append]; rfl
            · rw [List.length_append] at hu
              have hu : u < A.length + 1 := hu
              rw [getD_appl]
              by_cases w : u < A.length
              · rw [if_pos w, f6, wrI_ne (fun y => by omega), f4, wrI_ne (fun y => by omega)]; exact l3.2.2 u w
              · have : u = A.length := by omega
                subst this
                rw [if_neg w, Nat.sub_self, f6, wrI_at]; rfl
          rw [nI_1]
          refine w_X5_valuesInBraces_2 (by omega) ⟨fun y => absurd ((nI_ltI (by decide) (by omega)).mp y) (by omega), fun _ => ⟨fun y => absurd y (nI_ge (a := 0) (by omega) (by omega)), fun _ => cs_is s6 (c := 44) (by decide) rfl ?_⟩⟩
          by_cases c4 : (T i1).1 = 44
          · rw [decide_eq_true c4]
            rw [if_pos c4] at eX
            refine ⟨fun _ => ?_, fun y => absurd y (by decide)⟩
            have ea : A.length + 1 = (A ++ [x]).length := by rw [List.length_append]; rfl
            rw [ea]
            exact ih (A ++ [x]) i1 W6 (by omega) hD' hB' (by omega) (by omega) (d3.trans d6) s6 (m3.trans j3) (m4.trans j4) l6 eX
          · rw [decide_eq_false c4]
            rw [if_neg c4] at eX
            refine ⟨fun y => absurd rfl y, fun _ => ?_⟩
            refine cs_accept (c := 125) (by omega) s6 (by decide) rfl (fun z1 W8 r8 t8 => ⟨Or.inl rfl, he _ (by rw [eX, if_neg z1]) W8 ((d3.trans d6).st.trans r8.st) t8⟩) (fun z1 W8 r8 s8 a8 => ⟨Or.inr rfl, hy (i1 + 1) (A ++ [x]) (by rw [eX, if_pos z1]) W8 ((d3.trans d6).trans (r8.dd a8)) s8 (by rw [(r8.2.2.1 3 (by omega)).2]; exact m3.trans j3) (by rw [(r8.2.2.1 4 (by omega)).1]; exact m4.trans j4) ⟨by rw [(r8.2.2.1 10 (by omega)).1]; exact l6.1, l6.2.1, fun u hu => by rw [r8.1.i n8]; exact l6.2.2 u hu⟩⟩)
        | succ q ihq =>
          intro k ek hne
          have lk := lW.2.1
          refine w_X5_valuesInBraces_59 (by omega) ⟨fun y => absurd (show nI A.length ≤ nI k by rw [l3.1] at y; exact y) (nI_ge (by omega) (by omega)), fun _ => ?_⟩
          rw [nI_clamp (show k < 2 ^ 31 by omega), l3.2.2 k (by omega), x3, nI_1]
          refine ⟨vp_in_nI (by omega) (by decide), fun y => ihq (k + 1) (by omega) (fun u hu => ?_), fun y => ?_⟩
          · by_cases w : u = k
            · subst w; exact y
            · exact hne u (by omega)
          · rw [if_pos (mem_getD.mpr ⟨k, by omega, y⟩)] at eX
            exact cs_fail s3 rfl p3 (fun V' a b => ⟨Or.inl rfl, he _ eX V' (d3.st.trans a.st) b⟩)
      exact in_ A.length 0 (Nat.zero_add _) (fun j hj => absurd hj (Nat.not_lt_zero j))
  refine w_X5_valuesInBraces_0 (w_X5_valuesInBraces_2 (by omega) ⟨fun q => absurd q (by decide), fun _ => ⟨fun _ => ?_, fun q => absurd (by decide) q⟩⟩)
  exact rd 200 [] i V rfl (fun a b _ hb => absurd hb (Nat.not_lt_zero b)) (fun x hx => absurd hx List.not_mem_nil) (by omega) (by omega) Dtf.refl h rfl rfl ⟨hl, Nat.zero_le _, fun k hk => absurd hk (Nat.not_lt_zero k)⟩ rfl
theorem cs_var {K : Int32 → VH → Prop} (h0 : 5 < d) (h : CS V g T L (tcR R) (nmR R) i 0 (nbR R) (ubR R) sv) (hd : CDt V g R) (hw : WR T F L R i) (c : (T i).1 = 301) (hS : StH V g T L R (stV T R i) K) : vMI E d M_X5_varStatement [sl 0 7] V K := by
  obtain ⟨he, hy⟩ := hS
  obtain ⟨g0, g6⟩ := h.g0
  refine vM_wf (fun hW => ?_)
  have L8 : SL (vL V) 0 8 14 := ⟨hW.1.1, by decide, by decide⟩
  have N8 : vN V 0 8 = 199 := hW.2.1 0 hW.1.1 (8, 199) (by decide)
  refine w_X5_varStatement_0 (by omega) (cs_newName (s := 1) (most := 12) (by omega) h (by omega) (by omega) (by decide) (by decide) (fun e z V1 f1 t1 => ⟨fun _ => he e (by unfold stV; rw [z]; rfl) V1 f1 t1, fun q => absurd rfl q⟩) (fun z V1 d1 s1 ky pl => ⟨fun q => absurd q (by decide), fun _ => ?_⟩))
  have e1 : stV T R i = (if (T (i + 2)).1 = 302 then nrB (vls T (i + 2 + 1)) (fun i2 vs => if (T i2).1 = 59 then (if 20 < vs.length ∨ 20000 < plR R * vs.length then .inl (6, (T (i + 1)).f) else .inr (i2 + 1, mkS 1 T R i vs 0 0 0 [] [])) else .inl (rfe T i2)) else .inl (rfe T (i + 2))) := by unfold stV; rw [z]; rfl
  refine cs_accept (c := 302) (by omega) s1 (by decide) rfl (fun z1 V3 r3 t3 => ⟨fun q => absurd rfl q, fun _ => he _ (by rw [e1, if_neg z1]) V3 (d1.st.trans r3.st) t3⟩) (fun z1 V3 r3 s3 a3 => ⟨fun _ V5 e5 => ?_, fun q => absurd q (by decide)⟩)
  rw [if_pos z1] at e1
  have f5 : Fc V3 V5 lsT := by rw [e5]; exact Fc_wrI ⟨rfl, Or.inl ⟨rfl, rfl⟩⟩
  obtain ⟨s5, d5, m3, m4, _⟩ := s3.ls f5
  have dt5 : Dtf V V5 g (ubR R) (nbR R) := (d1.trans (r3.dd a3)).trans d5
  have ky5 : vJ V5 0 7 3 = (T (i + 1)).2.1 := by rw [m3, (r3.2.2.1 3 (by omega)).2]; exact ky
  have pl5 : vI V5 0 7 4 = nI (T (i + 1)).f := by rw [m4, (r3.2.2.1 4 (by omega)).1]; exact pl
  have l5 : vI V5 0 7 10 = 0 := by rw [e5, wrI_at]
  obtain ⟨q1, q2, q3, q4⟩ := nwn_inr z
  -- behind the values
  have rest : ∀ (t : Int32) (W : VH), (t = 0 → ∃ e, vls T (i + 2 + 1) = .inl e ∧ Sfr V5 W g ∧ Flt W e) → (¬ t = 0 → ∃ i2 vs, vls T (i + 2 + 1) = .inr (i2, vs) ∧ Dtf V5 W g (ubR R) (nbR R) ∧ CS W g T L (tcR R) (nmR R) i2 0 (nbR R) (ubR R) sv ∧ vJ W 0 7 3 = vJ V5 0 7 3 ∧ vI W 0 7 4 = vI V5 0 7 4 ∧ LsA W vs) → vwp E (d) M_X5_varStatement 51 [some (sl 0 7), none] [wi t] W (zi K) := by
    intro t W hb hg2
    refine w_X5_varStatement_51 (by omega) ⟨fun q => ?_, fun q => ?_⟩
    · obtain ⟨e, w1, w2, w3⟩ := hb q
      exact he e (by rw [e1, w1]; rfl) W (dt5.st.trans w2) w3
    · obtain ⟨i2, vs, w1, dW, sW, w3, w4, lW⟩ := hg2 q
      rw [w1] at e1
      have e1 : stV T R i = (if (T i2).1 = 59 then (if 20 < vs.length ∨ 20000 < plR R * vs.length then .inl (6, (T (i + 1)).f) else .inr (i2 + 1, mkS 1 T R i vs 0 0 0 [] [])) else .inl (rfe T i2)) := e1
      have iL : i + 2 + 1 ≤ L := s5.2.2.1
      obtain ⟨_, b2, _, _⟩ := vls_ok s5.1.2.2.2.2.2.1.1 iL w1
      refine cs_accept (c := 59) (by omega) sW (by decide) rfl (fun z3 V7 r7 t7 => ⟨fun q => absurd rfl q, fun _ => he _ (by rw [e1, if_neg z3]) V7 ((dt5.trans dW).st.trans r7.st) t7⟩) (fun z3 V7 r7 s7 a7 => ⟨fun _ => ?_, fun q => absurd q (by decide)⟩)
      rw [if_pos z3] at e1
      have dt : Dtf V V7 g (ubR R) (nbR R) := (dt5.trans dW).trans (r7.dd a7)
      have hd7 := hd.dd dt
      have n8 : ¬ rdR g 0 8 := fun y => by rcases y with ⟨_, y⟩ | ⟨y, _⟩; omega; exact g0 y.symm
      have n8' : ¬ (fun a f => a = 0 ∧ (f = 2 ∨ f = 7 ∨ f = 8) ∨ a = g ∧ (f = 9 ∨ f = 15 ∨ f = 16)) 0 9 := fun y => by rcases y with ⟨_, y⟩ | ⟨y, _⟩; omega; exact g0 y.symm
      have ky7 : vJ V7 0 7 3 = (T (i + 1)).2.1 := by rw [(r7.2.2.1 3 (by omega)).2, w3]; exact ky5
      have pl7 : vI V7 0 7 4 = nI (T (i + 1)).f := by rw [(r7.2.2.1 4 (by omega)).1, w4]; exact pl5
      have nc := s7.1.2.2.2.2.2.2
      have g7 := s7.1.2.2.1
      rw [s7.1.1, show vI V7 0 7 10 = nI vs.length by rw [(r7.2.2.1 10 (by omega)).1]; exact lW.1]
      refine ⟨g7, ?_⟩
      refine vM_wf (fun hW7 => ?_)
      refine c_spadd (sz' := szR (R ++ [mkS 1 T R i vs 0 0 0 [] []])) (vl' := vlR (R ++ [mkS 1 T R i vs 0 0 0 [] []])) hd7.2.1 ⟨hW7.1.1, by decide, by decide⟩ (hW7.2.1 0 hW7.1.1 (8, 199) (by decide)) (by omega) b2 lW.2.1 (fun v hv => ⟨by unfold szR; rw [gtR_old hv], fun j => by unfold vlR; rw [gtR_old hv]⟩) (by unfold szR; rw [gtR_new (s := 1) rfl]; rfl) (fun k hk => ?_) (fun bad => ⟨fun y => absurd rfl y, fun _ => ?_⟩) (fun ok V8 f8 s8 => ⟨fun _ => ?_, fun y => absurd y (by decide)⟩)
      · rw [r7.1.i n8, lW.2.2 k hk]; unfold vlR; rw [gtR_new (s := 1) rfl]; rfl
      · rw [if_pos (show 20 < vs.length ∨ 20000 < plR R * vs.length from bad)] at e1
        exact cs_fail s7 rfl pl7 (fun V' a b => ⟨Or.inl rfl, he _ e1 V' (dt.st.trans a.st) b⟩)
      · rw [if_neg (show ¬ (20 < vs.length ∨ 20000 < plR R * vs.length) from ok)] at e1
        have nc8 := nc.fc f8 (fun f j hf y => by have := y.2; omega)
        have c8 := s7.gen f8 (fun a f j y => Or.inr (Or.inr ⟨y.1, fun w => by have := y.2; omega⟩)) nc8
        have ky8 : vJ V8 0 7 3 = (T (i + 1)).2.1 := by rw [f8.j (fun y => g0 y.1.symm)]; exact ky7
        rw [c8.1.1, ky8]
        refine ⟨c8.1.2.2.1, ?_⟩
        refine c_tell (s := 1) (tc' := tcR (R ++ [mkS 1 T R i vs 0 0 0 [] []])) (nm' := nmR (R ++ [mkS 1 T R i vs 0 0 0 [] []])) c8.1.2.2.1 nc8 (by decide) (by omega) (tcR_same rfl) (fun u hu => tcR_ne (Ne.symm hu)) (by unfold nmR; rw [gtR_new (s := 1) rfl]; rfl) (fun u k hk => nmR_old hk) (fun V13 f13 n13 => ?_)
        have w2 : tcR R 2 ≤ 24 := hw.1 2 (by decide)
        refine hy _ _ e1 V13 (dt.st.trans ((f8.st g0 (fun a f j y => ⟨y.1, by have := y.2; omega⟩)).trans (f13.st g0 (fun a f j y => ⟨y.1, by have := y.2; omega⟩)))) ⟨sv, ?_⟩ ⟨?_, ?_, ?_⟩
        · rw [nbR_add, ubR_add]
          exact c8.gen f13 (fun a f j y => Or.inr (Or.inr ⟨y.1, fun w => by have := y.2; omega⟩)) n13
        · exact CDb.add ((hd7.1.fx f8 (fun f j y => by have := y.2; omega) w2).fx f13 (fun f j y => by have := y.2; omega) w2) (fun y => absurd y (by decide : (1 : Nat) ≠ 0)) (fun y => absurd y (by decide : (1 : Nat) ≠ 2)) (fun y => absurd y (by decide : (1 : Nat) ≠ 3))
        · rw [tcR_same (s := 1) rfl]
          refine s8.fro (by rw [f13.l]) (fun f hf => funext fun j => ?_)
          rw [f13.i (fun y => by have := y.2; omega)]
        · refine hd7.2.2.ne (by decide : (1 : Nat) ≠ 2) (by decide : (1 : Nat) ≠ 3) (fun j _ => ?_)
          rw [f13.i (fun y => by have := y.2; omega), f8.i (fun y => by have := y.2; omega)]
  refine cs_is s5 (c := 123) (by decide) rfl ?_
  by_cases cb : (T (i + 2 + 1)).1 = 123
  · rw [decide_eq_true cb]
    refine ⟨fun q => absurd q (by decide), fun _ => cs_braces (by omega) s5 cb l5 ⟨fun e y W w1 w2 => rest 0 W (fun _ => ⟨e, by unfold vls; rw [if_pos cb]; exact y, w1, w2⟩) (fun y => absurd rfl y), fun i2 vs y W w1 w2 w3 w4 w5 => rest 1 W (fun y => absurd y (by decide)) (fun _ => ⟨i2, vs, by unfold vls; rw [if_pos cb]; exact y, w1, w2, w3, w4, w5⟩)⟩⟩
  · rw [decide_eq_false cb]
    refine ⟨fun _ => cs_fromTo (by omega) s5 l5 ⟨fun e y W w1 w2 => rest 0 W (fun _ => ⟨e, by unfold vls; rw [if_neg cb]; exact y, w1, w2⟩) (fun y => absurd rfl y), fun i2 vs y W w1 w2 w3 w4 w5 => rest 1 W (fun y => absurd y (by decide)) (fun _ => ⟨i2, vs, by unfold vls; rw [if_neg cb]; exact y, w1, w2, w3, w4, w5⟩)⟩, fun q => absurd rfl q⟩
end
