/-! the reference reads: steps one behind the other; lists -/
def thn (r : (Nat × Nat) ⊕ Nat) (k : Nat → (Nat × Nat) ⊕ Nat) : (Nat × Nat) ⊕ Nat := match r with
  | .inl e => .inl e
  | .inr i => k i
/-- a step: from token i to f i, or a fault; behind a fault nothing more happens -/
def StQ (p : Nat) (t : Nat → Int32) (n : Nat) (tc : Nat → Nat) (nm : Nat → Nat → Int64) (o : Nat) (g : VH → (VH → Prop) → Prop) (f : Nat → (Nat × Nat) ⊕ Nat) : Prop := (∀ V i K, MZ V p t n tc nm i o → (∀ V', MO V V' p t n tc nm o i (f i) → K V') → g V K) ∧ ∀ V K, ¬ vI V 6 0 45 = 0 → K V → g V K
section
variable {E : EE} {d : Nat} {p : Nat} {t : Nat → Int32} {n : Nat} {tc : Nat → Nat} {nm : Nat → Nat → Int64} {o : Nat}
theorem StQ.seq {g1 g2 : VH → (VH → Prop) → Prop} {f1 f2 : Nat → (Nat × Nat) ⊕ Nat} (h1 : StQ p t n tc nm o g1 f1) (h2 : StQ p t n tc nm o g2 f2) : StQ p t n tc nm o (fun V K => g1 V (fun V1 => g2 V1 K)) (fun i => thn (f1 i) f2) := by
  refine ⟨fun V i K hM hk => h1.1 V i _ hM (fun V1 m1 => ?_), fun V K hD hk => h1.2 V _ hD (h2.2 V K hD hk)⟩
  cases w : f1 i with
  | inl e =>
    rw [w] at m1
    have hk : ∀ V', MO V V' p t n tc nm o i (thn (f1 i) f2) → K V' := hk
    rw [w] at hk
    exact h2.2 V1 K m1.dead (hk V1 m1)
  | inr i1 =>
    rw [w] at m1
    have hk : ∀ V', MO V V' p t n tc nm o i (thn (f1 i) f2) → K V' := hk
    rw [w] at hk
    exact h2.1 V1 i1 K m1.2.1 (fun V2 m2 => hk V2 (m1.tr m2))
theorem StQ.ex {g : VH → (VH → Prop) → Prop} {f f' : Nat → (Nat × Nat) ⊕ Nat} (h : StQ p t n tc nm o g f) (e : ∀ i, f i = f' i) : StQ p t n tc nm o g f' := ⟨fun V i K hM hk => h.1 V i K hM (by rw [e i]; exact hk), h.2⟩
/-- another program that the first one proves -/
theorem StQ.by_ {g g' : VH → (VH → Prop) → Prop} {f : Nat → (Nat × Nat) ⊕ Nat} (h : StQ p t n tc nm o g f) (e : ∀ V K, g V K → g' V K) : StQ p t n tc nm o g' f := ⟨fun V i K hM hk => e V K (h.1 V i K hM hk), fun V K a b => e V K (h.2 V K a b)⟩
theorem st_need {c : Nat} {x : Int32} (hF : eFr E) (h0 : 8 < d) (hx : x = nI c) (hc : 4 ≤ c) (hc2 : c < 1000) : StQ p t n tc nm o (fun V K => vMV E d M_X12_need [sl 6 0, wi x] V K) (nee (tkT t n) c) := ⟨fun V i K hM hk => ms_need hF h0 hM hx hc hc2 hk, fun V K hD hk => md_need (by omega) hD hk⟩
theorem st_aVar (hF : eFr E) (h0 : 8 < d) : StQ p t n tc nm o (fun V K => vMV E d M_X12_aVar [sl 6 0] V K) (fun i => nrI (vrb (tkT t n) (lku tc nm) i)) := ⟨fun V i K hM hk => ms_aVar hF h0 hM hk, fun V K hD hk => md_aVar (by omega) hD hk⟩
theorem st_aNumber {lo hi : Nat} {x y : Int32} (hF : eFr E) (h0 : 8 < d) (hx : x = nI lo) (hy : y = nI hi) (hlo : lo ≤ 9999) (hhi : hi ≤ 9999) : StQ p t n tc nm o (fun V K => vMI E d M_X12_aNumber [sl 6 0, wi x, wi y] V (fun _ V1 => K V1)) (fun i => nrI (nmr (tkT t n) false lo hi i)) := ⟨fun V i K hM hk => ms_aNumber hF h0 hM hx hy hlo hhi hk, fun V K hD hk => md_aNumber (by omega) hD hk⟩
theorem st_anInt {hi : Nat} {y : Int32} (hF : eFr E) (h0 : 9 < d) (hy : y = nI hi) (hhi : hi ≤ 9999) : StQ p t n tc nm o (fun V K => vMI E d M_X12_anInt [sl 6 0, wi y] V (fun _ V1 => K V1)) (fun i => nrI (nmr (tkT t n) true 0 hi i)) := ⟨fun V i K hM hk => ms_anInt hF h0 hM hy hhi (fun V' x m _ => hk V' m), fun V K hD hk => md_anInt (by omega) hD hk⟩
theorem thn_assoc (r : (Nat × Nat) ⊕ Nat) (k l : Nat → (Nat × Nat) ⊕ Nat) : thn (thn r k) l = thn r (fun i => thn (k i) l) := by cases r <;> rfl
theorem nrI_b {α : Type} {β : Type} (r : NR α) (f : Nat → α → NR β) (k : Nat → (Nat × Nat) ⊕ Nat) (h : ∀ i x, r = .inr (i, x) → nrI (f i x) = k i) : nrI (nrB r f) = thn (nrI r) k := by
  cases r with
  | inl e => rfl
  | inr q => exact h q.1 q.2 rfl
theorem nrI_id {α : Type} (r : NR α) : nrI r = thn (nrI r) .inr := by cases r <;> rfl
theorem thn_inr (r : (Nat × Nat) ⊕ Nat) : thn r .inr = r := by cases r <;> rfl
/-- one group, entry by entry -/
theorem grp_I {T : Nat → TK} {M : MN} {sh : Nat → Nat} {m j i : Nat} : nrI (grp T M sh (m + 1) j i) = thn (nee T (if j = 0 then 40 else 44) i) (fun a => thn (nrI (ent T M (sh j) a)) (fun b => nrI (grp T M sh m (j + 1) b))) := by
  rw [grp]
  unfold nee
  by_cases c : (T i).1 = (if j = 0 then 40 else 44)
  · rw [if_pos c, if_pos c]
    refine nrI_b _ _ _ (fun i1 x _ => ?_)
    rw [nrI_b _ _ .inr (fun i2 xs _ => rfl)]
    exact (nrI_id _).symm
  · rw [if_neg c, if_neg c]; rfl
theorem grp_0 {T : Nat → TK} {M : MN} {sh : Nat → Nat} {j i : Nat} : nrI (grp T M sh 0 j i) = .inr i := rfl
/-- a group and its bracket -/
def itm (T : Nat → TK) (M : MN) (sh : Nat → Nat) (wide i : Nat) : (Nat × Nat) ⊕ Nat := thn (nrI (grp T M sh wide 0 i)) (nee T 41)
theorem ent_v {T : Nat → TK} {M : MN} {i : Nat} : nrI (ent T M 0 i) = nrI (vrb T M i) := by
  unfold ent
  rw [if_pos rfl, nrI_b _ _ .inr (fun i1 x _ => rfl)]
  exact (nrI_id _).symm
theorem ent_1 {T : Nat → TK} {M : MN} {i : Nat} : ent T M 1 i = nmr T true 0 9999 i := rfl
theorem ent_2 {T : Nat → TK} {M : MN} {i : Nat} : ent T M 2 i = nmr T false 0 9999 i := rfl
theorem ent_3 {T : Nat → TK} {M : MN} {i : Nat} : ent T M 3 i = nmr T false 0 9 i := rfl
theorem st_item_auto {x2 : Int32} (hF : eFr E) (h0 : 12 < d) : StQ p t n tc nm o (fun V K => vMV E d M_X12_item [sl 6 0, wi 310, wi x2] V K) (itm (tkT t n) (lku tc nm) shS 3) := by
  have s := ((((((st_need (E := E) (d := d - 1) (p := p) (t := t) (n := n) (tc := tc) (nm := nm) (o := o) (c := 40) (x := 40) hF (by omega) rfl (by decide) (by decide)).seq (st_aNumber (E := E) (d := d - 1) (lo := 0) (hi := 9) (x := 0) (y := 9) hF (by omega) rfl rfl (by decide) (by decide))).seq (st_need (E := E) (d := d - 1) (c := 44) (x := 44) hF (by omega) rfl (by decide) (by decide))).seq (st_anInt (E := E) (d := d - 1) (hi := 9999) (y := 9999) hF (by omega) rfl (by decide))).seq (st_need (E := E) (d := d - 1) (c := 44) (x := 44) hF (by omega) rfl (by decide) (by decide))).seq (st_aNumber (E := E) (d := d - 1) (lo := 0) (hi := 9) (x := 0) (y := 9) hF (by omega) rfl rfl (by decide) (by decide))).seq (st_need (E := E) (d := d - 1) (c := 41) (x := 41) hF (by omega) rfl (by decide) (by decide))
  refine (s.by_ (fun V K h => ?_)).ex (fun i => ?_)
  · refine w_X12_item_0 (by omega) (vMV.mono h (fun V1 h1 => ⟨fun _ => ⟨fun q => absurd rfl q, fun _ => vMI.mono h1 (fun r V2 h2 => vMV.mono h2 (fun V3 h3 => vMI.mono h3 (fun r4 V4 h4 => vMV.mono h4 (fun V5 h5 => vMI.mono h5 (fun r6 V6 h6 => w_X12_item_146 (by omega) h6)))))⟩, fun q => absurd q (by decide)⟩))
  · unfold itm
    rw [grp_I, thn_assoc]
    simp only [thn_assoc]
    congr 1
    funext a
    rw [show shS 0 = 3 from rfl, ent_3]
    congr 1
    funext b
    rw [grp_I]
    simp only [thn_assoc]
    rw [if_neg (show ¬ 0 + 1 = 0 by decide)]
    congr 1
    funext c
    rw [show shS (0 + 1) = 1 from rfl, ent_1]
    congr 1
    funext e
    rw [grp_I]
    simp only [thn_assoc]
    rw [if_neg (show ¬ 0 + 1 + 1 = 0 by decide)]
    congr 1
theorem st_item_busy {x2 : Int32} (hF : eFr E) (h0 : 12 < d) : StQ p t n tc nm o (fun V K => vMV E d M_X12_item [sl 6 0, wi 311, wi x2] V K) (itm (tkT t n) (lku tc nm) shB 3) := by
  have s := ((((((st_need (E := E) (d := d - 1) (p := p) (t := t) (n := n) (tc := tc) (nm := nm) (o := o) (c := 40) (x := 40) hF (by omega) rfl (by decide) (by decide)).seq (st_aVar (E := E) (d := d - 1) hF (by omega))).seq (st_need (E := E) (d := d - 1) (c := 44) (x := 44) hF (by omega) rfl (by decide) (by decide))).seq (st_aNumber (E := E) (d := d - 1) (lo := 0) (hi := 9999) (x := 0) (y := 9999) hF (by omega) rfl rfl (by decide) (by decide))).seq (st_need (E := E) (d := d - 1) (c := 44) (x := 44) hF (by omega) rfl (by decide) (by decide))).seq (st_aNumber (E := E) (d := d - 1) (lo := 0) (hi := 9999) (x := 0) (y := 9999) hF (by omega) rfl rfl (by decide) (by decide))).seq (st_need (E := E) (d := d - 1) (c := 41) (x := 41) hF (by omega) rfl (by decide) (by decide))
  refine (s.by_ (fun V K h => ?_)).ex (fun i => ?_)
  · refine w_X12_item_0 (by omega) (vMV.mono h (fun V1 h1 => ⟨fun _ => ⟨fun _ => vMV.mono h1 (fun V2 h2 => vMV.mono h2 (fun V3 h3 => ⟨fun _ => w_X12_item_122 (by omega) (vMI.mono h3 (fun r4 V4 h4 => vMV.mono h4 (fun V5 h5 => vMI.mono h5 (fun r6 V6 h6 => w_X12_item_146 (by omega) h6)))), fun q => absurd q (by decide)⟩)), fun q => absurd q (by decide)⟩, fun q => absurd q (by decide)⟩))
  · unfold itm
    rw [grp_I, thn_assoc]
    simp only [thn_assoc]
    congr 1
    funext a
    rw [show shB 0 = 0 from rfl, ent_v]
    congr 1
    funext b
    rw [grp_I]
    simp only [thn_assoc]
    rw [if_neg (show ¬ 0 + 1 = 0 by decide)]
    congr 1
    funext c
    rw [show shB (0 + 1) = 2 from rfl, ent_2]
    congr 1
    funext e
    rw [grp_I]
    simp only [thn_assoc]
    rw [if_neg (show ¬ 0 + 1 + 1 = 0 by decide)]
    congr 1
theorem st_item_apart {x2 : Int32} (hF : eFr E) (h0 : 12 < d) : StQ p t n tc nm o (fun V K => vMV E d M_X12_item [sl 6 0, wi 312, wi x2] V K) (itm (tkT t n) (lku tc nm) shA 4) := by
  have s := ((((((((st_need (E := E) (d := d - 1) (p := p) (t := t) (n := n) (tc := tc) (nm := nm) (o := o) (c := 40) (x := 40) hF (by omega) rfl (by decide) (by decide)).seq (st_aVar (E := E) (d := d - 1) hF (by omega))).seq (st_need (E := E) (d := d - 1) (c := 44) (x := 44) hF (by omega) rfl (by decide) (by decide))).seq (st_aVar (E := E) (d := d - 1) hF (by omega))).seq (st_need (E := E) (d := d - 1) (c := 44) (x := 44) hF (by omega) rfl (by decide) (by decide))).seq (st_aNumber (E := E) (d := d - 1) (lo := 0) (hi := 9999) (x := 0) (y := 9999) hF (by omega) rfl rfl (by decide) (by decide))).seq (st_need (E := E) (d := d - 1) (c := 44) (x := 44) hF (by omega) rfl (by decide) (by decide))).seq (st_aNumber (E := E) (d := d - 1) (lo := 0) (hi := 9999) (x := 0) (y := 9999) hF (by omega) rfl rfl (by decide) (by decide))).seq (st_need (E := E) (d := d - 1) (c := 41) (x := 41) hF (by omega) rfl (by decide) (by decide))
  refine (s.by_ (fun V K h => ?_)).ex (fun i => ?_)
  · refine w_X12_item_0 (by omega) (vMV.mono h (fun V1 h1 => ⟨fun _ => ⟨fun _ => vMV.mono h1 (fun V2 h2 => vMV.mono h2 (fun V3 h3 => ⟨fun q => absurd rfl q, fun _ => vMV.mono h3 (fun V7 h7 => vMV.mono h7 (fun V9 h9 => w_X12_item_122 (by omega) (vMI.mono h9 (fun r4 V4 h4 => vMV.mono h4 (fun V5 h5 => vMI.mono h5 (fun r6 V6 h6 => w_X12_item_146 (by omega) h6))))))⟩)), fun q => absurd q (by decide)⟩, fun q => absurd q (by decide)⟩))
  · unfold itm
    rw [grp_I, thn_assoc]
    simp only [thn_assoc]
    congr 1
    funext a
    rw [show shA 0 = 0 from rfl, ent_v]
    congr 1
    funext b
    rw [grp_I]
    simp only [thn_assoc]
    rw [if_neg (show ¬ 0 + 1 = 0 by decide)]
    congr 1
    funext c
    rw [show shA (0 + 1) = 0 from rfl, ent_v]
    congr 1
    funext e
    rw [grp_I]
    simp only [thn_assoc]
    rw [if_neg (show ¬ 0 + 1 + 1 = 0 by decide)]
    congr 1
    funext f
    rw [show shA (0 + 1 + 1) = 2 from rfl, ent_2]
    congr 1
    funext g
    rw [grp_I]
    simp only [thn_assoc]
    rw [if_neg (show ¬ 0 + 1 + 1 + 1 = 0 by decide)]
    congr 1
theorem st_item_row {m : Nat} (hF : eFr E) (h0 : 12 < d) (hm : 1 ≤ m) (hm2 : m ≤ 12) : StQ p t n tc nm o (fun V K => vMV E d M_X12_item [sl 6 0, wi 307, wi (nI m)] V K) (itm (tkT t n) (lku tc nm) shR m) := by
  have go : ∀ (q k : Nat), k + 1 + q = m → StQ p t n tc nm o (fun V K => vwp E d M_X12_item 15 [some (sl 6 0), some (wi 307), some (wi (nI m)), some (wi (nI (k + 1))), none] [] V (zv K)) (fun i => thn (nrI (grp (tkT t n) (lku tc nm) shR q (k + 1) i)) (nee (tkT t n) 41)) := by
    intro q
    induction q with
    | zero =>
      intro k e
      refine ((st_need (E := E) (d := d - 1) (c := 41) (x := 41) hF (by omega) rfl (by decide) (by decide)).by_ (fun V K h => ?_)).ex (fun i => rfl)
      exact w_X12_item_15 (by omega) ⟨fun _ => w_X12_item_146 (by omega) h, fun z => absurd (nI_le (by omega) (by omega)) z⟩
    | succ q ih =>
      intro k e
      refine ((((st_need (E := E) (d := d - 1) (c := 44) (x := 44) hF (by omega) rfl (by decide) (by decide)).seq (st_anInt (E := E) (d := d - 1) (hi := 9999) (y := 9999) hF (by omega) rfl (by decide))).seq (ih (k + 1) (by omega))).by_ (fun V K h => ?_)).ex (fun i => ?_)
      · refine w_X12_item_15 (by omega) ⟨fun z => absurd z (nI_ge (by omega) (by omega)), fun _ => ⟨fun z => absurd ((nI_leI (b := 0) (by omega) (by decide)).mp z) (by omega), fun _ => vMV.mono h (fun V1 h1 => w_X12_item_30 (by omega) (vMI.mono h1 (fun r V2 h2 => ?_)))⟩⟩
        rw [nI_1]; exact h2
      · rw [grp_I]
        simp only [thn_assoc]
        rw [if_neg (show ¬ k + 1 = 0 by omega)]
        rfl
  obtain ⟨m', rfl⟩ : ∃ m', m = m' + 1 := ⟨m - 1, by omega⟩
  refine ((((st_need (E := E) (d := d - 1) (c := 40) (x := 40) hF (by omega) rfl (by decide) (by decide)).seq (st_anInt (E := E) (d := d - 1) (hi := 9999) (y := 9999) hF (by omega) rfl (by decide))).seq (go m' 0 (by omega))).by_ (fun V K h => ?_)).ex (fun i => ?_)
  · refine w_X12_item_0 (by omega) (vMV.mono h (fun V1 h1 => ⟨fun q => absurd rfl q, fun _ => w_X12_item_15 (by omega) ⟨fun z => absurd ((nI_leI (b := 0) (by omega) (by decide)).mp z) (by omega), fun _ => ⟨fun _ => w_X12_item_30 (by omega) (vMI.mono h1 (fun r V2 h2 => h2)), fun z => absurd (show (0 : Int32) ≤ 0 by decide) z⟩⟩⟩))
  · unfold itm
    rw [grp_I]
    simp only [thn_assoc]
    rfl
/-- groups, one by one -/
theorem grs_I {T : Nat → TK} {M : MN} {sh : Nat → Nat} {wide m i : Nat} : nrI (grs T M sh wide (m + 1) i) = thn (itm T M sh wide i) (fun a => if m = 0 ∨ (T a).1 ≠ 44 then .inr a else nrI (grs T M sh wide m (a + 1))) := by
  rw [grs]
  unfold itm
  rw [thn_assoc]
  refine nrI_b _ _ _ (fun i1 xs _ => ?_)
  unfold nee
  by_cases c : (T i1).1 = 41
  · rw [if_pos c, if_pos c]
    show _ = (if m = 0 ∨ (T (i1 + 1)).1 ≠ 44 then _ else _)
    by_cases c2 : m = 0 ∨ (T (i1 + 1)).1 ≠ 44
    · rw [if_pos c2, if_pos c2]; rfl
    · rw [if_neg c2, if_neg c2, nrI_b _ _ .inr (fun i2 q _ => rfl)]
      exact (nrI_id _).symm
  · rw [if_neg c, if_neg c]; rfl
theorem st_items {w m wide : Nat} {sh : Nat → Nat} (hF : eFr E) (h0 : 14 < d) (hi : ∀ d', 12 < d' → StQ p t n tc nm o (fun V K => vMV E d' M_X12_item [sl 6 0, wi (nI w), wi (nI m)] V K) (itm (tkT t n) (lku tc nm) sh wide)) : StQ p t n tc nm o (fun V K => vMV E d M_X12_items [sl 6 0, wi (nI w), wi (nI m)] V K) (fun i => nrI (grs (tkT t n) (lku tc nm) sh wide 40 i)) := by
  have go : ∀ (q k : Nat), k + q = 39 → StQ p t n tc nm o (fun V K => vwp E d M_X12_items 8 [some (sl 6 0), some (wi (nI w)), some (wi (nI m)), some (wi (nI (k + 1)))] [] V (zv K)) (fun a => if q = 0 ∨ (tkT t n a).1 ≠ 44 then .inr a else nrI (grs (tkT t n) (lku tc nm) sh wide q (a + 1))) := by
    intro q
    induction q with
    | zero =>
      intro k e
      refine ⟨fun V i K hM hk => ?_, fun V K hD hk => w_X12_items_8 (by omega) ⟨fun _ => hk, fun z => absurd z hD⟩⟩
      dsimp only at hk
      rw [if_pos (Or.inl rfl)] at hk
      exact w_X12_items_8 (by omega) ⟨fun _ => hk V hM.id, fun _ => ⟨fun _ => hk V hM.id, fun _ => ⟨fun _ => hk V hM.id, fun z => absurd (nI_le (a := 40) (by omega) (by omega)) z⟩⟩⟩
    | succ q ih =>
      intro k e
      refine ⟨fun V i K hM hk => ?_, fun V K hD hk => w_X12_items_8 (by omega) ⟨fun _ => hk, fun z => absurd z hD⟩⟩
      dsimp only at hk
      have e44 := hM.is 44 (by decide)
      refine w_X12_items_8 (by omega) ⟨fun z => absurd hM.2.1 z, fun _ => ⟨fun z => ?_, fun z => ⟨fun z2 => absurd z2 (nI_ge (b := 40) (by omega) (by decide)), fun _ => ?_⟩⟩⟩
      · rw [if_pos (Or.inr (fun y => z (e44.mpr y)))] at hk
        exact hk V hM.id
      · have c := e44.mp z
        rw [if_neg (fun y => by rcases y with y | y; omega; exact y c)] at hk
        refine ms_keep hF (by omega) hM (by omega) (by omega) (nuq_0 (by omega) (by omega)) (fun V1 m1 => ?_)
        have s := (hi (d - 1) (by omega)).seq (ih (k + 1) (by omega))
        have z2 := s.1 V1 (i + 1) K m1.2.1 (fun V2 m2 => hk V2 (m1.tr (by rw [grs_I]; exact m2)))
        refine vMV.mono z2 (fun V3 h3 => ?_)
        rw [nI_1]; exact h3
  have s := (hi (d - 1) (by omega)).seq (go 39 0 (by omega))
  refine (s.by_ (fun V K h => w_X12_items_0 (by omega) h)).ex (fun i => ?_)
  rw [grs_I]
theorem nls_I {T : Nat → TK} {sg : Bool} {top m i : Nat} : nrI (nls T sg top (m + 1) i) = thn (nrI (nmr T sg 0 top i)) (fun a => if m = 0 ∨ (T a).1 ≠ 44 then .inr a else nrI (nls T sg top m (a + 1))) := by
  rw [nls]
  refine nrI_b _ _ _ (fun i1 x _ => ?_)
  by_cases c2 : m = 0 ∨ (T i1).1 ≠ 44
  · rw [if_pos c2, if_pos c2]; rfl
  · rw [if_neg c2, if_neg c2, nrI_b _ _ .inr (fun i2 q _ => rfl)]
    exact (nrI_id _).symm
theorem st_states (hF : eFr E) (h0 : 11 < d) : StQ p t n tc nm o (fun V K => vMV E d M_X12_states [sl 6 0] V K) (fun i => nrI (nls (tkT t n) false 9 10 i)) := by
  have num : ∀ d', 8 < d' → StQ p t n tc nm o (fun V K => vMI E d' M_X12_aNumber [sl 6 0, wi 0, wi 9] V (fun _ V1 => K V1)) (fun i => nrI (nmr (tkT t n) false 0 9 i)) := fun d' h => st_aNumber hF h rfl rfl (by decide) (by decide)
  have go : ∀ (q k : Nat) , k + q = 9 → StQ p t n tc nm o (fun V K => ∀ x1 : Int32, vwp E d M_X12_states 10 [some (sl 6 0), some (wi x1), some (wi (nI (k + 1)))] [] V (zv K)) (fun a => if q = 0 ∨ (tkT t n a).1 ≠ 44 then .inr a else nrI (nls (tkT t n) false 9 q (a + 1))) := by
    intro q
    induction q with
    | zero =>
      intro k e
      refine ⟨fun V i K hM hk x1 => ?_, fun V K hD hk x1 => w_X12_states_10 (by omega) ⟨fun _ => hk, fun z => absurd z hD⟩⟩
      dsimp only at hk
      rw [if_pos (Or.inl rfl)] at hk
      exact w_X12_states_10 (by omega) ⟨fun _ => hk V hM.id, fun _ => ⟨fun _ => hk V hM.id, fun _ => ⟨fun _ => hk V hM.id, fun z => absurd (nI_le (a := 10) (by omega) (by omega)) z⟩⟩⟩
    | succ q ih =>
      intro k e
      refine ⟨fun V i K hM hk x1 => ?_, fun V K hD hk x1 => w_X12_states_10 (by omega) ⟨fun _ => hk, fun z => absurd z hD⟩⟩
      dsimp only at hk
      have e44 := hM.is 44 (by decide)
      refine w_X12_states_10 (by omega) ⟨fun z => absurd hM.2.1 z, fun _ => ⟨fun z => ?_, fun z => ⟨fun z2 => absurd z2 (nI_ge (b := 10) (by omega) (by decide)), fun _ => ?_⟩⟩⟩
      · rw [if_pos (Or.inr (fun y => z (e44.mpr y)))] at hk
        exact hk V hM.id
      · have c := e44.mp z
        rw [if_neg (fun y => by rcases y with y | y; omega; exact y c)] at hk
        refine ms_keep hF (by omega) hM (by omega) (by omega) (nuq_0 (by omega) (by omega)) (fun V1 m1 => ?_)
        have s := (num (d - 1) (by omega)).seq (ih (k + 1) (by omega))
        have z2 := s.1 V1 (i + 1) K m1.2.1 (fun V2 m2 => hk V2 (m1.tr (by rw [nls_I]; exact m2)))
        refine vMI.mono z2 (fun r V3 h3 => ?_)
        rw [nI_1]; exact h3 r
  have s := (num (d - 1) (by omega)).seq (go 9 0 (by omega))
  refine (s.by_ (fun V K h => w_X12_states_0 (by omega) (vMI.mono h (fun r V1 h1 => h1 r)))).ex (fun i => ?_)
  rw [nls_I]
end
