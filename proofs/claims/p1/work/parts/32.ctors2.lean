/-! constructors that make objects (by program) -/
/-- as CF, but the new cells hold what the tables say -/
def CG (G0 : AH) (x : Nat) (G : AH) (n u : Nat) (kd ln : Nat → Nat) (cI : Nat → Nat → Int32) (cJ : Nat → Nat → Int64) (cR : Nat → Nat → Nat) (tI : Nat → Int32) (tJ : Nat → Int64) (tR : Nat → Nat) : Prop :=
  gT G = gT G0 + n ∧ gU G = gU G0 + u ∧ (∀ a, a < gT G0 → gK G a = gK G0 a ∧ gN G a = gN G0 a) ∧ (∀ a, a < gT G0 → a ≠ x → gI G a = gI G0 a ∧ gJ G a = gJ G0 a ∧ gR G a = gR G0 a) ∧
  gI G x = tI ∧ gJ G x = tJ ∧ gR G x = tR ∧ ∀ i, i < n → gK G (gT G0 + i) = kd i ∧ gN G (gT G0 + i) = ln i ∧ gI G (gT G0 + i) = cI i ∧ gJ G (gT G0 + i) = cJ i ∧ gR G (gT G0 + i) = cR i
/-- a table, and behind its first n entries one more, and another table -/
def tcat {α : Type} (n : Nat) (f : Nat → α) (v : α) (g : Nat → α) : Nat → α := fun i => if i < n then f i else if i = n then v else g (i - n - 1)
section
variable {G0 G G1 G2 : AH} {x n u : Nat} {kd ln : Nat → Nat} {cI : Nat → Nat → Int32} {cJ : Nat → Nat → Int64} {cR : Nat → Nat → Nat} {tI : Nat → Int32} {tJ : Nat → Int64} {tR : Nat → Nat}
theorem CG_of (f : CF G0 x G n u kd ln tI tJ tR) : CG G0 x G n u kd ln (fun _ _ => 0) (fun _ _ => 0) (fun _ _ => 0) tI tJ tR := f
theorem CG_start (G : AH) (x : Nat) : CG G x G 0 0 (fun _ => 0) (fun _ => 0) (fun _ _ => 0) (fun _ _ => 0) (fun _ _ => 0) (gI G x) (gJ G x) (gR G x) := CG_of (CF_start G x)
theorem CG_sI {k : Nat} {v : Int32} (hx : x < gT G0) (f : CG G0 x G n u kd ln cI cJ cR tI tJ tR) (e : G1 = sI G x k v) : CG G0 x G1 n u kd ln cI cJ cR (u1 tI k v) tJ tR := by
  subst e
  obtain ⟨f1, f2, f3, f4, f5, f6, f7, f8⟩ := f
  refine ⟨f1, f2, f3, fun a h1 h2 => ?_, ?_, f6, f7, fun i hi => ?_⟩
  · have e : gI (sI G x k v) a = gI G a := u2_ne h2
    exact ⟨e.trans (f4 a h1 h2).1, (f4 a h1 h2).2⟩
  · rw [← f5]; exact u2_row (gI G) x k v
  · have e : gI (sI G x k v) (gT G0 + i) = gI G (gT G0 + i) := u2_ne (by omega)
    exact ⟨(f8 i hi).1, (f8 i hi).2.1, e.trans (f8 i hi).2.2.1, (f8 i hi).2.2.2⟩
theorem CG_sJ {k : Nat} {v : Int64} (hx : x < gT G0) (f : CG G0 x G n u kd ln cI cJ cR tI tJ tR) (e : G1 = sJ G x k v) : CG G0 x G1 n u kd ln cI cJ cR tI (u1 tJ k v) tR := by
  subst e
  obtain ⟨f1, f2, f3, f4, f5, f6, f7, f8⟩ := f
  refine ⟨f1, f2, f3, fun a h1 h2 => ?_, f5, ?_, f7, fun i hi => ?_⟩
  · have e : gJ (sJ G x k v) a = gJ G a := u2_ne h2
    exact ⟨(f4 a h1 h2).1, e.trans (f4 a h1 h2).2.1, (f4 a h1 h2).2.2⟩
  · rw [← f6]; exact u2_row (gJ G) x k v
  · have e : gJ (sJ G x k v) (gT G0 + i) = gJ G (gT G0 + i) := u2_ne (by omega)
    exact ⟨(f8 i hi).1, (f8 i hi).2.1, (f8 i hi).2.2.1, e.trans (f8 i hi).2.2.2.1, (f8 i hi).2.2.2.2⟩
theorem CG_sR {k : Nat} {v : Nat} (hx : x < gT G0) (f : CG G0 x G n u kd ln cI cJ cR tI tJ tR) (e : G1 = sR G x k v) : CG G0 x G1 n u kd ln cI cJ cR tI tJ (u1 tR k v) := by
  subst e
  obtain ⟨f1, f2, f3, f4, f5, f6, f7, f8⟩ := f
  refine ⟨f1, f2, f3, fun a h1 h2 => ?_, f5, f6, ?_, fun i hi => ?_⟩
  · have e : gR (sR G x k v) a = gR G a := u2_ne h2
    exact ⟨(f4 a h1 h2).1, (f4 a h1 h2).2.1, e.trans (f4 a h1 h2).2.2⟩
  · rw [← f7]; exact u2_row (gR G) x k v
  · have e : gR (sR G x k v) (gT G0 + i) = gR G (gT G0 + i) := u2_ne (by omega)
    exact ⟨(f8 i hi).1, (f8 i hi).2.1, (f8 i hi).2.2.1, (f8 i hi).2.2.2.1, e.trans (f8 i hi).2.2.2.2⟩
theorem nw_ne {k m w a : Nat} (h : a ≠ gT G) : gK (nw G k m w) a = gK G a ∧ gN (nw G k m w) a = gN G a ∧ gI (nw G k m w) a = gI G a ∧ gJ (nw G k m w) a = gJ G a ∧ gR (nw G k m w) a = gR G a := ⟨if_neg h, if_neg h, if_neg h, if_neg h, if_neg h⟩
theorem CG_nw {k m w : Nat} (hx : x < gT G0) (f : CG G0 x G n u kd ln cI cJ cR tI tJ tR) (e : G1 = nw G k m w) : CG G0 x G1 (n + 1) (u + w) (tcat n kd k (fun _ => 0)) (tcat n ln m (fun _ => 0)) (tcat n cI (fun _ => 0) (fun _ _ => 0)) (tcat n cJ (fun _ => 0) (fun _ _ => 0)) (tcat n cR (fun _ => 0) (fun _ _ => 0)) tI tJ tR := by
  subst e
  obtain ⟨f1, f2, f3, f4, f5, f6, f7, f8⟩ := f
  refine ⟨?_, ?_, fun a h => ?_, fun a h1 h2 => ?_, ?_, ?_, ?_, fun i hi => ?_⟩
  · show gT G + 1 = _; omega
  · show gU G + w = _; omega
  · have q := nw_ne (G := G) (k := k) (m := m) (w := w) (a := a) (by omega); rw [q.1, q.2.1]; exact f3 a h
  · have q := nw_ne (G := G) (k := k) (m := m) (w := w) (a := a) (by omega); rw [q.2.2.1, q.2.2.2.1, q.2.2.2.2]; exact f4 a h1 h2
  · have q := nw_ne (G := G) (k := k) (m := m) (w := w) (a := x) (by omega); rw [q.2.2.1]; exact f5
  · have q := nw_ne (G := G) (k := k) (m := m) (w := w) (a := x) (by omega); rw [q.2.2.2.1]; exact f6
  · have q := nw_ne (G := G) (k := k) (m := m) (w := w) (a := x) (by omega); rw [q.2.2.2.2]; exact f7
  · have tn : ∀ {α : Type} (f : Nat → α) (v : α) (g : Nat → α), i = n → tcat n f v g i = v := fun f v g h => by subst h; unfold tcat; rw [if_neg (Nat.lt_irrefl _), if_pos rfl]
    have tl : ∀ {α : Type} (f : Nat → α) (v : α) (g : Nat → α), i < n → tcat n f v g i = f i := fun f v g h => by unfold tcat; rw [if_pos h]
    by_cases h : i = n
    · rw [tn _ _ _ h, tn _ _ _ h, tn _ _ _ h, tn _ _ _ h, tn _ _ _ h]
      subst h
      rw [show gT G0 + i = gT G from f1.symm]
      exact ⟨if_pos rfl, if_pos rfl, if_pos rfl, if_pos rfl, if_pos rfl⟩
    · have hlt : i < n := by omega
      have q := nw_ne (G := G) (k := k) (m := m) (w := w) (a := gT G0 + i) (by omega)
      rw [tl _ _ _ hlt, tl _ _ _ hlt, tl _ _ _ hlt, tl _ _ _ hlt, tl _ _ _ hlt, q.1, q.2.1, q.2.2.1, q.2.2.2.1, q.2.2.2.2]
      exact f8 i hlt
/-- a new object, and its constructor's call -/
theorem CG_call {c w n' u' : Nat} {kd' ln' : Nat → Nat} {cI' : Nat → Nat → Int32} {cJ' : Nat → Nat → Int64} {cR' : Nat → Nat → Nat} {tI' : Nat → Int32} {tJ' : Nat → Int64} {tR' : Nat → Nat} (hx : x < gT G0) (f : CG G0 x G n u kd ln cI cJ cR tI tJ tR) (e : G1 = nw G c 0 w) (g : CG G1 (gT G) G2 n' u' kd' ln' cI' cJ' cR' tI' tJ' tR') :
    CG G0 x G2 (n + 1 + n') (u + w + u') (tcat n kd c kd') (tcat n ln 0 ln') (tcat n cI tI' cI') (tcat n cJ tJ' cJ') (tcat n cR tR' cR') tI tJ tR := by
  subst e
  obtain ⟨f1, f2, f3, f4, f5, f6, f7, f8⟩ := f
  obtain ⟨g1, g2, g3, g4, g5, g6, g7, g8⟩ := g
  have eT : gT (nw G c 0 w) = gT G + 1 := rfl
  have eU : gU (nw G c 0 w) = gU G + w := rfl
  have sm : ∀ a, a < gT G → gK G2 a = gK G a ∧ gN G2 a = gN G a ∧ gI G2 a = gI G a ∧ gJ G2 a = gJ G a ∧ gR G2 a = gR G a := by
    intro a h
    have q := nw_ne (G := G) (k := c) (m := 0) (w := w) (a := a) (by omega)
    have q3 := g3 a (by omega)
    have q4 := g4 a (by omega) (by omega)
    exact ⟨q3.1.trans q.1, q3.2.trans q.2.1, q4.1.trans q.2.2.1, q4.2.1.trans q.2.2.2.1, q4.2.2.trans q.2.2.2.2⟩
  refine ⟨by omega, by omega, fun a h => ?_, fun a h1 h2 => ?_, ?_, ?_, ?_, fun i hi => ?_⟩
  · have q := sm a (by omega); rw [q.1, q.2.1]; exact f3 a h
  · have q := sm a (by omega); rw [q.2.2.1, q.2.2.2.1, q.2.2.2.2]; exact f4 a h1 h2
  · rw [(sm x (by omega)).2.2.1]; exact f5
  · rw [(sm x (by omega)).2.2.2.1]; exact f6
  · rw [(sm x (by omega)).2.2.2.2]; exact f7
  · have tn : ∀ {α : Type} (f : Nat → α) (v : α) (g : Nat → α), i = n → tcat n f v g i = v := fun f v g h => by subst h; unfold tcat; rw [if_neg (Nat.lt_irrefl _), if_pos rfl]
    have tl : ∀ {α : Type} (f : Nat → α) (v : α) (g : Nat → α), i < n → tcat n f v g i = f i := fun f v g h => by unfold tcat; rw [if_pos h]
    have tg : ∀ {α : Type} (f : Nat → α) (v : α) (g : Nat → α), n < i → tcat n f v g i = g (i - n - 1) := fun f v g h => by unfold tcat; rw [if_neg (by omega), if_neg (by omega)]
    rcases Nat.lt_trichotomy i n with h | h | h
    · have q := sm (gT G0 + i) (by omega)
      rw [tl _ _ _ h, tl _ _ _ h, tl _ _ _ h, tl _ _ _ h, tl _ _ _ h, q.1, q.2.1, q.2.2.1, q.2.2.2.1, q.2.2.2.2]
      exact f8 i h
    · rw [tn _ _ _ h, tn _ _ _ h, tn _ _ _ h, tn _ _ _ h, tn _ _ _ h]
      have ea : gT G0 + i = gT G := by omega
      rw [ea]
      have q3 := g3 (gT G) (by omega)
      refine ⟨q3.1.trans (if_pos rfl), q3.2.trans (if_pos rfl), g5, g6, g7⟩
    · rw [tg _ _ _ h, tg _ _ _ h, tg _ _ _ h, tg _ _ _ h, tg _ _ _ h]
      have ea : gT G0 + i = gT (nw G c 0 w) + (i - n - 1) := by omega
      rw [ea]
      exact g8 (i - n - 1) (by omega)
end
def cs_X8_init (T : Nat) (u : Nat) (kd ln : Nat → Nat) (cI : Nat → Nat → Int32) (cJ : Nat → Nat → Int64) (cR : Nat → Nat → Nat) (tI : Nat → Int32) (tJ : Nat → Int64) (tR : Nat → Nat) : Prop := u = 458 ∧ tI 1 = 0 ∧ tI 4 = (-1) ∧ tR 0 = T + 0 ∧ tR 2 = T + 2 ∧ tR 3 = T + 3 ∧ kd 0 = 0 ∧ ln 0 = 0 ∧ cI 0 1 = 0 ∧ cR 0 0 = T + 1 ∧ kd 1 = 13 ∧ ln 1 = 256 ∧ cI 1 = (fun _ => 0) ∧ cJ 1 = (fun _ => 0) ∧ cR 1 = (fun _ => 0) ∧ kd 2 = 14 ∧ ln 2 = 100 ∧ cI 2 = (fun _ => 0) ∧ cJ 2 = (fun _ => 0) ∧ cR 2 = (fun _ => 0) ∧ kd 3 = 14 ∧ ln 3 = 100 ∧ cI 3 = (fun _ => 0) ∧ cJ 3 = (fun _ => 0) ∧ cR 3 = (fun _ => 0)
theorem c_X8_init {E : EE} {d : Nat} {x0 : Nat} {G : AH} (h0 : 1 < d) (hx0 : isO E G x0 8) (hb : eB E ≤ gT G) : wpV E d M_X8_init [vr x0] G (fun G' => ∃ (u : Nat) (kd ln : Nat → Nat) (cI : Nat → Nat → Int32) (cJ : Nat → Nat → Int64) (cR : Nat → Nat → Nat) (tI : Nat → Int32) (tJ : Nat → Int64) (tR : Nat → Nat), CG G x0 G' 4 u kd ln cI cJ cR tI tJ tR ∧ cs_X8_init (gT G) u kd ln cI cJ cR tI tJ tR) := by
  refine wpM_of mk_X8_init (Nat.le_of_ble_eq_true rfl) ?_
  refine v_X8_init_0 (by omega) ?_
  have hx := hx0.2.1
  have f := CG_start G x0
  refine ⟨hx0, ?_⟩
  refine ⟨hb, ?_⟩
  intro G6 eG6
  refine wpV.mono (c_X0_init (by omega) (isO_newE eG6 (by exact hb)) (base_nwE eG6 (by exact hb))) (fun G10 qG10 => ?_)
  rw [show gT G6 = _ from (CG_nw hx f eG6).1] at qG10
  have f := CG_call hx f eG6 (CG_of qG10)
  have hG10 := f.1
  refine ⟨⟨hx0.1, by rw [hG10]; omega, ((f.2.2.1 x0 hx).1).trans hx0.2.2⟩, ?_⟩
  intro G12 eG12
  have f := CG_sR hx f eG12
  have hG12 := f.1
  intro G14 eG14
  have f := CG_sI hx f eG14
  have hG14 := f.1
  refine ⟨by rw [hG14]; omega, ?_⟩
  intro G20 eG20
  have f := CG_nw hx f eG20
  have hG20 := f.1
  intro G24 eG24
  have f := CG_sR hx f eG24
  rw [hG14] at f
  have hG24 := f.1
  intro G30 eG30
  have f := CG_nw hx f eG30
  have hG30 := f.1
  intro G34 eG34
  have f := CG_sR hx f eG34
  rw [hG24] at f
  have hG34 := f.1
  intro G37 eG37
  have f := CG_sI hx f eG37
  have hG37 := f.1
  exact ⟨rfl, _, _, _, _, _, _, _, _, _, f, rfl, rfl, rfl, rfl, rfl, rfl, rfl, rfl, rfl, rfl, rfl, rfl, rfl, rfl, rfl, rfl, rfl, rfl, rfl, rfl, rfl, rfl, rfl, rfl, rfl⟩
def cs_X3_init (T : Nat) (u : Nat) (kd ln : Nat → Nat) (cI : Nat → Nat → Int32) (cJ : Nat → Nat → Int64) (cR : Nat → Nat → Nat) (tI : Nat → Int32) (tJ : Nat → Int64) (tR : Nat → Nat) : Prop := u = 1345 ∧ tI 0 = 0 ∧ tI 8 = 0 ∧ tI 9 = 0 ∧ tI 11 = 0 ∧ tR 1 = T + 0 ∧ tR 2 = T + 2 ∧ tR 3 = T + 3 ∧ tR 4 = T + 4 ∧ tR 5 = T + 8 ∧ tR 6 = T + 18 ∧ tR 7 = T + 22 ∧ tR 10 = T + 23 ∧ tR 12 = T + 24 ∧ tR 13 = T + 25 ∧ tR 14 = T + 26 ∧ tR 15 = T + 27 ∧ tR 16 = T + 28 ∧ tR 17 = T + 29 ∧ tR 18 = T + 30 ∧ kd 0 = 0 ∧ ln 0 = 0 ∧ cI 0 1 = 0 ∧ cR 0 0 = T + 1 ∧ kd 1 = 13 ∧ ln 1 = 256 ∧ cI 1 = (fun _ => 0) ∧ cJ 1 = (fun _ => 0) ∧ cR 1 = (fun _ => 0) ∧ kd 2 = 15 ∧ ln 2 = 96 ∧ cI 2 = (fun _ => 0) ∧ cJ 2 = (fun _ => 0) ∧ cR 2 = (fun _ => 0) ∧ kd 3 = 14 ∧ ln 3 = 4 ∧ cI 3 = (fun _ => 0) ∧ cJ 3 = (fun _ => 0) ∧ cR 3 = (fun _ => 0) ∧ kd 4 = 7 ∧ ln 4 = 0 ∧ cI 4 0 = 0 ∧ cI 4 1 = 1 ∧ cR 4 2 = T + 5 ∧ cR 4 3 = T + 6 ∧ cR 4 4 = T + 7 ∧ kd 5 = 14 ∧ ln 5 = 12 ∧ cI 5 = (fun _ => 0) ∧ cJ 5 = (fun _ => 0) ∧ cR 5 = (fun _ => 0) ∧ kd 6 = 14 ∧ ln 6 = 240 ∧ cI 6 = (fun _ => 0) ∧ cJ 6 = (fun _ => 0) ∧ cR 6 = (fun _ => 0) ∧ kd 7 = 14 ∧ ln 7 = 12 ∧ cI 7 = (fun _ => 0) ∧ cJ 7 = (fun _ => 0) ∧ cR 7 = (fun _ => 0) ∧ kd 8 = 2 ∧ ln 8 = 0 ∧ cI 8 0 = 0 ∧ cI 8 1 = 0 ∧ cI 8 2 = 0 ∧ cI 8 3 = 0 ∧ cI 8 10 = 0 ∧ cI 8 13 = 0 ∧ cR 8 4 = T + 9 ∧ cR 8 5 = T + 10 ∧ cR 8 6 = T + 11 ∧ cR 8 7 = T + 12 ∧ cR 8 8 = T + 13 ∧ cR 8 9 = T + 14 ∧ cR 8 11 = T + 15 ∧ cR 8 12 = T + 16 ∧ cR 8 14 = T + 17 ∧ kd 9 = 14 ∧ ln 9 = 30 ∧ cI 9 = (fun _ => 0) ∧ cJ 9 = (fun _ => 0) ∧ cR 9 = (fun _ => 0) ∧ kd 10 = 14 ∧ ln 10 = 24 ∧ cI 10 = (fun _ => 0) ∧ cJ 10 = (fun _ => 0) ∧ cR 10 = (fun _ => 0) ∧ kd 11 = 14 ∧ ln 11 = 24 ∧ cI 11 = (fun _ => 0) ∧ cJ 11 = (fun _ => 0) ∧ cR 11 = (fun _ => 0) ∧ kd 12 = 14 ∧ ln 12 = 30 ∧ cI 12 = (fun _ => 0) ∧ cJ 12 = (fun _ => 0) ∧ cR 12 = (fun _ => 0) ∧ kd 13 = 14 ∧ ln 13 = 30 ∧ cI 13 = (fun _ => 0) ∧ cJ 13 = (fun _ => 0) ∧ cR 13 = (fun _ => 0) ∧ kd 14 = 14 ∧ ln 14 = 128 ∧ cI 14 = (fun _ => 0) ∧ cJ 14 = (fun _ => 0) ∧ cR 14 = (fun _ => 0) ∧ kd 15 = 14 ∧ ln 15 = 128 ∧ cI 15 = (fun _ => 0) ∧ cJ 15 = (fun _ => 0) ∧ cR 15 = (fun _ => 0) ∧ kd 16 = 14 ∧ ln 16 = 128 ∧ cI 16 = (fun _ => 0) ∧ cJ 16 = (fun _ => 0) ∧ cR 16 = (fun _ => 0) ∧ kd 17 = 14 ∧ ln 17 = 12 ∧ cI 17 = (fun _ => 0) ∧ cJ 17 = (fun _ => 0) ∧ cR 17 = (fun _ => 0) ∧ kd 18 = 9 ∧ ln 18 = 0 ∧ cI 18 0 = 0 ∧ cI 18 1 = 0 ∧ cI 18 3 = 0 ∧ cI 18 4 = 0 ∧ cI 18 5 = 0 ∧ cR 18 2 = T + 19 ∧ cR 18 6 = T + 20 ∧ cR 18 7 = T + 21 ∧ kd 19 = 14 ∧ ln 19 = 0 ∧ cI 19 = (fun _ => 0) ∧ cJ 19 = (fun _ => 0) ∧ cR 19 = (fun _ => 0) ∧ kd 20 = 15 ∧ ln 20 = 0 ∧ cI 20 = (fun _ => 0) ∧ cJ 20 = (fun _ => 0) ∧ cR 20 = (fun _ => 0) ∧ kd 21 = 14 ∧ ln 21 = 0 ∧ cI 21 = (fun _ => 0) ∧ cJ 21 = (fun _ => 0) ∧ cR 21 = (fun _ => 0) ∧ kd 22 = 14 ∧ ln 22 = 16 ∧ cI 22 = (fun _ => 0) ∧ cJ 22 = (fun _ => 0) ∧ cR 22 = (fun _ => 0) ∧ kd 23 = 14 ∧ ln 23 = 12 ∧ cI 23 = (fun _ => 0) ∧ cJ 23 = (fun _ => 0) ∧ cR 23 = (fun _ => 0) ∧ kd 24 = 14 ∧ ln 24 = 6 ∧ cI 24 = (fun _ => 0) ∧ cJ 24 = (fun _ => 0) ∧ cR 24 = (fun _ => 0) ∧ kd 25 = 14 ∧ ln 25 = 96 ∧ cI 25 = (fun _ => 0) ∧ cJ 25 = (fun _ => 0) ∧ cR 25 = (fun _ => 0) ∧ kd 26 = 15 ∧ ln 26 = 3 ∧ cI 26 = (fun _ => 0) ∧ cJ 26 = (fun _ => 0) ∧ cR 26 = (fun _ => 0) ∧ kd 27 = 15 ∧ ln 27 = 3 ∧ cI 27 = (fun _ => 0) ∧ cJ 27 = (fun _ => 0) ∧ cR 27 = (fun _ => 0) ∧ kd 28 = 14 ∧ ln 28 = 6 ∧ cI 28 = (fun _ => 0) ∧ cJ 28 = (fun _ => 0) ∧ cR 28 = (fun _ => 0) ∧ kd 29 = 14 ∧ ln 29 = 16 ∧ cI 29 = (fun _ => 0) ∧ cJ 29 = (fun _ => 0) ∧ cR 29 = (fun _ => 0) ∧ kd 30 = 15 ∧ ln 30 = 3 ∧ cI 30 = (fun _ => 0) ∧ cJ 30 = (fun _ => 0) ∧ cR 30 = (fun _ => 0)
theorem c_X3_init {E : EE} {d : Nat} {x0 : Nat} {G : AH} (h0 : 1 < d) (hx0 : isO E G x0 3) (hb : eB E ≤ gT G) : wpV E d M_X3_init [vr x0] G (fun G' => ∃ (u : Nat) (kd ln : Nat → Nat) (cI : Nat → Nat → Int32) (cJ : Nat → Nat → Int64) (cR : Nat → Nat → Nat) (tI : Nat → Int32) (tJ : Nat → Int64) (tR : Nat → Nat), CG G x0 G' 31 u kd ln cI cJ cR tI tJ tR ∧ cs_X3_init (gT G) u kd ln cI cJ cR tI tJ tR) := by
  refine wpM_of mk_X3_init (Nat.le_of_ble_eq_true rfl) ?_
  refine v_X3_init_0 (by omega) ?_
  have hx := hx0.2.1
  have f := CG_start G x0
  refine ⟨hx0, ?_⟩
  intro G2 eG2
  have f := CG_sI hx f eG2
  have hG2 := f.1
  refine ⟨by rw [hG2]; omega, ?_⟩
  intro G8 eG8
  refine wpV.mono (c_X0_init (by omega) (isO_newE eG8 (by rw [hG2]; omega)) (base_nwE eG8 (by rw [hG2]; omega))) (fun G12 qG12 => ?_)
  rw [show gT G8 = _ from (CG_nw hx f eG8).1] at qG12
  have f := CG_call hx f eG8 (CG_of qG12)
  have hG12 := f.1
  refine ⟨⟨hx0.1, by rw [hG12]; omega, ((f.2.2.1 x0 hx).1).trans hx0.2.2⟩, ?_⟩
  intro G14 eG14
  have f := CG_sR hx f eG14
  rw [hG2] at f
  have hG14 := f.1
  refine ⟨by rw [hG14]; omega, ?_⟩
  intro G20 eG20
  have f := CG_nw hx f eG20
  have hG20 := f.1
  intro G24 eG24
  have f := CG_sR hx f eG24
  rw [hG14] at f
  have hG24 := f.1
  intro G30 eG30
  have f := CG_nw hx f eG30
  have hG30 := f.1
  intro G34 eG34
  have f := CG_sR hx f eG34
  rw [hG24] at f
  have hG34 := f.1
  intro G40 eG40
  refine wpV.mono (c_X7_init (by omega) (isO_newE eG40 (by rw [hG34]; omega)) (base_nwE eG40 (by rw [hG34]; omega))) (fun G44 qG44 => ?_)
  rw [show gT G40 = _ from (CG_nw hx f eG40).1] at qG44
  have f := CG_call hx f eG40 (CG_of qG44)
  have hG44 := f.1
  refine ⟨⟨hx0.1, by rw [hG44]; omega, ((f.2.2.1 x0 hx).1).trans hx0.2.2⟩, ?_⟩
  intro G46 eG46
  have f := CG_sR hx f eG46
  rw [hG34] at f
  have hG46 := f.1
  refine ⟨by rw [hG46]; omega, ?_⟩
  intro G52 eG52
  refine wpV.mono (c_X2_init (by omega) (isO_newE eG52 (by rw [hG46]; omega)) (base_nwE eG52 (by rw [hG46]; omega))) (fun G56 qG56 => ?_)
  rw [show gT G52 = _ from (CG_nw hx f eG52).1] at qG56
  have f := CG_call hx f eG52 (CG_of qG56)
  have hG56 := f.1
  refine ⟨⟨hx0.1, by rw [hG56]; omega, ((f.2.2.1 x0 hx).1).trans hx0.2.2⟩, ?_⟩
  intro G58 eG58
  have f := CG_sR hx f eG58
  rw [hG46] at f
  have hG58 := f.1
  refine ⟨by rw [hG58]; omega, ?_⟩
  intro G64 eG64
  refine wpV.mono (c_X9_init (by omega) (isO_newE eG64 (by rw [hG58]; omega)) (base_nwE eG64 (by rw [hG58]; omega))) (fun G68 qG68 => ?_)
  rw [show gT G64 = _ from (CG_nw hx f eG64).1] at qG68
  have f := CG_call hx f eG64 (CG_of qG68)
  have hG68 := f.1
  refine ⟨⟨hx0.1, by rw [hG68]; omega, ((f.2.2.1 x0 hx).1).trans hx0.2.2⟩, ?_⟩
  intro G70 eG70
  have f := CG_sR hx f eG70
  rw [hG58] at f
  have hG70 := f.1
  refine ⟨by rw [hG70]; omega, ?_⟩
  intro G76 eG76
  have f := CG_nw hx f eG76
  have hG76 := f.1
  intro G80 eG80
  have f := CG_sR hx f eG80
  rw [hG70] at f
  have hG80 := f.1
  intro G83 eG83
  have f := CG_sI hx f eG83
  have hG83 := f.1
  intro G86 eG86
  have f := CG_sI hx f eG86
  have hG86 := f.1
  intro G92 eG92
  have f := CG_nw hx f eG92
  have hG92 := f.1
  intro G96 eG96
  have f := CG_sR hx f eG96
  rw [hG86] at f
  have hG96 := f.1
  intro G99 eG99
  have f := CG_sI hx f eG99
  have hG99 := f.1
  intro G105 eG105
  have f := CG_nw hx f eG105
  have hG105 := f.1
  intro G109 eG109
  have f := CG_sR hx f eG109
  rw [hG99] at f
  have hG109 := f.1
  intro G115 eG115
  have f := CG_nw hx f eG115
  have hG115 := f.1
  intro G119 eG119
  have f := CG_sR hx f eG119
  rw [hG109] at f
  have hG119 := f.1
  intro G125 eG125
  have f := CG_nw hx f eG125
  have hG125 := f.1
  intro G129 eG129
  have f := CG_sR hx f eG129
  rw [hG119] at f
  have hG129 := f.1
  intro G135 eG135
  have f := CG_nw hx f eG135
  have hG135 := f.1
  intro G139 eG139
  have f := CG_sR hx f eG139
  rw [hG129] at f
  have hG139 := f.1
  intro G145 eG145
  have f := CG_nw hx f eG145
  have hG145 := f.1
  intro G149 eG149
  have f := CG_sR hx f eG149
  rw [hG139] at f
  have hG149 := f.1
  intro G155 eG155
  have f := CG_nw hx f eG155
  have hG155 := f.1
  intro G159 eG159
  have f := CG_sR hx f eG159
  rw [hG149] at f
  have hG159 := f.1
  intro G165 eG165
  have f := CG_nw hx f eG165
  have hG165 := f.1
  intro G169 eG169
  have f := CG_sR hx f eG169
  rw [hG159] at f
  have hG169 := f.1
  exact ⟨rfl, _, _, _, _, _, _, _, _, _, f, rfl, rfl, rfl, rfl, rfl, rfl, rfl, rfl, rfl, rfl, rfl, rfl, rfl, rfl, rfl, rfl, rfl, rfl, rfl, rfl, rfl, rfl, rfl, rfl, rfl, rfl, rfl, rfl, rfl, rfl, rfl, rfl, rfl, rfl, rfl, rfl, rfl, rfl, rfl, rfl, rfl, rfl, rfl, rfl, rfl, rfl, rfl, rfl, rfl, rfl, rfl, rfl, rfl, rfl, rfl, rfl, rfl, rfl, rfl, rfl, rfl, rfl, rfl, rfl, rfl, rfl, rfl, rfl, rfl, rfl, rfl, rfl, rfl, rfl, rfl, rfl, rfl, rfl, rfl, rfl, rfl, rfl, rfl, rfl, rfl, rfl, rfl, rfl, rfl, rfl, rfl, rfl, rfl, rfl, rfl, rfl, rfl, rfl, rfl, rfl, rfl, rfl, rfl, rfl, rfl, rfl, rfl, rfl, rfl, rfl, rfl, rfl, rfl, rfl, rfl, rfl, rfl, rfl, rfl, rfl, rfl, rfl, rfl, rfl, rfl, rfl, rfl, rfl, rfl, rfl, rfl, rfl, rfl, rfl, rfl, rfl, rfl, rfl, rfl, rfl, rfl, rfl, rfl, rfl, rfl, rfl, rfl, rfl, rfl, rfl, rfl, rfl, rfl, rfl, rfl, rfl, rfl, rfl, rfl, rfl, rfl, rfl, rfl, rfl, rfl, rfl, rfl, rfl, rfl, rfl, rfl, rfl, rfl, rfl, rfl, rfl, rfl, rfl, rfl, rfl, rfl, rfl, rfl, rfl, rfl, rfl, rfl, rfl, rfl, rfl, rfl, rfl, rfl⟩

