/-! a problem is cleared; the text of no byte -/
def clS (g : Nat) : Nat → Nat → Nat → Prop := fun a f i => a = g ∧ (f = 0 ∧ (i = 0 ∨ i = 8 ∨ i = 9 ∨ i = 11) ∨ f = 4 ∨ f = 5 ∧ (i = 0 ∨ i = 1) ∨ f = 9 ∧ (i = 0 ∨ i = 1 ∨ i = 2 ∨ i = 3 ∨ i = 10) ∨ f = 19 ∧ i = 0 ∨ f = 24)
/-- a problem before its text is read -/
def Clr (V : VH) (g : Nat) : Prop := vI V g 0 0 = 0 ∧ vI V g 0 8 = 0 ∧ vI V g 0 9 = 0 ∧ vI V g 0 11 = 0 ∧ (∀ j, j < 4 → vI V g 4 j = 0) ∧ vI V g 5 0 = 0 ∧ vI V g 5 1 = 1 ∧ vI V g 9 0 = 0 ∧ vI V g 9 1 = 0 ∧ vI V g 9 2 = 0 ∧ vI V g 9 3 = 0 ∧ vI V g 9 10 = 0 ∧ vI V g 19 0 = 0 ∧ ∀ j, j < 12 → vI V g 24 j = 1
section
variable {E : EE} {d : Nat} {V : VH} {g : Nat}
theorem Fc.wf {V V' : VH} {S : Nat → Nat → Nat → Prop} (h : Fc V V' S) (hW : WF V) (ho : ∀ a f k, S a f k → f < nf a → vL V a = true → okT (tyk (kd a f) k) (vI V' a f k)) : WF V' := by
  refine ⟨by rw [h.l]; exact hW.1, fun a ha q hq => by rw [h.n]; rw [h.l] at ha; exact hW.2.1 a ha q hq, fun a f k ha hf => ?_⟩
  rw [h.l] at ha
  by_cases c : S a f k
  · exact ho a f k c hf ha
  · rw [h.i c]; exact hW.2.2 a f k ha hf
theorem c_clear {K : VH → Prop} (h0 : 0 < d) (hg : PG (vL V) g) (n4 : vN V g 4 = 4) (n24 : vN V g 24 = 12) (hk : ∀ V', Fc V V' (clS g) → Clr V' g → K V') : vMV E d M_X3_clear [sl g 0] V K := by
  refine w_X3_clear_0 hg h0 (fun V1 e1 => ?_)
  have f1 : Fc V V1 (clS g) := by rw [e1]; exact Fc_wrI ⟨rfl, Or.inl ⟨rfl, Or.inl rfl⟩⟩
  have a1 : vI V1 g 0 0 = 0 := by rw [e1]; exact wrI_at
  have hg1 : PG (vL V1) g := by rw [f1.l]; exact hg
  refine c_fill (sP_4 hg1) (by rw [f1.n, n4]; decide) (fun V2 f2 b2 => ?_)
  rw [f1.n, n4] at b2
  have f2' : Fc V1 V2 (clS g) := f2.mono (fun a f i z => ⟨z.1, Or.inr (Or.inl z.2)⟩)
  have hg2 : PG (vL V2) g := by rw [f2.l]; exact hg1
  have a2 : vI V2 g 0 0 = 0 := by rw [f2.i (fun z => by omega)]; exact a1
  refine w_X7_clear_0 hg2 (fun V3 e3 V5 e5 => ?_)
  have f3 : Fc V2 V3 (clS g) := by rw [e3]; exact Fc_wrI ⟨rfl, by omega⟩
  have f5 : Fc V3 V5 (clS g) := by rw [e5]; exact Fc_wrI ⟨rfl, by omega⟩
  have hg5 : PG (vL V5) g := by rw [f5.l, f3.l]; exact hg2
  have a5 : vI V5 g 0 0 = 0 := by rw [e5, wrI_ne (fun z => by omega), e3, wrI_ne (fun z => by omega)]; exact a2
  have b5 : ∀ j, j < 4 → vI V5 g 4 j = 0 := fun j hj => by rw [e5, wrI_ne (fun z => by omega), e3, wrI_ne (fun z => by omega)]; exact b2 j hj
  have c50 : vI V5 g 5 0 = 0 := by rw [e5, wrI_ne (fun z => by omega), e3]; exact wrI_at
  have c51 : vI V5 g 5 1 = 1 := by rw [e5]; exact wrI_at
  refine w_X2_clear_0 hg5 (fun W1 d1 W2 d2 W3 d3 W4 d4 V8 d5 => ?_)
  have g1 : Fc V5 W1 (clS g) := by rw [d1]; exact Fc_wrI ⟨rfl, by omega⟩
  have g2 : Fc W1 W2 (clS g) := by rw [d2]; exact Fc_wrI ⟨rfl, by omega⟩
  have g3 : Fc W2 W3 (clS g) := by rw [d3]; exact Fc_wrI ⟨rfl, by omega⟩
  have g4 : Fc W3 W4 (clS g) := by rw [d4]; exact Fc_wrI ⟨rfl, by omega⟩
  have g5 : Fc W4 V8 (clS g) := by rw [d5]; exact Fc_wrI ⟨rfl, by omega⟩
  have k8 : ∀ f j, f ≠ 9 → vI V8 g f j = vI V5 g f j := fun f j h => by rw [d5, wrI_ne (fun z => by omega), d4, wrI_ne (fun z => by omega), d3, wrI_ne (fun z => by omega), d2, wrI_ne (fun z => by omega), d1, wrI_ne (fun z => by omega)]
  have j0 : vI V8 g 9 0 = 0 := by rw [d5, wrI_ne (fun z => by omega), d4, wrI_ne (fun z => by omega), d3, wrI_ne (fun z => by omega), d2, wrI_ne (fun z => by omega), d1]; exact wrI_at
  have j1 : vI V8 g 9 1 = 0 := by rw [d5, wrI_ne (fun z => by omega), d4, wrI_ne (fun z => by omega), d3, wrI_ne (fun z => by omega), d2]; exact wrI_at
  have j2 : vI V8 g 9 2 = 0 := by rw [d5, wrI_ne (fun z => by omega), d4, wrI_ne (fun z => by omega), d3]; exact wrI_at
  have j3 : vI V8 g 9 3 = 0 := by rw [d5, wrI_ne (fun z => by omega), d4]; exact wrI_at
  have j10 : vI V8 g 9 10 = 0 := by rw [d5]; exact wrI_at
  intro V11 e11 V12 e12 V13 e13
  have f11 : Fc V8 V11 (clS g) := by rw [e11]; exact Fc_wrI ⟨rfl, by omega⟩
  have f12 : Fc V11 V12 (clS g) := by rw [e12]; exact Fc_wrI ⟨rfl, by omega⟩
  have f13 : Fc V12 V13 (clS g) := by rw [e13]; exact Fc_wrI ⟨rfl, by omega⟩
  have F : Fc V V13 (clS g) := f1.trans (f2'.trans (f3.trans (f5.trans (g1.trans (g2.trans (g3.trans (g4.trans (g5.trans (f11.trans (f12.trans f13))))))))))
  have hg13 : PG (vL V13) g := by rw [F.l]; exact hg
  have k13 : ∀ f j, f ≠ 0 → f ≠ 19 → vI V13 g f j = vI V8 g f j := fun f j h h' => by rw [e13, wrI_ne (fun z => by omega), e12, wrI_ne (fun z => by omega), e11, wrI_ne (fun z => by omega)]
  have l0 : vI V13 g 0 0 = 0 := by rw [e13, wrI_ne (fun z => by omega), e12, wrI_ne (fun z => by omega), e11, wrI_ne (fun z => by omega), k8 0 0 (by omega)]; exact a5
  have l8 : vI V13 g 0 8 = 0 := by rw [e13, wrI_ne (fun z => by omega), e12]; exact wrI_at
  have l9 : vI V13 g 0 9 = 0 := by rw [e13]; exact wrI_at
  have l19 : vI V13 g 19 0 = 0 := by rw [e13, wrI_ne (fun z => by omega), e12, wrI_ne (fun z => by omega), e11]; exact wrI_at
  refine c_fill (sP_24 hg13) (by rw [F.n, n24]; decide) (fun V14 f14 b14 V17 e17 => ?_)
  rw [F.n, n24] at b14
  have f14' : Fc V13 V14 (clS g) := f14.mono (fun a f i z => ⟨z.1, by omega⟩)
  have f17 : Fc V14 V17 (clS g) := by rw [e17]; exact Fc_wrI ⟨rfl, by omega⟩
  have k17 : ∀ f j, f ≠ 24 → ¬ (f = 0 ∧ j = 11) → vI V17 g f j = vI V13 g f j := fun f j h h' => by rw [e17, wrI_ne (fun z => h' ⟨z.2.1, z.2.2⟩), f14.i (fun z => h z.2)]
  refine hk V17 (F.trans (f14'.trans f17)) ⟨?_, ?_, ?_, ?_, fun j hj => ?_, ?_, ?_, ?_, ?_, ?_, ?_, ?_, ?_, fun j hj => ?_⟩
  · rw [k17 0 0 (by omega) (by omega)]; exact l0
  · rw [k17 0 8 (by omega) (by omega)]; exact l8
  · rw [k17 0 9 (by omega) (by omega)]; exact l9
  · rw [e17]; exact wrI_at
  · rw [k17 4 j (by omega) (by omega), k13 4 j (by omega) (by omega), k8 4 j (by omega)]; exact b5 j hj
  · rw [k17 5 0 (by omega) (by omega), k13 5 0 (by omega) (by omega), k8 5 0 (by omega)]; exact c50
  · rw [k17 5 1 (by omega) (by omega), k13 5 1 (by omega) (by omega), k8 5 1 (by omega)]; exact c51
  · rw [k17 9 0 (by omega) (by omega), k13 9 0 (by omega) (by omega)]; exact j0
  · rw [k17 9 1 (by omega) (by omega), k13 9 1 (by omega) (by omega)]; exact j1
  · rw [k17 9 2 (by omega) (by omega), k13 9 2 (by omega) (by omega)]; exact j2
  · rw [k17 9 3 (by omega) (by omega), k13 9 3 (by omega) (by omega)]; exact j3
  · rw [k17 9 10 (by omega) (by omega), k13 9 10 (by omega) (by omega)]; exact j10
  · rw [k17 19 0 (by omega) (by omega)]; exact l19
  · rw [e17, wrI_ne (fun z => by omega)]; exact b14 j hj
/-- lengths and groups stay, but for rows of S -/
def Fn (V V' : VH) (S : Nat → Nat → Prop) : Prop := vL V' = vL V ∧ ∀ a f, ¬ S a f → vN V' a f = vN V a f
theorem Fn.trans {V V' V2 : VH} {S : Nat → Nat → Prop} (h : Fn V V' S) (k : Fn V' V2 S) : Fn V V2 S := ⟨k.1.trans h.1, fun a f q => (k.2 a f q).trans (h.2 a f q)⟩
theorem Fr.fn {V V' : VH} {S T : Nat → Nat → Prop} (h : Fr V V' S) (hT : ∀ a f, S a f → T a f) : Fn V V' T := ⟨h.1, fun a f q => h.n (fun z => q (hT a f z))⟩
theorem Fc.fn {V V' : VH} {S : Nat → Nat → Nat → Prop} {T : Nat → Nat → Prop} (h : Fc V V' S) : Fn V V' T := ⟨h.l, fun a f _ => by rw [h.n]⟩
/-- the rows of the class's tokens -/
def tkR2 : Nat → Nat → Prop := fun a f => a = 0 ∧ (f = 2 ∨ f = 3 ∨ f = 4 ∨ f = 5 ∨ f = 6)
theorem c_scan_empty {b c cap : Nat} {K : VH → Prop} (h0 : 2 < d) (h : Byt V b c 0) (hb : ¬ (b = 0 ∧ (c = 2 ∨ c = 1))) (hN : TkN V cap) (hk : ∀ V' cap', Fr V V' tkR2 → TkN V' cap' → vI V' 0 2 6 = 0 → vI V' 0 2 8 = 0 → K V') : vMV E d M_X10_scan [sl 0 2, sl b c] V K := by
  refine w_X10_scan_0 h.1 (fun V1 e1 V2 e2 V3 e3 => ?_)
  have hcb : ¬ (b = 0 ∧ c = 2) := fun z => hb ⟨z.1, Or.inl z.2⟩
  have f3 : Fc V V3 (fun a f i => a = 0 ∧ f = 2) := by
    rw [e3, e2, e1]; exact ((Fc_wrI ⟨rfl, rfl⟩).trans (Fc_wrI ⟨rfl, rfl⟩)).trans (Fc_wrI ⟨rfl, rfl⟩)
  have c3 : vI V3 0 2 5 = nI 0 := by rw [e3, wrI_ne (fun z => by omega), e2, wrI_ne (fun z => by omega), e1]; exact wrI_at
  have B3 : Byt V3 b c 0 := h.fr (f3.fr (T := fun a f => a = 0 ∧ f = 2) (fun a f i z => z)) (fun z => hcb z) (fun z => hb ⟨z.1, Or.inr (by omega)⟩)
  have N3 : TkN V3 cap := by unfold TkN; rw [f3.n]; exact hN
  refine w_X10_scan_19 B3.1 (by omega) ⟨fun q => ?_, fun _ => ?_⟩
  · rw [B3.2.1] at q; exact absurd q (by decide)
  · refine w_X10_afterBlanks_0 B3.1 (w_X10_afterBlanks_4 B3.1 (by omega) ⟨fun _ => ?_, fun q => absurd (by rw [B3.2.1]; decide) q⟩)
    refine c_at_out B3 (fun j hj => absurd hj (Nat.not_lt_zero j)) ⟨fun q => absurd q (by decide), fun _ => ?_⟩
    refine w_X10_scan_125 B3.1 (by omega) ?_
    rw [B3.2.1]
    refine c_write (cnt := 0) (by omega) N3 c3 (by omega) (by omega) (fun V4 cap' f4 N4 l4 s4 k3 k4 k5 k6 V5 e5 => ?_)
    have N5 : TkN V5 cap' := by rw [e5]; exact N4
    have c5 : vI V5 0 2 5 = nI 0 := by rw [e5, wrI_ne (fun z => by omega), f4.i (fun z => by obtain ⟨_, z⟩ := z; omega)]; exact c3
    refine c_step0 N5 c5 l4 (by rw [e5]; exact wrI_at) (fun V6 f6 t6 => ?_)
    have kk : vI V5 0 3 0 = 0 := by rw [e5, wrI_ne (fun z => by omega)]; exact k3
    have kp : vI V5 0 5 0 = nI 0 := by rw [e5, wrI_ne (fun z => by omega)]; exact k5
    refine hk V6 cap' ?_ (by unfold TkN; rw [f6.n]; exact N5) ?_ ?_
    · refine ((f3.fr (fun a f i z => ⟨z.1, Or.inl z.2⟩)).trans (f4.mono (fun a f z => ⟨z.1, Or.inr z.2⟩))).trans ?_
      have f5 : Fr V4 V5 tkR2 := by rw [e5]; exact Fr_wrI ⟨rfl, Or.inl rfl⟩
      exact f5.trans (f6.fr (fun a f i z => ⟨z.1, Or.inl z.2.1⟩))
    · rw [t6.2.1, f6.i (fun z => by obtain ⟨_, z, _⟩ := z; omega)]; exact kk
    · rw [t6.2.2.2.1, f6.i (fun z => by obtain ⟨_, z, _⟩ := z; omega)]; exact kp
/-- a text of no byte is no problem: fault 2 at place 0 -/
theorem c_read_empty {cap : Nat} {K : Int32 → VH → Prop} (h0 : 3 < d) (hg : PG (vL V) g) (h : Byt V g 1 0) (hN : TkN V cap) (n4 : vN V g 4 = 4) (n24 : vN V g 24 = 12) (hk : ∀ V' cap', Fn V V' tkR2 → TkN V' cap' → vI V' 0 2 10 = 2 → vI V' 0 2 11 = 0 → (∀ f, vI V' 6 f = vI V 6 f) → K 0 V') : vMI E d M_X5_read [sl 0 7, sl g 0] V K := by
  have hg0 : g ≠ 0 := hg.2.1
  refine w_X5_read_0 hg (by omega) (fun V1 e1 V2 e2 V3 e3 => ?_)
  have l3 : vL V3 = vL V := by rw [e3, e2, e1]; rfl
  have m3 : vN V3 = vN V := by rw [e3, e2, e1]; rfl
  have i3 : ∀ f, vI V3 g f = vI V g f := fun f => by
    rw [e3, e2, e1]; exact funext fun j => if_neg (fun z => hg0 z.1)
  have hg3 : PG (vL V3) g := by rw [l3]; exact hg
  have fn3 : Fn V V3 tkR2 := ⟨l3, fun a f _ => by rw [m3]⟩
  have B3 : Byt V3 g 1 0 := ⟨by rw [l3]; exact h.1, by rw [i3]; exact h.2.1, by rw [m3]; exact h.2.2.1, by rw [m3]; exact h.2.2.2.1, by rw [m3]; exact h.2.2.2.2⟩
  refine c_clear (by omega) hg3 (by rw [m3]; exact n4) (by rw [m3]; exact n24) (fun V4 f4 c4 => ?_)
  have B4 : Byt V4 g 1 0 := ⟨by rw [f4.l]; exact B3.1, by rw [f4.i (fun z => by obtain ⟨_, z⟩ := z; omega)]; exact B3.2.1, by rw [f4.n]; exact B3.2.2.1, by rw [f4.n]; exact B3.2.2.2.1, by rw [f4.n]; exact B3.2.2.2.2⟩
  have N4 : TkN V4 cap := by unfold TkN; rw [f4.n, m3]; exact hN
  have hg4 : PG (vL V4) g := by rw [f4.l]; exact hg3
  refine c_scan_empty (by omega) B4 (fun z => hg0 z.1) N4 (fun V8 cap' f8 N8 k8 p8 => ?_)
  have hg8 : PG (vL V8) g := by rw [f8.1]; exact hg4
  have len8 : vI V8 g 1 1 = nI 0 := by rw [f8.i (fun z => hg0 z.1)]; exact B4.2.1
  have k4 : ¬ vI V8 0 2 6 = 4 := by rw [k8]; decide
  refine w_X5_read_35 hg8 (by omega) ⟨fun q => absurd (by rw [len8] at q; exact q) (by decide), fun _ => ⟨fun _ => ?_, fun q => absurd (by decide) q⟩⟩
  refine w_X5_read_65 hg8 (by omega) (c_is ?_)
  rw [if_neg (fun z => k4 z.1)]
  refine ⟨fun _ => c_is ?_, fun q => absurd rfl q⟩
  rw [if_neg (fun z => k4 z.1)]
  refine ⟨fun _ => c_is ?_, fun q => absurd rfl q⟩
  rw [if_neg (fun z => k4 z.1)]
  refine ⟨fun _ => c_is ?_, fun q => absurd rfl q⟩
  rw [if_neg (fun z => k4 z.1)]
  refine ⟨fun _ => c_refuse (fun V9 f9 r9 p9 => ?_), fun q => absurd rfl q⟩
  have hg9 : PG (vL V9) g := by rw [f9.l]; exact hg8
  refine w_X5_read_149 hg9 ⟨fun q => absurd rfl q, fun _ => ?_⟩
  refine hk V9 cap' ((fn3.trans f4.fn).trans (Fn.trans (f8.fn (fun a f z => z)) f9.fn)) (by unfold TkN; rw [f9.n]; exact N8) (by rw [r9, k8]; decide) (by rw [p9, p8]) (fun f => ?_)
  have i6 : vI V3 6 f = vI V 6 f := by
    rw [e3, e2, e1]; exact funext fun j => wrI_ne (V := wrQ (wrP V g) g) (fun z => by have := z.1; omega)
  refine funext fun j => ?_
  rw [f9.i (fun z => by have := z.1; omega), f8.i (fun z => by have := z.1; omega), f4.i (fun z => hg.2.2 z.1.symm), i6]
end
