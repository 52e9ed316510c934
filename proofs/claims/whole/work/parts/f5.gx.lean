/-! frames that may grow rows; the invariant behind the class's and the reference's look at a problem and the tape -/
def Gx (V V' : VH) (S : Nat → Nat → Nat → Prop) (T : Nat → Nat → Prop) : Prop := vL V' = vL V ∧ vP V' = vP V ∧ vQ V' = vQ V ∧ (∀ a f, ¬ T a f → vN V' a f = vN V a f) ∧ ∀ a f j, ¬ S a f j → vI V' a f j = vI V a f j ∧ vJ V' a f j = vJ V a f j
section
variable {V V' V'' : VH} {S S' S1 : Nat → Nat → Nat → Prop} {T T' A : Nat → Nat → Prop}
theorem Gx.refl : Gx V V S T := ⟨rfl, rfl, rfl, fun _ _ _ => rfl, fun _ _ _ _ => ⟨rfl, rfl⟩⟩
theorem Gx.mono (h : Gx V V' S T) (s : ∀ a f j, S a f j → S' a f j) (t : ∀ a f, T a f → T' a f) : Gx V V' S' T' := ⟨h.1, h.2.1, h.2.2.1, fun a f y => h.2.2.2.1 a f (fun z => y (t a f z)), fun a f j y => h.2.2.2.2 a f j (fun z => y (s a f j z))⟩
theorem Gx.trans (h : Gx V V' S T) (k : Gx V' V'' S T) : Gx V V'' S T := ⟨by rw [k.1, h.1], by rw [k.2.1, h.2.1], by rw [k.2.2.1, h.2.2.1], fun a f y => by rw [k.2.2.2.1 a f y, h.2.2.2.1 a f y], fun a f j y => by rw [(k.2.2.2.2 a f j y).1, (k.2.2.2.2 a f j y).2]; exact h.2.2.2.2 a f j y⟩
theorem Gx.i (h : Gx V V' S T) {a f j : Nat} (y : ¬ S a f j) : vI V' a f j = vI V a f j := (h.2.2.2.2 a f j y).1
theorem Gx.j (h : Gx V V' S T) {a f j : Nat} (y : ¬ S a f j) : vJ V' a f j = vJ V a f j := (h.2.2.2.2 a f j y).2
theorem Gx.n (h : Gx V V' S T) {a f : Nat} (y : ¬ T a f) : vN V' a f = vN V a f := h.2.2.2.1 a f y
theorem Gx.of_fc (k : Fc V V' S) : Gx V V' S T := ⟨k.l, by unfold vP; rw [k.2.2.1], by unfold vQ; rw [k.2.2.1], fun a f _ => by rw [k.n], fun a f j y => ⟨k.i y, k.j y⟩⟩
theorem Gx.of_fr (k : Fr V V' A) : Gx V V' (fun a f _ => A a f) A := ⟨k.1, k.2.1, k.2.2.1, fun a f y => k.n y, fun a f j y => ⟨by rw [k.i y], by rw [k.j y]⟩⟩
theorem Gx.byt {b c n : Nat} (h : Gx V V' S T) (y : Byt V b c n) (z1 : ¬ S b c 1) (z2 : ¬ T b (c + 1)) : Byt V' b c n := by
  obtain ⟨b1, b2, b3, b4, b5⟩ := y
  have e := h.n z2
  exact ⟨⟨by rw [h.1]; exact b1.1, b1.2⟩, by rw [h.i z1]; exact b2, by rw [e]; exact b3, by rw [e]; exact b4, by rw [e]; exact b5⟩
/-- cells first -/
theorem Gx.sp (h : Gx V V' S T) (S1 : Nat → Nat → Nat → Prop) : ∃ M, Fc V M S1 ∧ (∀ a f j, S1 a f j → vI M a f j = vI V' a f j ∧ vJ M a f j = vJ V' a f j) ∧ Gx M V' (fun a f j => S a f j ∧ ¬ S1 a f j) T := by
  classical
  let M : VH := (V.1, V.2.1, V.2.2.1, V.2.2.2.1, fun a f j => if S1 a f j then vI V' a f j else vI V a f j, fun a f j => if S1 a f j then vJ V' a f j else vJ V a f j)
  have eI : ∀ a f j, vI M a f j = if S1 a f j then vI V' a f j else vI V a f j := fun _ _ _ => rfl
  have eJ : ∀ a f j, vJ M a f j = if S1 a f j then vJ V' a f j else vJ V a f j := fun _ _ _ => rfl
  refine ⟨M, ⟨rfl, rfl, rfl, rfl, fun a f j y => ⟨by rw [eI, if_neg y], by rw [eJ, if_neg y]⟩⟩, fun a f j y => ⟨by rw [eI, if_pos y], by rw [eJ, if_pos y]⟩, h.1, h.2.1, h.2.2.1, h.2.2.2.1, fun a f j y => ?_⟩
  rw [eI, eJ]
  by_cases c : S1 a f j
  · rw [if_pos c, if_pos c]; exact ⟨rfl, rfl⟩
  · rw [if_neg c, if_neg c]
    exact h.2.2.2.2 a f j (fun z => y ⟨z, c⟩)
/-- rows first -/
theorem Gx.sr (h : Gx V V' S T) (A : Nat → Nat → Prop) : ∃ M, Fr V M A ∧ (∀ a f, A a f → vN M a f = vN V' a f ∧ vI M a f = vI V' a f ∧ vJ M a f = vJ V' a f) ∧ Gx M V' (fun a f j => S a f j ∧ ¬ A a f) (fun a f => T a f ∧ ¬ A a f) ∧ M.1 = V'.1 := by
  classical
  let M : VH := (V'.1, V.2.1, V.2.2.1, fun a f => if A a f then vN V' a f else vN V a f, fun a f => if A a f then vI V' a f else vI V a f, fun a f => if A a f then vJ V' a f else vJ V a f)
  have eN : ∀ a f, vN M a f = if A a f then vN V' a f else vN V a f := fun _ _ => rfl
  have eI : ∀ a f, vI M a f = if A a f then vI V' a f else vI V a f := fun _ _ => rfl
  have eJ : ∀ a f, vJ M a f = if A a f then vJ V' a f else vJ V a f := fun _ _ => rfl
  refine ⟨M, ⟨rfl, rfl, rfl, fun a f y => ⟨by rw [eN, if_neg y], by rw [eI, if_neg y], by rw [eJ, if_neg y]⟩⟩, fun a f y => ⟨by rw [eN, if_pos y], by rw [eI, if_pos y], by rw [eJ, if_pos y]⟩, ⟨h.1, h.2.1, h.2.2.1, fun a f y => ?_, fun a f j y => ?_⟩, rfl⟩
  · rw [eN]
    by_cases c : A a f
    · rw [if_pos c]
    · rw [if_neg c]; exact h.n (fun z => y ⟨z, c⟩)
  · rw [eI, eJ]
    by_cases c : A a f
    · rw [if_pos c, if_pos c]; exact ⟨rfl, rfl⟩
    · rw [if_neg c, if_neg c]; exact h.2.2.2.2 a f j (fun z => y ⟨z, c⟩)
theorem Gx.fc (h : Gx V V' S T) (t : ∀ a f, ¬ T a f) (e : V.1 = V'.1) : Fc V V' S := ⟨e.symm, h.1, Prod.ext h.2.1 h.2.2.1, funext fun a => funext fun f => h.n (t a f), h.2.2.2.2⟩
end
section
variable {E : EE} {d : Nat} {V V' V2 : VH} {q B : Nat} {t : Nat → Int32} {n : Nat} {R : List SR} {nt fa : Nat → Int32} {h : Nat} {x : Int32} {cs : Nat → Int32} {S : Nat → Nat → Nat → Prop} {T : Nat → Nat → Prop}
/-- cells of the class's tokens, proofs and fault and of both tapes -/
def gxS (q a f j : Nat) : Prop := a = 0 ∧ (f ≤ 8 ∨ f = 21 ∨ f = 22 ∨ f = 28) ∨ qrS q a f j ∨ a = 6 ∧ (f = 0 ∧ (j = 1 ∨ j = 4) ∨ f = 1)
def gxT (a f : Nat) : Prop := a = 0 ∧ f ≤ 6
theorem JS.gx (hJ : JS B V) (hq : q < 4) (hI : PbI V q t n R nt fa h x cs) (k : Gx V V2 (gxS q) gxT) (tp : TpJ V2) (bd : BdJ V2) (tk : ∃ cap, TkN V2 cap) (e1 : vI V2 6 0 62 = nI q) (e2 : vI V2 6 0 63 = vI V 6 33 q) (w : WqR V2 R nt fa) (hW : WF V2) : JS B V2 := by
  obtain ⟨M1, f1, o1, k1⟩ := k.sp (qrS q)
  have qr : ∀ {f j}, 34 ≤ f ∧ f ≠ 59 ∧ f ≠ 60 → qrS q 6 f j := fun h => Or.inr ⟨rfl, Or.inr h⟩
  have w1 : WqR M1 R nt fa := Wq.ex w (fun f j hf => (o1 6 f j (qr (by omega))).1) (fun j => (o1 6 45 j (qr (by omega))).2)
  have q62 : ∀ {j}, j = 62 ∨ j = 63 → qrS q 6 0 j := fun h => Or.inr ⟨rfl, Or.inl ⟨rfl, by omega, by omega⟩⟩
  have j1 : JS B M1 := hJ.kn hq f1 (by rw [(o1 6 0 62 (q62 (by omega))).1]; exact e1) (by rw [(o1 6 0 63 (q62 (by omega))).1]; exact e2) (Or.inr ⟨t, n, R, nt, fa, h, x, cs, hI.kn f1 w1⟩)
  obtain ⟨M2, f2, o2, k2⟩ := k1.sp (fun a f j => a = 0 ∧ (f = 7 ∨ f = 8 ∨ f = 21 ∨ f = 22))
  have j2 : JS B M2 := by
    refine j1.fc 4 f2 (fun a f j y z => ?_) (fun q a f j hq _ y z => ?_) (fun g j h1 h2 y => ?_) (Or.inl (fun a f j y z => ?_)) (j1.2.2.2.2.2.2.1.fc f2 (fun f j y z => ?_)) (fun h => absurd h (by decide))
    · unfold Glo at z; omega
    · unfold OfP at z; omega
    · omega
    · unfold Cch at z; omega
    · omega
  obtain ⟨M3, f3, o3, k3, _⟩ := k2.sr scR
  obtain ⟨cap, tkc⟩ := tk
  have sc : ∀ {f}, 2 ≤ f → f ≤ 6 → scR 0 f := fun h1 h2 => ⟨rfl, by omega⟩
  have j3 : JS B M3 := j2.ft (cap := cap) f3 (by unfold TkN; rw [(o3 0 3 (sc (by omega) (by omega))).1, (o3 0 4 (sc (by omega) (by omega))).1, (o3 0 5 (sc (by omega) (by omega))).1, (o3 0 6 (sc (by omega) (by omega))).1]; exact tkc) (by rw [(o3 0 2 (sc (by omega) (by omega))).1]; exact hW.n02)
  obtain ⟨M4, f4, o4, k4, e4⟩ := k3.sr (fun a f => a = 0 ∧ (f < 2 ∨ 23 ≤ f))
  have f5 := k4.fc (fun a f y => by
    obtain ⟨⟨y1, y2⟩, y3⟩ := y
    have y1 : a = 0 ∧ f ≤ 6 := y1
    have y2 : ¬ (a = 0 ∧ (f = 2 ∨ f = 3 ∨ f = 4 ∨ f = 5 ∨ f = 6)) := y2
    omega) e4
  refine j3.g0 f4 f5 (fun a f y => y) (fun a f j y => ?_) tp bd ?_ hW
  · obtain ⟨⟨⟨⟨y1, y2⟩, y3⟩, y4⟩, y5⟩ := y
    rcases y1 with y1 | y1 | y1
    · exfalso
      have y4 : ¬ (a = 0 ∧ (f = 2 ∨ f = 3 ∨ f = 4 ∨ f = 5 ∨ f = 6)) := y4
      omega
    · exact absurd y1 y2
    · exact Or.inr ⟨y1.1, by have := y1.2; omega⟩
  · have s3 := j3.2.2.2.2.1
    have ne : ∀ f, ¬ ((6 : Nat) = 0 ∧ (f < 2 ∨ 23 ≤ f)) := fun f y => by omega
    have S5 : ∀ a f j, (((gxS q a f j ∧ ¬ qrS q a f j) ∧ ¬ (a = 0 ∧ (f = 7 ∨ f = 8 ∨ f = 21 ∨ f = 22))) ∧ ¬ scR a f) ∧ ¬ (a = 0 ∧ (f < 2 ∨ 23 ≤ f)) → a = 6 ∧ (f = 0 ∧ (j = 1 ∨ j = 4) ∨ f = 1) := fun a f j y => by
      obtain ⟨⟨⟨⟨y1, y2⟩, y3⟩, y4⟩, y5⟩ := y
      rcases y1 with y1 | y1 | y1
      · exfalso
        have y4 : ¬ (a = 0 ∧ (f = 2 ∨ f = 3 ∨ f = 4 ∨ f = 5 ∨ f = 6)) := y4
        omega
      · exact absurd y1 y2
      · exact y1
    -- the store's rows are those of M3
    have i0 : ∀ f j, 23 ≤ f → f ≤ 26 → vI V2 0 f j = vI M3 0 f j := fun f j h1 h2 => k3.i (fun y => by
      obtain ⟨⟨⟨y1, y2⟩, y3⟩, y4⟩ := y
      rcases y1 with y1 | y1 | y1
      · omega
      · exact absurd y1 y2
      · omega)
    have n0 : ∀ f, 23 ≤ f → f ≤ 26 → vN V2 0 f = vN M3 0 f := fun f h1 h2 => k3.n (fun y => by have : (0 : Nat) = 0 ∧ f ≤ 6 := y.1; omega)
    have i6 : ∀ f j, f = 0 ∧ (j = 89 ∨ j = 91 ∨ j = 92) ∨ f = 59 ∨ f = 60 → vI V2 6 f j = vI M3 6 f j := fun f j hf => k3.i (fun y => by
      obtain ⟨⟨⟨y1, y2⟩, y3⟩, y4⟩ := y
      rcases y1 with y1 | y1 | y1
      · omega
      · exact absurd y1 y2
      · omega)
    obtain ⟨c, l, en, ⟨a1, a2, a3⟩, ⟨⟨d1, d2, d3, d4, d5⟩, b2, b3⟩, ⟨c1, c2, c3, c4⟩, e⟩ := s3
    have r25 : vI V2 0 25 = vI M3 0 25 := funext fun j => i0 25 j (by omega) (by omega)
    have n25 : vN V2 0 (24 + 1) = vN M3 0 (24 + 1) := n0 25 (by decide) (by decide)
    refine ⟨c, l, en, ⟨by rw [i0 23 1 (by omega) (by omega)]; exact a1, by rw [i6 0 91 (by omega)]; exact a2, a3⟩, ⟨⟨⟨by rw [k3.1]; exact d1.1, d1.2⟩, by rw [i0 24 1 (by omega) (by omega)]; exact d2, by rw [n25]; exact d3, by rw [n25]; exact d4, by rw [n25]; exact d5⟩, ⟨by rw [i6 0 89 (by omega)]; exact b2.1, b2.2⟩, fun i hi => by rw [r25, i6 59 i (by omega)]; exact b3 i hi⟩, ⟨c1, c2, fun i hi => by rw [i0 26 i (by omega) (by omega), r25]; exact c3 i hi, fun i hi => by rw [i6 60 i (by omega)]; exact c4 i hi⟩, by rw [i0 23 4 (by omega) (by omega), i6 0 92 (by omega)]; exact e⟩
end
