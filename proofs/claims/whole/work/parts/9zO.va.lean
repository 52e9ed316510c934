/-! special tests of the reference: automata, the groups and the last states -/
def afw (nt : Nat → Int32) (s v : Int32) : Nat → Nat → Int32 → Int32
  | 0, _, t => t
  | c + 1, w, t => afw nt s v c (w + 3) (if 0 ≤ t then t else if nt w = s ∧ nt (w + 1) = v then nt (w + 2) else t)
theorem afw_pos {nt : Nat → Int32} {s v t : Int32} (h : 0 ≤ t) : ∀ c w, afw nt s v c w t = t := by
  intro c
  induction c with
  | zero => intro w; rfl
  | succ c ih => intro w; rw [afw, if_pos h]; exact ih (w + 3)
theorem afw_afn {nt : Nat → Int32} {s v : Int32} {w : Nat} : ∀ (c r : Nat), (∀ k, r ≤ k → k < r + c → 0 ≤ nt (w + k * 3 + 2)) → afw nt s v c (w + r * 3) (-1) = afn (fun r j => nt (w + r * 3 + j)) s v c r := by
  intro c
  induction c with
  | zero => intro r _; rfl
  | succ c ih =>
    intro r h
    rw [afw, afn, if_neg (by decide)]
    by_cases q : nt (w + r * 3) = s ∧ nt (w + r * 3 + 1) = v
    · rw [if_pos q, if_pos (show nt (w + r * 3 + 0) = s ∧ nt (w + r * 3 + 1) = v from q), afw_pos (h r (by omega) (by omega))]
    · rw [if_neg q, if_neg (show ¬ (nt (w + r * 3 + 0) = s ∧ nt (w + r * 3 + 1) = v) from q), show w + r * 3 + 3 = w + (r + 1) * 3 by omega]
      exact ih (r + 1) (fun k h1 h2 => h k (by omega) (by omega))
section
variable {E : EE} {d : Nat} {p : Nat} {T : Nat → TK} {M : MN} {L nf nv : Nat} {fa se nt : Nat → Int32}
theorem grp_s3 {i i1 : Nat} {xs : List Int32} (h : grp T M shS 3 0 i = .inr (i1, xs)) : ∃ k x, (T (i + 1)).1 = 2 ∧ nmr T true 0 9999 (i + 3) = .inr (k, x) ∧ (T (k + 1)).1 = 2 ∧ i1 = k + 2 ∧ xs = [nI (T (i + 1)).2.2.1, x, nI (T (k + 1)).2.2.1] := by
  obtain ⟨_, k1, x1, ys1, p1, h, e1⟩ := grp_st h
  obtain ⟨_, k2, x2, ys2, p2, h, e2⟩ := grp_st h
  obtain ⟨_, k3, x3, ys3, p3, h, e3⟩ := grp_st h
  obtain ⟨e4, e5⟩ := grp_nil h
  obtain ⟨q1, g1, f1⟩ := ent_num (s := 3) (Or.inr rfl) (show ent T M 3 (i + 1) = .inr (k1, x1) from p1)
  subst g1
  have q2 : nmr T true 0 9999 (i + 3) = .inr (k2, x2) := p2
  obtain ⟨q3, g3, f3⟩ := ent_num (s := 3) (Or.inr rfl) (show ent T M 3 (k2 + 1) = .inr (k3, x3) from p3)
  subst g3
  refine ⟨k2, x2, q1, q2, q3, e4, ?_⟩
  rw [e1, e2, e3, e5, f1, f3]
theorem ev_auto1 {K : Int64 → VH → Prop} {y : Nat → Int32} {V : VH} {w c i1 n j k1 : Nat} {s t : Int32} {xs : List Int32} (h0 : 0 < d) (hT : TL T L) (hg : EG T M nf nv fa se) (hn : n ≤ 12) (hj : j < n) (hm : EM V p T M 0 L fa se) (ha : EA V p c) (cL : c < L) (k1L : k1 < L) (cc : ¬ (T c).1 = 58 ∨ c = k1) (e : grp T M shS 3 0 (c + 1) = .inr (i1, xs)) (iL : i1 < L) (hN : Ntd nt w xs) (hr : RW V n y) (hk : ∀ V', Fc V V' s54 → EA V' p (i1 + 1) → vwp E d M_X12_autoValue 29 [some (sl 6 0), some (wi (nI (20000 * p + k1))), some (wi s), some (wi (nI j)), some (wi (if 0 ≤ t then t else if nt w = s ∧ nt (w + 1) = y j then nt (w + 2) else t)), none, none, none, none] [] V' (zj K)) : vwp E d M_X12_autoValue 29 [some (sl 6 0), some (wi (nI (20000 * p + k1))), some (wi s), some (wi (nI j)), some (wi t), none, none, none, none] [] V (zj K) := by
  have c40 : (T (c + 1)).1 = 40 := (grp_st (m := 2) e).1
  have cL1 : c + 1 < L := hT.lt (by omega) (by rw [c40]; decide) (by rw [c40]; decide)
  obtain ⟨k, x, q1, q2, q3, e1, ex⟩ := grp_s3 e
  have q1' : (T (c + 2)).1 = 2 := q1
  subst e1; subst ex
  have t0 : nt w = nI (T (c + 1 + 1)).2.2.1 := hN 0 (by show 0 < 3; omega)
  have t1 : nt (w + 1) = x := hN 1 (by show 1 < 3; omega)
  have t2 : nt (w + 2) = nI (T (k + 1)).2.2.1 := hN 2 (by show 2 < 3; omega)
  have hp := hm.1
  obtain ⟨m1, m2, _⟩ := hm.kd ha (Nat.zero_le _) cL
  have pj : vp_in (nI j) 12 := vp_in_nI (by omega) (by decide)
  have main : vwp E d M_X12_autoValue 51 [some (sl 6 0), some (wi (nI (20000 * p + k1))), some (wi s), some (wi (nI j)), some (wi t), none, none, none, none] [] V (zj K) := by
    refine w_X12_autoValue_51 h0 (fun V1 v1 => ?_)
    obtain ⟨a1, f1⟩ := ha.st 2 v1 rfl
    have kL2 : c + 2 < L := hT.lt (by omega) (by rw [q1']; decide) (by rw [q1']; decide)
    obtain ⟨r1, r2⟩ := ev_tok (hm.fc f1) a1 kL2 q1
    rw [r2]
    refine ⟨r1, fun V3 v3 => ?_⟩
    obtain ⟨a3, f3⟩ := a1.st 2 v3 rfl
    have hm3 := (hm.fc f1).fc f3
    refine ev_int4 hg hm3 a3 (Nat.zero_le _) (by omega) rfl q2 (fun V4 g4 a4 _ V6 v6 => ?_)
    obtain ⟨a6, f6⟩ := a4.st 1 v6 rfl
    have hm6 := (hm3.fc (s54_e g4)).fc f6
    obtain ⟨s1, s2⟩ := ev_tok hm6 a6 (show k + 1 < L by omega) q3
    rw [s2]
    refine ⟨s1, fun V8 v8 => ?_⟩
    obtain ⟨a8, f8⟩ := a6.st 2 v8 rfl
    have gg := ((((s54_w v1).trans (s54_w v3)).trans g4).trans (s54_w v6)).trans (s54_w v8)
    have kk := hk V8 gg a8
    have r8 := hr.fc gg
    rw [t0, t1, t2] at kk
    refine ⟨fun z => w_X12_autoValue_146 ?_, fun z => ⟨fun z1 => w_X12_autoValue_146 ?_, fun z1 => ⟨pj, ?_⟩⟩⟩
    · rw [if_pos z] at kk; exact kk
    · rw [if_neg z, if_neg (fun w => z1 w.1.symm)] at kk; exact kk
    · rw [nI_clamp (show j < 2 ^ 31 by omega), r8.2 j hj]
      refine ⟨fun z2 => w_X12_autoValue_146 ?_, fun z2 => w_X12_autoValue_146 ?_⟩
      · rw [if_neg z, if_neg (fun w => z2 (by rw [w.2]))] at kk; exact kk
      · rw [if_neg z, if_pos ⟨z1.symm, (j_inj.mp z2).symm⟩] at kk; exact kk
  refine w_X12_autoValue_29 ⟨m1, fun _ => main, fun z => ⟨fun z1 => ?_, fun _ => main⟩⟩
  exfalso
  rcases cc with cc | cc
  · exact cc ((kq 58 (hg.1 c).1 (by decide)).mp (m2.symm.trans z))
  · exact z1 (by rw [← cc]; exact ha)
end
