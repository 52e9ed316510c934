/-! problem: both -/
section
variable {E : EE} {d x B B' : Nat}
theorem o_problem (hE : eFr E) (h0 : 240 < d) (hB : B + 1 ≤ B') (hB2 : B + 1 < 2 ^ 31) : VO_problem E d (JA x B) (JA x B') := fun V hJ => liftI hJ (fun hW hS => by
  obtain ⟨n, by0, tp, teq⟩ := hS.1
  have fin : ∀ (r : Int32), r = r ∧ (WF V → JS B' V) := fun r => ⟨rfl, fun _ => hS.mono (by omega)⟩
  have same : ∀ {V : VH} {q q' : Nat}, vI V 6 2 q = 0 → (∀ u, u < q → ¬ vI V 6 2 u = 0) → vI V 6 2 q' = 0 → (∀ u, u < q' → ¬ vI V 6 2 u = 0) → q = q' := fun {V q q'} a1 a2 b1 b2 => by
    rcases Nat.lt_trichotomy q q' with z | z | z
    · exact absurd a1 (b2 q z)
    · exact z
    · exact absurd b1 (a2 q' z)
  have btt : ∀ {W : VH} {t : Nat → Int32}, (∀ i, i < n → t i = vI V 0 1 i) → (∀ j, vI W 6 1 j = vI V 6 1 j) → ∀ i, i < n → bt (vI W 6 1) i = bt t i := fun {W t} ht hw i hi => by
    unfold bt
    rw [hw, ht i hi, teq i hi]
  have tpj : ∀ {V1 V2 : VH} {q : Nat}, Byt V1 0 0 0 → Fc V1 V2 (mpS q) → vI V2 6 0 1 = 0 → TpJ V2 := fun {V1 V2 q} b k e => ⟨0, b.fc2 k (fun y => absurd y.1 (by decide)), ⟨e, by decide⟩, fun i hi => absurd hi (Nat.not_lt_zero i)⟩
  refine c_problemC hE (by omega) hS by0 tp.2 (fun z => ?_) (fun q hq z1 z2 t ht e he V1 pc bt0 bt1 i9 live => ?_) (fun q hq z1 z2 t ht R hR V1 pc bt0 ps cl i9 live => ?_)
  · exact c_problemM (t := vI V 0 1) hE (by omega) tp.2 tp.1 (btt (fun i hi => rfl) (fun j => rfl)) (fun _ => fin _) (fun q hq a _ => absurd a (z q hq)) (fun q hq a _ => absurd a (z q hq))
  · have r6 : ∀ f, vI V1 6 f = vI V 6 f := fun f => (pc.2.1 6 f (by omega) (by omega)).2.1
    refine c_problemM (t := t) hE (by omega) tp.2 (by rw [r6]; exact tp.1) (btt ht (fun j => by rw [r6])) (fun z => absurd (show vI V1 6 2 q = 0 by rw [r6]; exact z1) (z q hq)) (fun q' hq' a1 a2 e' he' V2 k t1 f4 st u2 => ?_) (fun q' hq' a1 a2 R' hR' => by rw [he] at hR'; exact nomatch hR')
    have : q = q' := same (V := V) z1 z2 (by rw [← r6]; exact a1) (fun u hu => by rw [← r6]; exact a2 u hu)
    subst this
    have : e = e' := by rw [he] at he'; exact Sum.inl.inj he'
    subst this
    refine ⟨rfl, fun w2 => (hS.pr hq pc k (tpj bt0 k t1) ?_ ⟨n, bt1⟩ st ?_ w2).mono hB⟩
    · rw [k.i (fun y => absurd y.1 (by decide)), i9, f4]
    · exact Or.inl ⟨u2, fun _ => by rw [k.i (fun y => by have := y.1; omega)]; exact live⟩
  · have r6 : ∀ f, vI V1 6 f = vI V 6 f := fun f => (pc.2.1 6 f (by omega) (by omega)).2.1
    refine c_problemM (t := t) hE (by omega) tp.2 (by rw [r6]; exact tp.1) (btt ht (fun j => by rw [r6])) (fun z => absurd (show vI V1 6 2 q = 0 by rw [r6]; exact z1) (z q hq)) (fun q' hq' a1 a2 e' he' => by rw [hR] at he'; exact nomatch he') (fun q' hq' a1 a2 R' hR' V2 k t1 f4 st u2 mr => ?_)
    have : q = q' := same (V := V) z1 z2 (by rw [← r6]; exact a1) (fun u hu => by rw [← r6]; exact a2 u hu)
    subst this
    have : R = R' := by
      rw [hR] at hR'
      exact congrArg Prod.snd (Sum.inr.inj hR')
    subst this
    have g6 : ∀ f j, ¬ mpS q (q + 1) f j := fun f j y => by have := y.1; omega
    have e16 : vI V2 (q + 1) 16 = vI V1 (q + 1) 16 := funext fun j => k.i (g6 _ _)
    have cl2 : ClR V2 (q + 1) t n R := cl.ex (by rw [k.l]) (fun f _ => by rw [k.n]) (fun f j _ => k.i (g6 _ _)) (fun j => k.j (g6 _ _))
    rw [← e16] at ps
    refine ⟨rfl, fun w2 => (hS.pr hq pc k (tpj bt0 k t1) ?_ ⟨n, cl.2.1.1⟩ st (Or.inr ⟨t, n, R, vI V2 (q + 1) 16, fcR R, 0, 0, fun _ => 1, PbI.read hq ps cl2 mr ?_ u2 (fun z1 z2 => ?_)⟩) w2).mono hB⟩
    · rw [k.i (fun y => absurd y.1 (by decide)), i9, f4]
    · rw [k.i (g6 _ _), live]; decide
    · exfalso
      obtain ⟨s, c, b1, b2, b3, b4⟩ := hS.2.2.2.2.2.2.1
      have o : ∀ j, j = 62 ∨ j = 63 → vI V2 6 0 j = vI V 6 0 j := fun j hj => by
        rw [k.i (fun y => by rcases y.2 with y | y | y | y; omega; omega; omega; have := y.1; omega), r6]
      have l := b4 q (by omega) (by rw [o 62 (by omega)] at z1; exact z1)
      rw [o 63 (by omega), b2, st, r6, (b1 q (by omega)).1, nI_1] at z2
      have b := (b1 q (by omega)).2
      have := (nI_eq (by omega) (by omega)).mp z2
      omega)
end
