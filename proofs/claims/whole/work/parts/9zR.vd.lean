/-! special tests of the reference: automata, all names -/
section
variable {E : EE} {d : Nat} {p : Nat} {T : Nat → TK} {M : MN} {L nf nv : Nat} {fa se nt : Nat → Int32}
theorem ev_autoN {K : Int64 → VH → Prop} {y : Nat → Int32} {n k1 k2 w : Nat} {q : Nat × List Int32} {V0 : VH} (h0 : 0 < d) (hT : TL T L) (hg : EG T M nf nv fa se) (hn : n ≤ 12) (n1 : 1 ≤ n) (k1L : k1 < L) (k2L : k2 < L) (e : grs T M shS 3 40 (k1 + 1) = .inr (k2, q)) (c58 : (T k2).1 = 58) (hN : Ntd nt w q.2) (hG : ∀ r, r < q.1 → 0 ≤ nt (w + r * 3 + 2)) (hm : EM V0 p T M 0 L fa se) (hr : RW V0 n y) (hk : ∀ V' s, Fc V0 V' s54 → EA V' p k2 → (if 0 ≤ s then s else -1) = (if 0 ≤ arn y (fun r j => nt (w + r * 3 + j)) q.1 n 0 0 then arn y (fun r j => nt (w + r * 3 + j)) q.1 n 0 0 else -1) → vwp E d M_X12_autoValue 168 [some (sl 6 0), some (wi (nI (20000 * p + k1))), some (wi s), some (wi 0), none, none, none, none, none] [] V' (zj K)) : ∀ (m j : Nat) (s : Int32) (V : VH), j + m = n → Fc V0 V s54 → (j = n → EA V p k2) → ((0 ≤ s ∧ arn y (fun r j => nt (w + r * 3 + j)) q.1 m j s = arn y (fun r j => nt (w + r * 3 + j)) q.1 n 0 0) ∨ (¬ 0 ≤ s ∧ ¬ 0 ≤ arn y (fun r j => nt (w + r * 3 + j)) q.1 n 0 0)) → vwp E d M_X12_autoValue 13 [some (sl 6 0), some (wi (nI (20000 * p + k1))), some (wi s), some (wi (nI j)), none, none, none, none, none] [] V (zj K) := by
  intro m
  induction m with
  | zero =>
    intro j s V ej fV ha inv
    have hj : j = n := by omega
    subst hj
    refine w_X12_autoValue_13 ⟨fun _ => hk V s fV (ha rfl) ?_, fun z => absurd (by rw [(hr.fc fV).1]; exact nI_le (Nat.le_refl _) (by omega)) z⟩
    rcases inv with ⟨i1, i2⟩ | ⟨i1, i2⟩
    · rw [arn] at i2; rw [← i2]
    · rw [if_neg i1, if_neg i2]
  | succ m ih =>
    intro j s V ej fV ha inv
    refine w_X12_autoValue_13 ⟨fun z => absurd z (by rw [(hr.fc fV).1]; exact nI_ge (by omega) (by omega)), fun _ V1 v1 => ?_⟩
    have f1 := fV.trans (s54_w v1)
    have a1 : EA V1 p k1 := by show vI V1 6 0 54 = _; rw [v1, wrI_at]
    refine ev_autoG h0 hT hg hn (by omega) k1L 39 k1 k2 w (-1) q V1 e (Or.inr rfl) k1L k2L (Nat.le_refl _) hN (hm.fc (s54_e f1)) a1 (hr.fc f1) (fun V2 f2 a2 l2 => ?_)
    have f3 := f1.trans f2
    have hp := hm.1
    have hb := hm.2.1
    obtain ⟨m1, m2, _⟩ := (hm.fc (s54_e f3)).kd a2 (Nat.zero_le _) k2L
    have ef : afw nt s (y j) q.1 w (-1) = afn (fun r j => nt (w + r * 3 + j)) s (y j) q.1 0 := by
      have := afw_afn (nt := nt) (s := s) (v := y j) (w := w) q.1 0 (fun k _ h => hG k (by omega))
      rw [Nat.zero_mul, Nat.add_zero] at this
      exact this
    refine w_X12_autoValue_29 ⟨m1, fun z => absurd (by rw [m2, c58]; rfl) z, fun _ => ⟨fun _ => ⟨fun z => w_X12_autoValue_159 ?_, fun z => w_X12_autoValue_159 ?_⟩, fun z => ?_⟩⟩
    · rw [nI_1]
      refine ih (j + 1) _ V2 (by omega) f3 (fun _ => a2) ?_
      rcases inv with ⟨i1, i2⟩ | ⟨i1, i2⟩
      · rw [arn] at i2
        rw [ef]
        by_cases c : 0 ≤ afn (fun r j => nt (w + r * 3 + j)) s (y j) q.1 0
        · rw [if_pos c] at i2; exact Or.inl ⟨c, i2⟩
        · rw [if_neg c] at i2; exact Or.inr ⟨c, by rw [← i2]; decide⟩
      · exact absurd z i1
    · rw [nI_1]
      refine ih (j + 1) _ V2 (by omega) f3 (fun _ => a2) ?_
      rcases inv with ⟨i1, i2⟩ | ⟨i1, i2⟩
      · exact absurd i1 z
      · exact Or.inr ⟨by decide, i2⟩
    · exfalso
      rw [show vI V2 6 0 54 = nI (20000 * p + k2) from a2] at z
      have := (nI_eq (by omega) (by omega)).mp z
      omega
end
