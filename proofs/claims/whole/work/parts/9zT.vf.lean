/-! values of the reference: special tests together -/
section
variable {E : EE} {p : Nat} {T : Nat → TK} {M : MN} {L nf nv : Nat} {fa se nt : Nat → Int32}
theorem spH_all (hT : TL T L) (hg : EG T M nf nv fa se) : SpH E p T M L nv fa se nt := by
  intro d i nb j1 N h0 c1 c2 e c41 hi hj hN hnb
  have hc : (T i).1 = 306 ∨ (T i).1 = 307 ∨ (T i).1 = 308 ∨ (T i).1 = 309 ∨ (T i).1 = 310 ∨ (T i).1 = 311 ∨ (T i).1 = 312 := by omega
  rcases hc with c | c | c | c | c | c | c <;> rw [c] at e ⊢
  · obtain ⟨a, b⟩ := sp_all (E := E) (p := p) (d := d) (by omega) hT hg e c41 hi hj hN
    exact ⟨a, fun V K hm ha hk => ⟨fun _ => b V K hm ha hk, fun z => absurd z (by decide), fun z => absurd z (by decide), fun z => absurd z (by decide), fun z => absurd z (by decide), fun z => absurd z (by decide), fun z => absurd z (by decide)⟩⟩
  · obtain ⟨a, b⟩ := sp_rows (E := E) (p := p) (d := d) (by omega) hT hg e c41 hi hj hN
    exact ⟨a, fun V K hm ha hk => ⟨fun z => absurd z (by decide), fun _ => b V K hm ha hk, fun z => absurd z (by decide), fun z => absurd z (by decide), fun z => absurd z (by decide), fun z => absurd z (by decide), fun z => absurd z (by decide)⟩⟩
  · obtain ⟨a, b⟩ := sp_lex (E := E) (p := p) (d := d) (by omega) hT hg e c41 hi hj hN
    exact ⟨a, fun V K hm ha hk => ⟨fun z => absurd z (by decide), fun z => absurd z (by decide), fun _ => b V K hm ha hk, fun z => absurd z (by decide), fun z => absurd z (by decide), fun z => absurd z (by decide), fun z => absurd z (by decide)⟩⟩
  · obtain ⟨a, b⟩ := sp_ring (E := E) (p := p) (d := d) (by omega) hT hg e c41 hi hj hN
    exact ⟨a, fun V K hm ha hk => ⟨fun z => absurd z (by decide), fun z => absurd z (by decide), fun z => absurd z (by decide), fun _ => b V K hm ha hk, fun z => absurd z (by decide), fun z => absurd z (by decide), fun z => absurd z (by decide)⟩⟩
  · obtain ⟨a, b⟩ := sp_auto (E := E) (p := p) (d := d) (by omega) hT hg e c41 hi hj hN
    exact ⟨a, fun V K hm ha hk => ⟨fun z => absurd z (by decide), fun z => absurd z (by decide), fun z => absurd z (by decide), fun z => absurd z (by decide), fun _ => b V K hm ha hk, fun z => absurd z (by decide), fun z => absurd z (by decide)⟩⟩
  · obtain ⟨a, b⟩ := sp_busy (E := E) (p := p) (d := d) (by omega) hT hg e c41 hi hj hN
    exact ⟨a, fun V K hm ha hk => ⟨fun z => absurd z (by decide), fun z => absurd z (by decide), fun z => absurd z (by decide), fun z => absurd z (by decide), fun z => absurd z (by decide), fun _ => b V K hm ha hk, fun z => absurd z (by decide)⟩⟩
  · obtain ⟨a, b⟩ := sp_apart (E := E) (p := p) (d := d) (by omega) hT hg e c41 hi hj hN
    exact ⟨a, fun V K hm ha hk => ⟨fun z => absurd z (by decide), fun z => absurd z (by decide), fun z => absurd z (by decide), fun z => absurd z (by decide), fun z => absurd z (by decide), fun z => absurd z (by decide), fun _ => b V K hm ha hk⟩⟩
end
