/-! one call of both, over the view (by program) -/
def IV (E : EE) (x m : Nat) (J : VH → Prop) : AH → Prop := fun G => ∃ (A : Nat → Nat → Nat) (V : VH), Rp E G A V ∧ A 0 28 = x ∧ A 6 0 = m ∧ J V
theorem Rp.x28 {E : EE} {G G1 : AH} {A A1 : Nat → Nat → Nat} {V V1 : VH} (h : Rp E G A V) (h1 : Rp E G1 A1 V1) (hy : Xt V A V1 A1) : A1 0 28 = A 0 28 ∧ A1 6 0 = A 6 0 := by
  obtain ⟨L, P, rfl, hS⟩ := h
  obtain ⟨L1, P1, rfl, hS1⟩ := h1
  exact ⟨hy.2 0 28 hS.1.1 ((n0_28 hS1).trans (n0_28 hS).symm), hy.2 6 0 hS.1.2.1 ((n6_0 hS1).trans (n6_0 hS).symm)⟩
theorem Rp.m12 {E : EE} {G : AH} {A : Nat → Nat → Nat} {V : VH} (h : Rp E G A V) : isO E G (A 6 0) 12 := by
  obtain ⟨L, P, rfl, hS⟩ := h
  exact hS.o (s6_0 hS)
theorem Rp.x11 {E : EE} {G : AH} {A : Nat → Nat → Nat} {V : VH} (h : Rp E G A V) : isO E G (A 0 28) 11 := by
  obtain ⟨L, P, rfl, hS⟩ := h
  exact hS.o (s0_28 hS)
def VO_type (E : EE) (d : Nat) (J J' : VH → Prop) : Prop := ∀ (V : VH) (a0 : Int64) (a1 : Int32), J V → vMI E d M_X11_type [sl 0 28, wj a0, wi a1] V (fun r V1 => vMI E d M_X12_type [sl 6 0, wj a0, wi a1] V1 (fun r' V2 => r = r' ∧ J' V2))
theorem vo_type {E : EE} {d x m : Nat} {J J' : VH → Prop} (h : VO_type E d J J') : Op_type E d x m (IV E x m J) (IV E x m J') := by
  intro G a0 a1 hI
  obtain ⟨A, V, hR, rfl, rfl, hJ⟩ := hI
  refine wpM.mono (h V a0 a1 hJ G A hR) (fun rr G1 hr => ?_)
  obtain ⟨A1, V1, w, hR1, hy, rfl, r, rfl, h2⟩ := hr
  have e := hR.x28 hR1 hy
  refine ⟨r, rfl, by rw [← e.2]; exact hR1.m12, ?_⟩
  rw [← e.2]
  refine wpM.mono (h2 G1 A1 hR1) (fun rr G2 hr => ?_)
  obtain ⟨A2, V2, w, hR2, hy2, rfl, r', rfl, hrr, hJ2⟩ := hr
  have e2 := hR1.x28 hR2 hy2
  exact ⟨r', rfl, hrr, A2, V2, hR2, e2.1.trans e.1, e2.2, hJ2⟩
def VO_cut (E : EE) (d : Nat) (J J' : VH → Prop) : Prop := ∀ (V : VH) (a0 : Int32), J V → vMI E d M_X11_cut [sl 0 28, wi a0] V (fun r V1 => vMI E d M_X12_cut [sl 6 0, wi a0] V1 (fun r' V2 => r = r' ∧ J' V2))
theorem vo_cut {E : EE} {d x m : Nat} {J J' : VH → Prop} (h : VO_cut E d J J') : Op_cut E d x m (IV E x m J) (IV E x m J') := by
  intro G a0 hI
  obtain ⟨A, V, hR, rfl, rfl, hJ⟩ := hI
  refine wpM.mono (h V a0 hJ G A hR) (fun rr G1 hr => ?_)
  obtain ⟨A1, V1, w, hR1, hy, rfl, r, rfl, h2⟩ := hr
  have e := hR.x28 hR1 hy
  refine ⟨r, rfl, by rw [← e.2]; exact hR1.m12, ?_⟩
  rw [← e.2]
  refine wpM.mono (h2 G1 A1 hR1) (fun rr G2 hr => ?_)
  obtain ⟨A2, V2, w, hR2, hy2, rfl, r', rfl, hrr, hJ2⟩ := hr
  have e2 := hR1.x28 hR2 hy2
  exact ⟨r', rfl, hrr, A2, V2, hR2, e2.1.trans e.1, e2.2, hJ2⟩
def VO_spoil (E : EE) (d : Nat) (J J' : VH → Prop) : Prop := ∀ (V : VH) (a0 : Int32) (a1 : Int32), J V → vMI E d M_X11_spoil [sl 0 28, wi a0, wi a1] V (fun r V1 => vMI E d M_X12_spoil [sl 6 0, wi a0, wi a1] V1 (fun r' V2 => r = r' ∧ J' V2))
theorem vo_spoil {E : EE} {d x m : Nat} {J J' : VH → Prop} (h : VO_spoil E d J J') : Op_spoil E d x m (IV E x m J) (IV E x m J') := by
  intro G a0 a1 hI
  obtain ⟨A, V, hR, rfl, rfl, hJ⟩ := hI
  refine wpM.mono (h V a0 a1 hJ G A hR) (fun rr G1 hr => ?_)
  obtain ⟨A1, V1, w, hR1, hy, rfl, r, rfl, h2⟩ := hr
  have e := hR.x28 hR1 hy
  refine ⟨r, rfl, by rw [← e.2]; exact hR1.m12, ?_⟩
  rw [← e.2]
  refine wpM.mono (h2 G1 A1 hR1) (fun rr G2 hr => ?_)
  obtain ⟨A2, V2, w, hR2, hy2, rfl, r', rfl, hrr, hJ2⟩ := hr
  have e2 := hR1.x28 hR2 hy2
  exact ⟨r', rfl, hrr, A2, V2, hR2, e2.1.trans e.1, e2.2, hJ2⟩
def VO_tapeAt (E : EE) (d : Nat) (J J' : VH → Prop) : Prop := ∀ (V : VH) (a0 : Int32), J V → vMI E d M_X11_tapeAt [sl 0 28, wi a0] V (fun r V1 => vMI E d M_X12_tapeAt [sl 6 0, wi a0] V1 (fun r' V2 => r = r' ∧ J' V2))
theorem vo_tapeAt {E : EE} {d x m : Nat} {J J' : VH → Prop} (h : VO_tapeAt E d J J') : Op_tapeAt E d x m (IV E x m J) (IV E x m J') := by
  intro G a0 hI
  obtain ⟨A, V, hR, rfl, rfl, hJ⟩ := hI
  refine wpM.mono (h V a0 hJ G A hR) (fun rr G1 hr => ?_)
  obtain ⟨A1, V1, w, hR1, hy, rfl, r, rfl, h2⟩ := hr
  have e := hR.x28 hR1 hy
  refine ⟨r, rfl, by rw [← e.2]; exact hR1.m12, ?_⟩
  rw [← e.2]
  refine wpM.mono (h2 G1 A1 hR1) (fun rr G2 hr => ?_)
  obtain ⟨A2, V2, w, hR2, hy2, rfl, r', rfl, hrr, hJ2⟩ := hr
  have e2 := hR1.x28 hR2 hy2
  exact ⟨r', rfl, hrr, A2, V2, hR2, e2.1.trans e.1, e2.2, hJ2⟩
def VO_problem (E : EE) (d : Nat) (J J' : VH → Prop) : Prop := ∀ (V : VH) , J V → vMI E d M_X11_problem [sl 0 28] V (fun r V1 => vMI E d M_X12_problem [sl 6 0] V1 (fun r' V2 => r = r' ∧ J' V2))
theorem vo_problem {E : EE} {d x m : Nat} {J J' : VH → Prop} (h : VO_problem E d J J') : Op_problem E d x m (IV E x m J) (IV E x m J') := by
  intro G  hI
  obtain ⟨A, V, hR, rfl, rfl, hJ⟩ := hI
  refine wpM.mono (h V  hJ G A hR) (fun rr G1 hr => ?_)
  obtain ⟨A1, V1, w, hR1, hy, rfl, r, rfl, h2⟩ := hr
  have e := hR.x28 hR1 hy
  refine ⟨r, rfl, by rw [← e.2]; exact hR1.m12, ?_⟩
  rw [← e.2]
  refine wpM.mono (h2 G1 A1 hR1) (fun rr G2 hr => ?_)
  obtain ⟨A2, V2, w, hR2, hy2, rfl, r', rfl, hrr, hJ2⟩ := hr
  have e2 := hR1.x28 hR2 hy2
  exact ⟨r', rfl, hrr, A2, V2, hR2, e2.1.trans e.1, e2.2, hJ2⟩
def VO_fault (E : EE) (d : Nat) (J J' : VH → Prop) : Prop := ∀ (V : VH) , J V → vMI E d M_X11_fault [sl 0 28] V (fun r V1 => vMI E d M_X12_fault [sl 6 0] V1 (fun r' V2 => r = r' ∧ J' V2))
theorem vo_fault {E : EE} {d x m : Nat} {J J' : VH → Prop} (h : VO_fault E d J J') : Op_fault E d x m (IV E x m J) (IV E x m J') := by
  intro G  hI
  obtain ⟨A, V, hR, rfl, rfl, hJ⟩ := hI
  refine wpM.mono (h V  hJ G A hR) (fun rr G1 hr => ?_)
  obtain ⟨A1, V1, w, hR1, hy, rfl, r, rfl, h2⟩ := hr
  have e := hR.x28 hR1 hy
  refine ⟨r, rfl, by rw [← e.2]; exact hR1.m12, ?_⟩
  rw [← e.2]
  refine wpM.mono (h2 G1 A1 hR1) (fun rr G2 hr => ?_)
  obtain ⟨A2, V2, w, hR2, hy2, rfl, r', rfl, hrr, hJ2⟩ := hr
  have e2 := hR1.x28 hR2 hy2
  exact ⟨r', rfl, hrr, A2, V2, hR2, e2.1.trans e.1, e2.2, hJ2⟩
def VO_drop (E : EE) (d : Nat) (J J' : VH → Prop) : Prop := ∀ (V : VH) (a0 : Int32), J V → vMI E d M_X11_drop [sl 0 28, wi a0] V (fun r V1 => vMI E d M_X12_drop [sl 6 0, wi a0] V1 (fun r' V2 => r = r' ∧ J' V2))
theorem vo_drop {E : EE} {d x m : Nat} {J J' : VH → Prop} (h : VO_drop E d J J') : Op_drop E d x m (IV E x m J) (IV E x m J') := by
  intro G a0 hI
  obtain ⟨A, V, hR, rfl, rfl, hJ⟩ := hI
  refine wpM.mono (h V a0 hJ G A hR) (fun rr G1 hr => ?_)
  obtain ⟨A1, V1, w, hR1, hy, rfl, r, rfl, h2⟩ := hr
  have e := hR.x28 hR1 hy
  refine ⟨r, rfl, by rw [← e.2]; exact hR1.m12, ?_⟩
  rw [← e.2]
  refine wpM.mono (h2 G1 A1 hR1) (fun rr G2 hr => ?_)
  obtain ⟨A2, V2, w, hR2, hy2, rfl, r', rfl, hrr, hJ2⟩ := hr
  have e2 := hR1.x28 hR2 hy2
  exact ⟨r', rfl, hrr, A2, V2, hR2, e2.1.trans e.1, e2.2, hJ2⟩
def VO_count (E : EE) (d : Nat) (J J' : VH → Prop) : Prop := ∀ (V : VH) (a0 : Int32) (a1 : Int32), J V → vMI E d M_X11_count [sl 0 28, wi a0, wi a1] V (fun r V1 => vMI E d M_X12_count [sl 6 0, wi a0, wi a1] V1 (fun r' V2 => r = r' ∧ J' V2))
theorem vo_count {E : EE} {d x m : Nat} {J J' : VH → Prop} (h : VO_count E d J J') : Op_count E d x m (IV E x m J) (IV E x m J') := by
  intro G a0 a1 hI
  obtain ⟨A, V, hR, rfl, rfl, hJ⟩ := hI
  refine wpM.mono (h V a0 a1 hJ G A hR) (fun rr G1 hr => ?_)
  obtain ⟨A1, V1, w, hR1, hy, rfl, r, rfl, h2⟩ := hr
  have e := hR.x28 hR1 hy
  refine ⟨r, rfl, by rw [← e.2]; exact hR1.m12, ?_⟩
  rw [← e.2]
  refine wpM.mono (h2 G1 A1 hR1) (fun rr G2 hr => ?_)
  obtain ⟨A2, V2, w, hR2, hy2, rfl, r', rfl, hrr, hJ2⟩ := hr
  have e2 := hR1.x28 hR2 hy2
  exact ⟨r', rfl, hrr, A2, V2, hR2, e2.1.trans e.1, e2.2, hJ2⟩
def VO_find (E : EE) (d : Nat) (J J' : VH → Prop) : Prop := ∀ (V : VH) (a0 : Int32), J V → vMI E d M_X11_find [sl 0 28, wi a0] V (fun r V1 => vMI E d M_X12_find [sl 6 0, wi a0] V1 (fun r' V2 => r = r' ∧ J' V2))
theorem vo_find {E : EE} {d x m : Nat} {J J' : VH → Prop} (h : VO_find E d J J') : Op_find E d x m (IV E x m J) (IV E x m J') := by
  intro G a0 hI
  obtain ⟨A, V, hR, rfl, rfl, hJ⟩ := hI
  refine wpM.mono (h V a0 hJ G A hR) (fun rr G1 hr => ?_)
  obtain ⟨A1, V1, w, hR1, hy, rfl, r, rfl, h2⟩ := hr
  have e := hR.x28 hR1 hy
  refine ⟨r, rfl, by rw [← e.2]; exact hR1.m12, ?_⟩
  rw [← e.2]
  refine wpM.mono (h2 G1 A1 hR1) (fun rr G2 hr => ?_)
  obtain ⟨A2, V2, w, hR2, hy2, rfl, r', rfl, hrr, hJ2⟩ := hr
  have e2 := hR1.x28 hR2 hy2
  exact ⟨r', rfl, hrr, A2, V2, hR2, e2.1.trans e.1, e2.2, hJ2⟩
def VO_letter (E : EE) (d : Nat) (J J' : VH → Prop) : Prop := ∀ (V : VH) (a0 : Int32) (a1 : Int32) (a2 : Int32) (a3 : Int32), J V → vMI E d M_X11_letter [sl 0 28, wi a0, wi a1, wi a2, wi a3] V (fun r V1 => vMI E d M_X12_letter [sl 6 0, wi a0, wi a1, wi a2, wi a3] V1 (fun r' V2 => r = r' ∧ J' V2))
theorem vo_letter {E : EE} {d x m : Nat} {J J' : VH → Prop} (h : VO_letter E d J J') : Op_letter E d x m (IV E x m J) (IV E x m J') := by
  intro G a0 a1 a2 a3 hI
  obtain ⟨A, V, hR, rfl, rfl, hJ⟩ := hI
  refine wpM.mono (h V a0 a1 a2 a3 hJ G A hR) (fun rr G1 hr => ?_)
  obtain ⟨A1, V1, w, hR1, hy, rfl, r, rfl, h2⟩ := hr
  have e := hR.x28 hR1 hy
  refine ⟨r, rfl, by rw [← e.2]; exact hR1.m12, ?_⟩
  rw [← e.2]
  refine wpM.mono (h2 G1 A1 hR1) (fun rr G2 hr => ?_)
  obtain ⟨A2, V2, w, hR2, hy2, rfl, r', rfl, hrr, hJ2⟩ := hr
  have e2 := hR1.x28 hR2 hy2
  exact ⟨r', rfl, hrr, A2, V2, hR2, e2.1.trans e.1, e2.2, hJ2⟩
def VO_shown (E : EE) (d : Nat) (J J' : VH → Prop) : Prop := ∀ (V : VH) (a0 : Int32) (a1 : Int32) (a2 : Int32), J V → vMI E d M_X11_shown [sl 0 28, wi a0, wi a1, wi a2] V (fun r V1 => vMI E d M_X12_shown [sl 6 0, wi a0, wi a1, wi a2] V1 (fun r' V2 => r = r' ∧ J' V2))
theorem vo_shown {E : EE} {d x m : Nat} {J J' : VH → Prop} (h : VO_shown E d J J') : Op_shown E d x m (IV E x m J) (IV E x m J') := by
  intro G a0 a1 a2 hI
  obtain ⟨A, V, hR, rfl, rfl, hJ⟩ := hI
  refine wpM.mono (h V a0 a1 a2 hJ G A hR) (fun rr G1 hr => ?_)
  obtain ⟨A1, V1, w, hR1, hy, rfl, r, rfl, h2⟩ := hr
  have e := hR.x28 hR1 hy
  refine ⟨r, rfl, by rw [← e.2]; exact hR1.m12, ?_⟩
  rw [← e.2]
  refine wpM.mono (h2 G1 A1 hR1) (fun rr G2 hr => ?_)
  obtain ⟨A2, V2, w, hR2, hy2, rfl, r', rfl, hrr, hJ2⟩ := hr
  have e2 := hR1.x28 hR2 hy2
  exact ⟨r', rfl, hrr, A2, V2, hR2, e2.1.trans e.1, e2.2, hJ2⟩
def VO_range (E : EE) (d : Nat) (J J' : VH → Prop) : Prop := ∀ (V : VH) (a0 : Int32) (a1 : Int32) (a2 : Int32), J V → vMJ E d M_X11_range [sl 0 28, wi a0, wi a1, wi a2] V (fun r V1 => vMJ E d M_X12_range [sl 6 0, wi a0, wi a1, wi a2] V1 (fun r' V2 => r = r' ∧ J' V2))
theorem vo_range {E : EE} {d x m : Nat} {J J' : VH → Prop} (h : VO_range E d J J') : Op_range E d x m (IV E x m J) (IV E x m J') := by
  intro G a0 a1 a2 hI
  obtain ⟨A, V, hR, rfl, rfl, hJ⟩ := hI
  refine wpM.mono (h V a0 a1 a2 hJ G A hR) (fun rr G1 hr => ?_)
  obtain ⟨A1, V1, w, hR1, hy, rfl, r, rfl, h2⟩ := hr
  have e := hR.x28 hR1 hy
  refine ⟨r, rfl, by rw [← e.2]; exact hR1.m12, ?_⟩
  rw [← e.2]
  refine wpM.mono (h2 G1 A1 hR1) (fun rr G2 hr => ?_)
  obtain ⟨A2, V2, w, hR2, hy2, rfl, r', rfl, hrr, hJ2⟩ := hr
  have e2 := hR1.x28 hR2 hy2
  exact ⟨r', rfl, hrr, A2, V2, hR2, e2.1.trans e.1, e2.2, hJ2⟩
def VO_rule (E : EE) (d : Nat) (J J' : VH → Prop) : Prop := ∀ (V : VH) (a0 : Int32) (a1 : Int32) (a2 : Int32), J V → vMI E d M_X11_rule [sl 0 28, wi a0, wi a1, wi a2] V (fun r V1 => vMI E d M_X12_rule [sl 6 0, wi a0, wi a1, wi a2] V1 (fun r' V2 => r = r' ∧ J' V2))
theorem vo_rule {E : EE} {d x m : Nat} {J J' : VH → Prop} (h : VO_rule E d J J') : Op_rule E d x m (IV E x m J) (IV E x m J') := by
  intro G a0 a1 a2 hI
  obtain ⟨A, V, hR, rfl, rfl, hJ⟩ := hI
  refine wpM.mono (h V a0 a1 a2 hJ G A hR) (fun rr G1 hr => ?_)
  obtain ⟨A1, V1, w, hR1, hy, rfl, r, rfl, h2⟩ := hr
  have e := hR.x28 hR1 hy
  refine ⟨r, rfl, by rw [← e.2]; exact hR1.m12, ?_⟩
  rw [← e.2]
  refine wpM.mono (h2 G1 A1 hR1) (fun rr G2 hr => ?_)
  obtain ⟨A2, V2, w, hR2, hy2, rfl, r', rfl, hrr, hJ2⟩ := hr
  have e2 := hR1.x28 hR2 hy2
  exact ⟨r', rfl, hrr, A2, V2, hR2, e2.1.trans e.1, e2.2, hJ2⟩
def VO_fact (E : EE) (d : Nat) (J J' : VH → Prop) : Prop := ∀ (V : VH) (a0 : Int32) (a1 : Int32), J V → vMJ E d M_X11_fact [sl 0 28, wi a0, wi a1] V (fun r V1 => vMJ E d M_X12_fact [sl 6 0, wi a0, wi a1] V1 (fun r' V2 => r = r' ∧ J' V2))
theorem vo_fact {E : EE} {d x m : Nat} {J J' : VH → Prop} (h : VO_fact E d J J') : Op_fact E d x m (IV E x m J) (IV E x m J') := by
  intro G a0 a1 hI
  obtain ⟨A, V, hR, rfl, rfl, hJ⟩ := hI
  refine wpM.mono (h V a0 a1 hJ G A hR) (fun rr G1 hr => ?_)
  obtain ⟨A1, V1, w, hR1, hy, rfl, r, rfl, h2⟩ := hr
  have e := hR.x28 hR1 hy
  refine ⟨r, rfl, by rw [← e.2]; exact hR1.m12, ?_⟩
  rw [← e.2]
  refine wpM.mono (h2 G1 A1 hR1) (fun rr G2 hr => ?_)
  obtain ⟨A2, V2, w, hR2, hy2, rfl, r', rfl, hrr, hJ2⟩ := hr
  have e2 := hR1.x28 hR2 hy2
  exact ⟨r', rfl, hrr, A2, V2, hR2, e2.1.trans e.1, e2.2, hJ2⟩
def VO_change (E : EE) (d : Nat) (J J' : VH → Prop) : Prop := ∀ (V : VH) (a0 : Int32) (a1 : Int32) (a2 : Int32), J V → vMI E d M_X11_change [sl 0 28, wi a0, wi a1, wi a2] V (fun r V1 => vMI E d M_X12_change [sl 6 0, wi a0, wi a1, wi a2] V1 (fun r' V2 => r = r' ∧ J' V2))
theorem vo_change {E : EE} {d x m : Nat} {J J' : VH → Prop} (h : VO_change E d J J') : Op_change E d x m (IV E x m J) (IV E x m J') := by
  intro G a0 a1 a2 hI
  obtain ⟨A, V, hR, rfl, rfl, hJ⟩ := hI
  refine wpM.mono (h V a0 a1 a2 hJ G A hR) (fun rr G1 hr => ?_)
  obtain ⟨A1, V1, w, hR1, hy, rfl, r, rfl, h2⟩ := hr
  have e := hR.x28 hR1 hy
  refine ⟨r, rfl, by rw [← e.2]; exact hR1.m12, ?_⟩
  rw [← e.2]
  refine wpM.mono (h2 G1 A1 hR1) (fun rr G2 hr => ?_)
  obtain ⟨A2, V2, w, hR2, hy2, rfl, r', rfl, hrr, hJ2⟩ := hr
  have e2 := hR1.x28 hR2 hy2
  exact ⟨r', rfl, hrr, A2, V2, hR2, e2.1.trans e.1, e2.2, hJ2⟩
def VO_value (E : EE) (d : Nat) (J J' : VH → Prop) : Prop := ∀ (V : VH) (a0 : Int32) (a1 : Int32), J V → vMJ E d M_X11_value [sl 0 28, wi a0, wi a1] V (fun r V1 => vMJ E d M_X12_value [sl 6 0, wi a0, wi a1] V1 (fun r' V2 => r = r' ∧ J' V2))
theorem vo_value {E : EE} {d x m : Nat} {J J' : VH → Prop} (h : VO_value E d J J') : Op_value E d x m (IV E x m J) (IV E x m J') := by
  intro G a0 a1 hI
  obtain ⟨A, V, hR, rfl, rfl, hJ⟩ := hI
  refine wpM.mono (h V a0 a1 hJ G A hR) (fun rr G1 hr => ?_)
  obtain ⟨A1, V1, w, hR1, hy, rfl, r, rfl, h2⟩ := hr
  have e := hR.x28 hR1 hy
  refine ⟨r, rfl, by rw [← e.2]; exact hR1.m12, ?_⟩
  rw [← e.2]
  refine wpM.mono (h2 G1 A1 hR1) (fun rr G2 hr => ?_)
  obtain ⟨A2, V2, w, hR2, hy2, rfl, r', rfl, hrr, hJ2⟩ := hr
  have e2 := hR1.x28 hR2 hy2
  exact ⟨r', rfl, hrr, A2, V2, hR2, e2.1.trans e.1, e2.2, hJ2⟩
def VO_put (E : EE) (d : Nat) (J J' : VH → Prop) : Prop := ∀ (V : VH) (a0 : Int32) (a1 : Int32) (a2 : Int32), J V → vMI E d M_X11_put [sl 0 28, wi a0, wi a1, wi a2] V (fun r V1 => vMI E d M_X12_put [sl 6 0, wi a0, wi a1, wi a2] V1 (fun r' V2 => r = r' ∧ J' V2))
theorem vo_put {E : EE} {d x m : Nat} {J J' : VH → Prop} (h : VO_put E d J J') : Op_put E d x m (IV E x m J) (IV E x m J') := by
  intro G a0 a1 a2 hI
  obtain ⟨A, V, hR, rfl, rfl, hJ⟩ := hI
  refine wpM.mono (h V a0 a1 a2 hJ G A hR) (fun rr G1 hr => ?_)
  obtain ⟨A1, V1, w, hR1, hy, rfl, r, rfl, h2⟩ := hr
  have e := hR.x28 hR1 hy
  refine ⟨r, rfl, by rw [← e.2]; exact hR1.m12, ?_⟩
  rw [← e.2]
  refine wpM.mono (h2 G1 A1 hR1) (fun rr G2 hr => ?_)
  obtain ⟨A2, V2, w, hR2, hy2, rfl, r', rfl, hrr, hJ2⟩ := hr
  have e2 := hR1.x28 hR2 hy2
  exact ⟨r', rfl, hrr, A2, V2, hR2, e2.1.trans e.1, e2.2, hJ2⟩
def VO_pin (E : EE) (d : Nat) (J J' : VH → Prop) : Prop := ∀ (V : VH) (a0 : Int32) (a1 : Int32) (a2 : Int32), J V → (a2 = 0 ∨ a2 = 1) → vMI E d M_X11_pin [sl 0 28, wi a0, wi a1, wi a2] V (fun r V1 => vMI E d M_X12_pin [sl 6 0, wi a0, wi a1, wi a2] V1 (fun r' V2 => r = r' ∧ J' V2))
theorem vo_pin {E : EE} {d x m : Nat} {J J' : VH → Prop} (h : VO_pin E d J J') : Op_pin E d x m (IV E x m J) (IV E x m J') := by
  intro G a0 a1 a2 hI hb
  obtain ⟨A, V, hR, rfl, rfl, hJ⟩ := hI
  refine wpM.mono (h V a0 a1 a2 hJ hb G A hR) (fun rr G1 hr => ?_)
  obtain ⟨A1, V1, w, hR1, hy, rfl, r, rfl, h2⟩ := hr
  have e := hR.x28 hR1 hy
  refine ⟨r, rfl, by rw [← e.2]; exact hR1.m12, ?_⟩
  rw [← e.2]
  refine wpM.mono (h2 G1 A1 hR1) (fun rr G2 hr => ?_)
  obtain ⟨A2, V2, w, hR2, hy2, rfl, r', rfl, hrr, hJ2⟩ := hr
  have e2 := hR1.x28 hR2 hy2
  exact ⟨r', rfl, hrr, A2, V2, hR2, e2.1.trans e.1, e2.2, hJ2⟩
def VO_weigh (E : EE) (d : Nat) (J J' : VH → Prop) : Prop := ∀ (V : VH) (a0 : Int32) (a1 : Int32) (a2 : Int32), J V → vMI E d M_X11_weigh [sl 0 28, wi a0, wi a1, wi a2] V (fun r V1 => vMI E d M_X12_weigh [sl 6 0, wi a0, wi a1, wi a2] V1 (fun r' V2 => r = r' ∧ J' V2))
theorem vo_weigh {E : EE} {d x m : Nat} {J J' : VH → Prop} (h : VO_weigh E d J J') : Op_weigh E d x m (IV E x m J) (IV E x m J') := by
  intro G a0 a1 a2 hI
  obtain ⟨A, V, hR, rfl, rfl, hJ⟩ := hI
  refine wpM.mono (h V a0 a1 a2 hJ G A hR) (fun rr G1 hr => ?_)
  obtain ⟨A1, V1, w, hR1, hy, rfl, r, rfl, h2⟩ := hr
  have e := hR.x28 hR1 hy
  refine ⟨r, rfl, by rw [← e.2]; exact hR1.m12, ?_⟩
  rw [← e.2]
  refine wpM.mono (h2 G1 A1 hR1) (fun rr G2 hr => ?_)
  obtain ⟨A2, V2, w, hR2, hy2, rfl, r', rfl, hrr, hJ2⟩ := hr
  have e2 := hR1.x28 hR2 hy2
  exact ⟨r', rfl, hrr, A2, V2, hR2, e2.1.trans e.1, e2.2, hJ2⟩
def VO_broken (E : EE) (d : Nat) (J J' : VH → Prop) : Prop := ∀ (V : VH) (a0 : Int32) (a1 : Int32), J V → vMI E d M_X11_broken [sl 0 28, wi a0, wi a1] V (fun r V1 => vMI E d M_X12_broken [sl 6 0, wi a0, wi a1] V1 (fun r' V2 => r = r' ∧ J' V2))
theorem vo_broken {E : EE} {d x m : Nat} {J J' : VH → Prop} (h : VO_broken E d J J') : Op_broken E d x m (IV E x m J) (IV E x m J') := by
  intro G a0 a1 hI
  obtain ⟨A, V, hR, rfl, rfl, hJ⟩ := hI
  refine wpM.mono (h V a0 a1 hJ G A hR) (fun rr G1 hr => ?_)
  obtain ⟨A1, V1, w, hR1, hy, rfl, r, rfl, h2⟩ := hr
  have e := hR.x28 hR1 hy
  refine ⟨r, rfl, by rw [← e.2]; exact hR1.m12, ?_⟩
  rw [← e.2]
  refine wpM.mono (h2 G1 A1 hR1) (fun rr G2 hr => ?_)
  obtain ⟨A2, V2, w, hR2, hy2, rfl, r', rfl, hrr, hJ2⟩ := hr
  have e2 := hR1.x28 hR2 hy2
  exact ⟨r', rfl, hrr, A2, V2, hR2, e2.1.trans e.1, e2.2, hJ2⟩
def VO_aim (E : EE) (d : Nat) (J J' : VH → Prop) : Prop := ∀ (V : VH) (a0 : Int32) (a1 : Int32), J V → vMJ E d M_X11_aim [sl 0 28, wi a0, wi a1] V (fun r V1 => vMJ E d M_X12_aim [sl 6 0, wi a0, wi a1] V1 (fun r' V2 => r = r' ∧ J' V2))
theorem vo_aim {E : EE} {d x m : Nat} {J J' : VH → Prop} (h : VO_aim E d J J') : Op_aim E d x m (IV E x m J) (IV E x m J') := by
  intro G a0 a1 hI
  obtain ⟨A, V, hR, rfl, rfl, hJ⟩ := hI
  refine wpM.mono (h V a0 a1 hJ G A hR) (fun rr G1 hr => ?_)
  obtain ⟨A1, V1, w, hR1, hy, rfl, r, rfl, h2⟩ := hr
  have e := hR.x28 hR1 hy
  refine ⟨r, rfl, by rw [← e.2]; exact hR1.m12, ?_⟩
  rw [← e.2]
  refine wpM.mono (h2 G1 A1 hR1) (fun rr G2 hr => ?_)
  obtain ⟨A2, V2, w, hR2, hy2, rfl, r', rfl, hrr, hJ2⟩ := hr
  have e2 := hR1.x28 hR2 hy2
  exact ⟨r', rfl, hrr, A2, V2, hR2, e2.1.trans e.1, e2.2, hJ2⟩
def VO_score (E : EE) (d : Nat) (J J' : VH → Prop) : Prop := ∀ (V : VH) (a0 : Int32) (a1 : Int32), J V → vMJ E d M_X11_score [sl 0 28, wi a0, wi a1] V (fun r V1 => vMJ E d M_X12_score [sl 6 0, wi a0, wi a1] V1 (fun r' V2 => r = r' ∧ J' V2))
theorem vo_score {E : EE} {d x m : Nat} {J J' : VH → Prop} (h : VO_score E d J J') : Op_score E d x m (IV E x m J) (IV E x m J') := by
  intro G a0 a1 hI
  obtain ⟨A, V, hR, rfl, rfl, hJ⟩ := hI
  refine wpM.mono (h V a0 a1 hJ G A hR) (fun rr G1 hr => ?_)
  obtain ⟨A1, V1, w, hR1, hy, rfl, r, rfl, h2⟩ := hr
  have e := hR.x28 hR1 hy
  refine ⟨r, rfl, by rw [← e.2]; exact hR1.m12, ?_⟩
  rw [← e.2]
  refine wpM.mono (h2 G1 A1 hR1) (fun rr G2 hr => ?_)
  obtain ⟨A2, V2, w, hR2, hy2, rfl, r', rfl, hrr, hJ2⟩ := hr
  have e2 := hR1.x28 hR2 hy2
  exact ⟨r', rfl, hrr, A2, V2, hR2, e2.1.trans e.1, e2.2, hJ2⟩
def VO_feasible (E : EE) (d : Nat) (J J' : VH → Prop) : Prop := ∀ (V : VH) (a0 : Int32), J V → vMI E d M_X11_feasible [sl 0 28, wi a0] V (fun r V1 => vMI E d M_X12_feasible [sl 6 0, wi a0] V1 (fun r' V2 => r = r' ∧ J' V2))
theorem vo_feasible {E : EE} {d x m : Nat} {J J' : VH → Prop} (h : VO_feasible E d J J') : Op_feasible E d x m (IV E x m J) (IV E x m J') := by
  intro G a0 hI
  obtain ⟨A, V, hR, rfl, rfl, hJ⟩ := hI
  refine wpM.mono (h V a0 hJ G A hR) (fun rr G1 hr => ?_)
  obtain ⟨A1, V1, w, hR1, hy, rfl, r, rfl, h2⟩ := hr
  have e := hR.x28 hR1 hy
  refine ⟨r, rfl, by rw [← e.2]; exact hR1.m12, ?_⟩
  rw [← e.2]
  refine wpM.mono (h2 G1 A1 hR1) (fun rr G2 hr => ?_)
  obtain ⟨A2, V2, w, hR2, hy2, rfl, r', rfl, hrr, hJ2⟩ := hr
  have e2 := hR1.x28 hR2 hy2
  exact ⟨r', rfl, hrr, A2, V2, hR2, e2.1.trans e.1, e2.2, hJ2⟩
def VO_reach (E : EE) (d : Nat) (J J' : VH → Prop) : Prop := ∀ (V : VH) (a0 : Int32), J V → vMI E d M_X11_reach [sl 0 28, wi a0] V (fun r V1 => vMI E d M_X12_reach [sl 6 0, wi a0] V1 (fun r' V2 => r = r' ∧ J' V2))
theorem vo_reach {E : EE} {d x m : Nat} {J J' : VH → Prop} (h : VO_reach E d J J') : Op_reach E d x m (IV E x m J) (IV E x m J') := by
  intro G a0 hI
  obtain ⟨A, V, hR, rfl, rfl, hJ⟩ := hI
  refine wpM.mono (h V a0 hJ G A hR) (fun rr G1 hr => ?_)
  obtain ⟨A1, V1, w, hR1, hy, rfl, r, rfl, h2⟩ := hr
  have e := hR.x28 hR1 hy
  refine ⟨r, rfl, by rw [← e.2]; exact hR1.m12, ?_⟩
  rw [← e.2]
  refine wpM.mono (h2 G1 A1 hR1) (fun rr G2 hr => ?_)
  obtain ⟨A2, V2, w, hR2, hy2, rfl, r', rfl, hrr, hJ2⟩ := hr
  have e2 := hR1.x28 hR2 hy2
  exact ⟨r', rfl, hrr, A2, V2, hR2, e2.1.trans e.1, e2.2, hJ2⟩
def VO_isLeft (E : EE) (d : Nat) (J J' : VH → Prop) : Prop := ∀ (V : VH) (a0 : Int32) (a1 : Int32) (a2 : Int32), J V → vMI E d M_X11_isLeft [sl 0 28, wi a0, wi a1, wi a2] V (fun r V1 => vMI E d M_X12_isLeft [sl 6 0, wi a0, wi a1, wi a2] V1 (fun r' V2 => r = r' ∧ J' V2))
theorem vo_isLeft {E : EE} {d x m : Nat} {J J' : VH → Prop} (h : VO_isLeft E d J J') : Op_isLeft E d x m (IV E x m J) (IV E x m J') := by
  intro G a0 a1 a2 hI
  obtain ⟨A, V, hR, rfl, rfl, hJ⟩ := hI
  refine wpM.mono (h V a0 a1 a2 hJ G A hR) (fun rr G1 hr => ?_)
  obtain ⟨A1, V1, w, hR1, hy, rfl, r, rfl, h2⟩ := hr
  have e := hR.x28 hR1 hy
  refine ⟨r, rfl, by rw [← e.2]; exact hR1.m12, ?_⟩
  rw [← e.2]
  refine wpM.mono (h2 G1 A1 hR1) (fun rr G2 hr => ?_)
  obtain ⟨A2, V2, w, hR2, hy2, rfl, r', rfl, hrr, hJ2⟩ := hr
  have e2 := hR1.x28 hR2 hy2
  exact ⟨r', rfl, hrr, A2, V2, hR2, e2.1.trans e.1, e2.2, hJ2⟩
def VO_hopeless (E : EE) (d : Nat) (J J' : VH → Prop) : Prop := ∀ (V : VH) (a0 : Int32), J V → vMI E d M_X11_hopeless [sl 0 28, wi a0] V (fun r V1 => vMI E d M_X12_hopeless [sl 6 0, wi a0] V1 (fun r' V2 => r = r' ∧ J' V2))
theorem vo_hopeless {E : EE} {d x m : Nat} {J J' : VH → Prop} (h : VO_hopeless E d J J') : Op_hopeless E d x m (IV E x m J) (IV E x m J') := by
  intro G a0 hI
  obtain ⟨A, V, hR, rfl, rfl, hJ⟩ := hI
  refine wpM.mono (h V a0 hJ G A hR) (fun rr G1 hr => ?_)
  obtain ⟨A1, V1, w, hR1, hy, rfl, r, rfl, h2⟩ := hr
  have e := hR.x28 hR1 hy
  refine ⟨r, rfl, by rw [← e.2]; exact hR1.m12, ?_⟩
  rw [← e.2]
  refine wpM.mono (h2 G1 A1 hR1) (fun rr G2 hr => ?_)
  obtain ⟨A2, V2, w, hR2, hy2, rfl, r', rfl, hrr, hJ2⟩ := hr
  have e2 := hR1.x28 hR2 hy2
  exact ⟨r', rfl, hrr, A2, V2, hR2, e2.1.trans e.1, e2.2, hJ2⟩
def VO_solve (E : EE) (d : Nat) (J J' : VH → Prop) : Prop := ∀ (V : VH) (a0 : Int32), J V → vMI E d M_X11_solve [sl 0 28, wi a0] V (fun r V1 => vMI E d M_X12_solve [sl 6 0, wi a0] V1 (fun r' V2 => r = r' ∧ J' V2))
theorem vo_solve {E : EE} {d x m : Nat} {J J' : VH → Prop} (h : VO_solve E d J J') : Op_solve E d x m (IV E x m J) (IV E x m J') := by
  intro G a0 hI
  obtain ⟨A, V, hR, rfl, rfl, hJ⟩ := hI
  refine wpM.mono (h V a0 hJ G A hR) (fun rr G1 hr => ?_)
  obtain ⟨A1, V1, w, hR1, hy, rfl, r, rfl, h2⟩ := hr
  have e := hR.x28 hR1 hy
  refine ⟨r, rfl, by rw [← e.2]; exact hR1.m12, ?_⟩
  rw [← e.2]
  refine wpM.mono (h2 G1 A1 hR1) (fun rr G2 hr => ?_)
  obtain ⟨A2, V2, w, hR2, hy2, rfl, r', rfl, hrr, hJ2⟩ := hr
  have e2 := hR1.x28 hR2 hy2
  exact ⟨r', rfl, hrr, A2, V2, hR2, e2.1.trans e.1, e2.2, hJ2⟩
def VO_best (E : EE) (d : Nat) (J J' : VH → Prop) : Prop := ∀ (V : VH) (a0 : Int32) (a1 : Int32), J V → vMJ E d M_X11_best [sl 0 28, wi a0, wi a1] V (fun r V1 => vMJ E d M_X12_best [sl 6 0, wi a0, wi a1] V1 (fun r' V2 => r = r' ∧ J' V2))
theorem vo_best {E : EE} {d x m : Nat} {J J' : VH → Prop} (h : VO_best E d J J') : Op_best E d x m (IV E x m J) (IV E x m J') := by
  intro G a0 a1 hI
  obtain ⟨A, V, hR, rfl, rfl, hJ⟩ := hI
  refine wpM.mono (h V a0 a1 hJ G A hR) (fun rr G1 hr => ?_)
  obtain ⟨A1, V1, w, hR1, hy, rfl, r, rfl, h2⟩ := hr
  have e := hR.x28 hR1 hy
  refine ⟨r, rfl, by rw [← e.2]; exact hR1.m12, ?_⟩
  rw [← e.2]
  refine wpM.mono (h2 G1 A1 hR1) (fun rr G2 hr => ?_)
  obtain ⟨A2, V2, w, hR2, hy2, rfl, r', rfl, hrr, hJ2⟩ := hr
  have e2 := hR1.x28 hR2 hy2
  exact ⟨r', rfl, hrr, A2, V2, hR2, e2.1.trans e.1, e2.2, hJ2⟩
def VO_bests (E : EE) (d : Nat) (J J' : VH → Prop) : Prop := ∀ (V : VH) (a0 : Int32), J V → vMI E d M_X11_bests [sl 0 28, wi a0] V (fun r V1 => vMI E d M_X12_bests [sl 6 0, wi a0] V1 (fun r' V2 => r = r' ∧ J' V2))
theorem vo_bests {E : EE} {d x m : Nat} {J J' : VH → Prop} (h : VO_bests E d J J') : Op_bests E d x m (IV E x m J) (IV E x m J') := by
  intro G a0 hI
  obtain ⟨A, V, hR, rfl, rfl, hJ⟩ := hI
  refine wpM.mono (h V a0 hJ G A hR) (fun rr G1 hr => ?_)
  obtain ⟨A1, V1, w, hR1, hy, rfl, r, rfl, h2⟩ := hr
  have e := hR.x28 hR1 hy
  refine ⟨r, rfl, by rw [← e.2]; exact hR1.m12, ?_⟩
  rw [← e.2]
  refine wpM.mono (h2 G1 A1 hR1) (fun rr G2 hr => ?_)
  obtain ⟨A2, V2, w, hR2, hy2, rfl, r', rfl, hrr, hJ2⟩ := hr
  have e2 := hR1.x28 hR2 hy2
  exact ⟨r', rfl, hrr, A2, V2, hR2, e2.1.trans e.1, e2.2, hJ2⟩
def VO_bestAt (E : EE) (d : Nat) (J J' : VH → Prop) : Prop := ∀ (V : VH) (a0 : Int32) (a1 : Int32), J V → vMI E d M_X11_bestAt [sl 0 28, wi a0, wi a1] V (fun r V1 => vMI E d M_X12_bestAt [sl 6 0, wi a0, wi a1] V1 (fun r' V2 => r = r' ∧ J' V2))
theorem vo_bestAt {E : EE} {d x m : Nat} {J J' : VH → Prop} (h : VO_bestAt E d J J') : Op_bestAt E d x m (IV E x m J) (IV E x m J') := by
  intro G a0 a1 hI
  obtain ⟨A, V, hR, rfl, rfl, hJ⟩ := hI
  refine wpM.mono (h V a0 a1 hJ G A hR) (fun rr G1 hr => ?_)
  obtain ⟨A1, V1, w, hR1, hy, rfl, r, rfl, h2⟩ := hr
  have e := hR.x28 hR1 hy
  refine ⟨r, rfl, by rw [← e.2]; exact hR1.m12, ?_⟩
  rw [← e.2]
  refine wpM.mono (h2 G1 A1 hR1) (fun rr G2 hr => ?_)
  obtain ⟨A2, V2, w, hR2, hy2, rfl, r', rfl, hrr, hJ2⟩ := hr
  have e2 := hR1.x28 hR2 hy2
  exact ⟨r', rfl, hrr, A2, V2, hR2, e2.1.trans e.1, e2.2, hJ2⟩
def VO_feasibles (E : EE) (d : Nat) (J J' : VH → Prop) : Prop := ∀ (V : VH) (a0 : Int32), J V → vMI E d M_X11_feasibles [sl 0 28, wi a0] V (fun r V1 => vMI E d M_X12_feasibles [sl 6 0, wi a0] V1 (fun r' V2 => r = r' ∧ J' V2))
theorem vo_feasibles {E : EE} {d x m : Nat} {J J' : VH → Prop} (h : VO_feasibles E d J J') : Op_feasibles E d x m (IV E x m J) (IV E x m J') := by
  intro G a0 hI
  obtain ⟨A, V, hR, rfl, rfl, hJ⟩ := hI
  refine wpM.mono (h V a0 hJ G A hR) (fun rr G1 hr => ?_)
  obtain ⟨A1, V1, w, hR1, hy, rfl, r, rfl, h2⟩ := hr
  have e := hR.x28 hR1 hy
  refine ⟨r, rfl, by rw [← e.2]; exact hR1.m12, ?_⟩
  rw [← e.2]
  refine wpM.mono (h2 G1 A1 hR1) (fun rr G2 hr => ?_)
  obtain ⟨A2, V2, w, hR2, hy2, rfl, r', rfl, hrr, hJ2⟩ := hr
  have e2 := hR1.x28 hR2 hy2
  exact ⟨r', rfl, hrr, A2, V2, hR2, e2.1.trans e.1, e2.2, hJ2⟩
def VO_feasibleAt (E : EE) (d : Nat) (J J' : VH → Prop) : Prop := ∀ (V : VH) (a0 : Int32) (a1 : Int32), J V → vMI E d M_X11_feasibleAt [sl 0 28, wi a0, wi a1] V (fun r V1 => vMI E d M_X12_feasibleAt [sl 6 0, wi a0, wi a1] V1 (fun r' V2 => r = r' ∧ J' V2))
theorem vo_feasibleAt {E : EE} {d x m : Nat} {J J' : VH → Prop} (h : VO_feasibleAt E d J J') : Op_feasibleAt E d x m (IV E x m J) (IV E x m J') := by
  intro G a0 a1 hI
  obtain ⟨A, V, hR, rfl, rfl, hJ⟩ := hI
  refine wpM.mono (h V a0 a1 hJ G A hR) (fun rr G1 hr => ?_)
  obtain ⟨A1, V1, w, hR1, hy, rfl, r, rfl, h2⟩ := hr
  have e := hR.x28 hR1 hy
  refine ⟨r, rfl, by rw [← e.2]; exact hR1.m12, ?_⟩
  rw [← e.2]
  refine wpM.mono (h2 G1 A1 hR1) (fun rr G2 hr => ?_)
  obtain ⟨A2, V2, w, hR2, hy2, rfl, r', rfl, hrr, hJ2⟩ := hr
  have e2 := hR1.x28 hR2 hy2
  exact ⟨r', rfl, hrr, A2, V2, hR2, e2.1.trans e.1, e2.2, hJ2⟩
def VO_has (E : EE) (d : Nat) (J J' : VH → Prop) : Prop := ∀ (V : VH) (a0 : Int32) (a1 : Int32) (a2 : Int32) (a3 : Int32), J V → (a3 = 0 ∨ a3 = 1) → vMI E d M_X11_has [sl 0 28, wi a0, wi a1, wi a2, wi a3] V (fun r V1 => vMI E d M_X12_has [sl 6 0, wi a0, wi a1, wi a2, wi a3] V1 (fun r' V2 => r = r' ∧ J' V2))
theorem vo_has {E : EE} {d x m : Nat} {J J' : VH → Prop} (h : VO_has E d J J') : Op_has E d x m (IV E x m J) (IV E x m J') := by
  intro G a0 a1 a2 a3 hI hb
  obtain ⟨A, V, hR, rfl, rfl, hJ⟩ := hI
  refine wpM.mono (h V a0 a1 a2 a3 hJ hb G A hR) (fun rr G1 hr => ?_)
  obtain ⟨A1, V1, w, hR1, hy, rfl, r, rfl, h2⟩ := hr
  have e := hR.x28 hR1 hy
  refine ⟨r, rfl, by rw [← e.2]; exact hR1.m12, ?_⟩
  rw [← e.2]
  refine wpM.mono (h2 G1 A1 hR1) (fun rr G2 hr => ?_)
  obtain ⟨A2, V2, w, hR2, hy2, rfl, r', rfl, hrr, hJ2⟩ := hr
  have e2 := hR1.x28 hR2 hy2
  exact ⟨r', rfl, hrr, A2, V2, hR2, e2.1.trans e.1, e2.2, hJ2⟩
def VO_choices (E : EE) (d : Nat) (J J' : VH → Prop) : Prop := ∀ (V : VH) (a0 : Int32) (a1 : Int32), J V → vMI E d M_X11_choices [sl 0 28, wi a0, wi a1] V (fun r V1 => vMI E d M_X12_choices [sl 6 0, wi a0, wi a1] V1 (fun r' V2 => r = r' ∧ J' V2))
theorem vo_choices {E : EE} {d x m : Nat} {J J' : VH → Prop} (h : VO_choices E d J J') : Op_choices E d x m (IV E x m J) (IV E x m J') := by
  intro G a0 a1 hI
  obtain ⟨A, V, hR, rfl, rfl, hJ⟩ := hI
  refine wpM.mono (h V a0 a1 hJ G A hR) (fun rr G1 hr => ?_)
  obtain ⟨A1, V1, w, hR1, hy, rfl, r, rfl, h2⟩ := hr
  have e := hR.x28 hR1 hy
  refine ⟨r, rfl, by rw [← e.2]; exact hR1.m12, ?_⟩
  rw [← e.2]
  refine wpM.mono (h2 G1 A1 hR1) (fun rr G2 hr => ?_)
  obtain ⟨A2, V2, w, hR2, hy2, rfl, r', rfl, hrr, hJ2⟩ := hr
  have e2 := hR1.x28 hR2 hy2
  exact ⟨r', rfl, hrr, A2, V2, hR2, e2.1.trans e.1, e2.2, hJ2⟩
def VO_mend (E : EE) (d : Nat) (J J' : VH → Prop) : Prop := ∀ (V : VH) (a0 : Int32) (a1 : Int32), J V → vMI E d M_X11_mend [sl 0 28, wi a0, wi a1] V (fun r V1 => vMI E d M_X12_mend [sl 6 0, wi a0, wi a1] V1 (fun r' V2 => r = r' ∧ J' V2))
theorem vo_mend {E : EE} {d x m : Nat} {J J' : VH → Prop} (h : VO_mend E d J J') : Op_mend E d x m (IV E x m J) (IV E x m J') := by
  intro G a0 a1 hI
  obtain ⟨A, V, hR, rfl, rfl, hJ⟩ := hI
  refine wpM.mono (h V a0 a1 hJ G A hR) (fun rr G1 hr => ?_)
  obtain ⟨A1, V1, w, hR1, hy, rfl, r, rfl, h2⟩ := hr
  have e := hR.x28 hR1 hy
  refine ⟨r, rfl, by rw [← e.2]; exact hR1.m12, ?_⟩
  rw [← e.2]
  refine wpM.mono (h2 G1 A1 hR1) (fun rr G2 hr => ?_)
  obtain ⟨A2, V2, w, hR2, hy2, rfl, r', rfl, hrr, hJ2⟩ := hr
  have e2 := hR1.x28 hR2 hy2
  exact ⟨r', rfl, hrr, A2, V2, hR2, e2.1.trans e.1, e2.2, hJ2⟩
def VO_front (E : EE) (d : Nat) (J J' : VH → Prop) : Prop := ∀ (V : VH) (a0 : Int32), J V → vMI E d M_X11_front [sl 0 28, wi a0] V (fun r V1 => vMI E d M_X12_front [sl 6 0, wi a0] V1 (fun r' V2 => r = r' ∧ J' V2))
theorem vo_front {E : EE} {d x m : Nat} {J J' : VH → Prop} (h : VO_front E d J J') : Op_front E d x m (IV E x m J) (IV E x m J') := by
  intro G a0 hI
  obtain ⟨A, V, hR, rfl, rfl, hJ⟩ := hI
  refine wpM.mono (h V a0 hJ G A hR) (fun rr G1 hr => ?_)
  obtain ⟨A1, V1, w, hR1, hy, rfl, r, rfl, h2⟩ := hr
  have e := hR.x28 hR1 hy
  refine ⟨r, rfl, by rw [← e.2]; exact hR1.m12, ?_⟩
  rw [← e.2]
  refine wpM.mono (h2 G1 A1 hR1) (fun rr G2 hr => ?_)
  obtain ⟨A2, V2, w, hR2, hy2, rfl, r', rfl, hrr, hJ2⟩ := hr
  have e2 := hR1.x28 hR2 hy2
  exact ⟨r', rfl, hrr, A2, V2, hR2, e2.1.trans e.1, e2.2, hJ2⟩
def VO_frontAt (E : EE) (d : Nat) (J J' : VH → Prop) : Prop := ∀ (V : VH) (a0 : Int32) (a1 : Int32) (a2 : Int32), J V → vMJ E d M_X11_frontAt [sl 0 28, wi a0, wi a1, wi a2] V (fun r V1 => vMJ E d M_X12_frontAt [sl 6 0, wi a0, wi a1, wi a2] V1 (fun r' V2 => r = r' ∧ J' V2))
theorem vo_frontAt {E : EE} {d x m : Nat} {J J' : VH → Prop} (h : VO_frontAt E d J J') : Op_frontAt E d x m (IV E x m J) (IV E x m J') := by
  intro G a0 a1 a2 hI
  obtain ⟨A, V, hR, rfl, rfl, hJ⟩ := hI
  refine wpM.mono (h V a0 a1 a2 hJ G A hR) (fun rr G1 hr => ?_)
  obtain ⟨A1, V1, w, hR1, hy, rfl, r, rfl, h2⟩ := hr
  have e := hR.x28 hR1 hy
  refine ⟨r, rfl, by rw [← e.2]; exact hR1.m12, ?_⟩
  rw [← e.2]
  refine wpM.mono (h2 G1 A1 hR1) (fun rr G2 hr => ?_)
  obtain ⟨A2, V2, w, hR2, hy2, rfl, r', rfl, hrr, hJ2⟩ := hr
  have e2 := hR1.x28 hR2 hy2
  exact ⟨r', rfl, hrr, A2, V2, hR2, e2.1.trans e.1, e2.2, hJ2⟩
def VO_frontPlan (E : EE) (d : Nat) (J J' : VH → Prop) : Prop := ∀ (V : VH) (a0 : Int32) (a1 : Int32), J V → vMI E d M_X11_frontPlan [sl 0 28, wi a0, wi a1] V (fun r V1 => vMI E d M_X12_frontPlan [sl 6 0, wi a0, wi a1] V1 (fun r' V2 => r = r' ∧ J' V2))
theorem vo_frontPlan {E : EE} {d x m : Nat} {J J' : VH → Prop} (h : VO_frontPlan E d J J') : Op_frontPlan E d x m (IV E x m J) (IV E x m J') := by
  intro G a0 a1 hI
  obtain ⟨A, V, hR, rfl, rfl, hJ⟩ := hI
  refine wpM.mono (h V a0 a1 hJ G A hR) (fun rr G1 hr => ?_)
  obtain ⟨A1, V1, w, hR1, hy, rfl, r, rfl, h2⟩ := hr
  have e := hR.x28 hR1 hy
  refine ⟨r, rfl, by rw [← e.2]; exact hR1.m12, ?_⟩
  rw [← e.2]
  refine wpM.mono (h2 G1 A1 hR1) (fun rr G2 hr => ?_)
  obtain ⟨A2, V2, w, hR2, hy2, rfl, r', rfl, hrr, hJ2⟩ := hr
  have e2 := hR1.x28 hR2 hy2
  exact ⟨r', rfl, hrr, A2, V2, hR2, e2.1.trans e.1, e2.2, hJ2⟩
def VO_near (E : EE) (d : Nat) (J J' : VH → Prop) : Prop := ∀ (V : VH) (a0 : Int32) (a1 : Int32), J V → (a1 = 0 ∨ a1 = 1) → vMI E d M_X11_near [sl 0 28, wi a0, wi a1] V (fun r V1 => vMI E d M_X12_near [sl 6 0, wi a0, wi a1] V1 (fun r' V2 => r = r' ∧ J' V2))
theorem vo_near {E : EE} {d x m : Nat} {J J' : VH → Prop} (h : VO_near E d J J') : Op_near E d x m (IV E x m J) (IV E x m J') := by
  intro G a0 a1 hI hb
  obtain ⟨A, V, hR, rfl, rfl, hJ⟩ := hI
  refine wpM.mono (h V a0 a1 hJ hb G A hR) (fun rr G1 hr => ?_)
  obtain ⟨A1, V1, w, hR1, hy, rfl, r, rfl, h2⟩ := hr
  have e := hR.x28 hR1 hy
  refine ⟨r, rfl, by rw [← e.2]; exact hR1.m12, ?_⟩
  rw [← e.2]
  refine wpM.mono (h2 G1 A1 hR1) (fun rr G2 hr => ?_)
  obtain ⟨A2, V2, w, hR2, hy2, rfl, r', rfl, hrr, hJ2⟩ := hr
  have e2 := hR1.x28 hR2 hy2
  exact ⟨r', rfl, hrr, A2, V2, hR2, e2.1.trans e.1, e2.2, hJ2⟩
def VO_clash (E : EE) (d : Nat) (J J' : VH → Prop) : Prop := ∀ (V : VH) (a0 : Int32), J V → vMI E d M_X11_clash [sl 0 28, wi a0] V (fun r V1 => vMI E d M_X12_clash [sl 6 0, wi a0] V1 (fun r' V2 => r = r' ∧ J' V2))
theorem vo_clash {E : EE} {d x m : Nat} {J J' : VH → Prop} (h : VO_clash E d J J') : Op_clash E d x m (IV E x m J) (IV E x m J') := by
  intro G a0 hI
  obtain ⟨A, V, hR, rfl, rfl, hJ⟩ := hI
  refine wpM.mono (h V a0 hJ G A hR) (fun rr G1 hr => ?_)
  obtain ⟨A1, V1, w, hR1, hy, rfl, r, rfl, h2⟩ := hr
  have e := hR.x28 hR1 hy
  refine ⟨r, rfl, by rw [← e.2]; exact hR1.m12, ?_⟩
  rw [← e.2]
  refine wpM.mono (h2 G1 A1 hR1) (fun rr G2 hr => ?_)
  obtain ⟨A2, V2, w, hR2, hy2, rfl, r', rfl, hrr, hJ2⟩ := hr
  have e2 := hR1.x28 hR2 hy2
  exact ⟨r', rfl, hrr, A2, V2, hR2, e2.1.trans e.1, e2.2, hJ2⟩
def VO_fewest (E : EE) (d : Nat) (J J' : VH → Prop) : Prop := ∀ (V : VH) (a0 : Int32), J V → vMI E d M_X11_fewest [sl 0 28, wi a0] V (fun r V1 => vMI E d M_X12_fewest [sl 6 0, wi a0] V1 (fun r' V2 => r = r' ∧ J' V2))
theorem vo_fewest {E : EE} {d x m : Nat} {J J' : VH → Prop} (h : VO_fewest E d J J') : Op_fewest E d x m (IV E x m J) (IV E x m J') := by
  intro G a0 hI
  obtain ⟨A, V, hR, rfl, rfl, hJ⟩ := hI
  refine wpM.mono (h V a0 hJ G A hR) (fun rr G1 hr => ?_)
  obtain ⟨A1, V1, w, hR1, hy, rfl, r, rfl, h2⟩ := hr
  have e := hR.x28 hR1 hy
  refine ⟨r, rfl, by rw [← e.2]; exact hR1.m12, ?_⟩
  rw [← e.2]
  refine wpM.mono (h2 G1 A1 hR1) (fun rr G2 hr => ?_)
  obtain ⟨A2, V2, w, hR2, hy2, rfl, r', rfl, hrr, hJ2⟩ := hr
  have e2 := hR1.x28 hR2 hy2
  exact ⟨r', rfl, hrr, A2, V2, hR2, e2.1.trans e.1, e2.2, hJ2⟩
def VO_relax (E : EE) (d : Nat) (J J' : VH → Prop) : Prop := ∀ (V : VH) (a0 : Int32), J V → vMI E d M_X11_relax [sl 0 28, wi a0] V (fun r V1 => vMI E d M_X12_relax [sl 6 0, wi a0] V1 (fun r' V2 => r = r' ∧ J' V2))
theorem vo_relax {E : EE} {d x m : Nat} {J J' : VH → Prop} (h : VO_relax E d J J') : Op_relax E d x m (IV E x m J) (IV E x m J') := by
  intro G a0 hI
  obtain ⟨A, V, hR, rfl, rfl, hJ⟩ := hI
  refine wpM.mono (h V a0 hJ G A hR) (fun rr G1 hr => ?_)
  obtain ⟨A1, V1, w, hR1, hy, rfl, r, rfl, h2⟩ := hr
  have e := hR.x28 hR1 hy
  refine ⟨r, rfl, by rw [← e.2]; exact hR1.m12, ?_⟩
  rw [← e.2]
  refine wpM.mono (h2 G1 A1 hR1) (fun rr G2 hr => ?_)
  obtain ⟨A2, V2, w, hR2, hy2, rfl, r', rfl, hrr, hJ2⟩ := hr
  have e2 := hR1.x28 hR2 hy2
  exact ⟨r', rfl, hrr, A2, V2, hR2, e2.1.trans e.1, e2.2, hJ2⟩
def VO_without (E : EE) (d : Nat) (J J' : VH → Prop) : Prop := ∀ (V : VH) (a0 : Int32) (a1 : Int32) (a2 : Int32), J V → vMJ E d M_X11_without [sl 0 28, wi a0, wi a1, wi a2] V (fun r V1 => vMJ E d M_X12_without [sl 6 0, wi a0, wi a1, wi a2] V1 (fun r' V2 => r = r' ∧ J' V2))
theorem vo_without {E : EE} {d x m : Nat} {J J' : VH → Prop} (h : VO_without E d J J') : Op_without E d x m (IV E x m J) (IV E x m J') := by
  intro G a0 a1 a2 hI
  obtain ⟨A, V, hR, rfl, rfl, hJ⟩ := hI
  refine wpM.mono (h V a0 a1 a2 hJ G A hR) (fun rr G1 hr => ?_)
  obtain ⟨A1, V1, w, hR1, hy, rfl, r, rfl, h2⟩ := hr
  have e := hR.x28 hR1 hy
  refine ⟨r, rfl, by rw [← e.2]; exact hR1.m12, ?_⟩
  rw [← e.2]
  refine wpM.mono (h2 G1 A1 hR1) (fun rr G2 hr => ?_)
  obtain ⟨A2, V2, w, hR2, hy2, rfl, r', rfl, hrr, hJ2⟩ := hr
  have e2 := hR1.x28 hR2 hy2
  exact ⟨r', rfl, hrr, A2, V2, hR2, e2.1.trans e.1, e2.2, hJ2⟩
def VO_whyNot (E : EE) (d : Nat) (J J' : VH → Prop) : Prop := ∀ (V : VH) (a0 : Int32) (a1 : Int32) (a2 : Int32) (a3 : Int32), J V → vMJ E d M_X11_whyNot [sl 0 28, wi a0, wi a1, wi a2, wi a3] V (fun r V1 => vMJ E d M_X12_whyNot [sl 6 0, wi a0, wi a1, wi a2, wi a3] V1 (fun r' V2 => r = r' ∧ J' V2))
theorem vo_whyNot {E : EE} {d x m : Nat} {J J' : VH → Prop} (h : VO_whyNot E d J J') : Op_whyNot E d x m (IV E x m J) (IV E x m J') := by
  intro G a0 a1 a2 a3 hI
  obtain ⟨A, V, hR, rfl, rfl, hJ⟩ := hI
  refine wpM.mono (h V a0 a1 a2 a3 hJ G A hR) (fun rr G1 hr => ?_)
  obtain ⟨A1, V1, w, hR1, hy, rfl, r, rfl, h2⟩ := hr
  have e := hR.x28 hR1 hy
  refine ⟨r, rfl, by rw [← e.2]; exact hR1.m12, ?_⟩
  rw [← e.2]
  refine wpM.mono (h2 G1 A1 hR1) (fun rr G2 hr => ?_)
  obtain ⟨A2, V2, w, hR2, hy2, rfl, r', rfl, hrr, hJ2⟩ := hr
  have e2 := hR1.x28 hR2 hy2
  exact ⟨r', rfl, hrr, A2, V2, hR2, e2.1.trans e.1, e2.2, hJ2⟩
def VO_because (E : EE) (d : Nat) (J J' : VH → Prop) : Prop := ∀ (V : VH) (a0 : Int32) (a1 : Int32) (a2 : Int32), J V → vMI E d M_X11_because [sl 0 28, wi a0, wi a1, wi a2] V (fun r V1 => vMI E d M_X12_because [sl 6 0, wi a0, wi a1, wi a2] V1 (fun r' V2 => r = r' ∧ J' V2))
theorem vo_because {E : EE} {d x m : Nat} {J J' : VH → Prop} (h : VO_because E d J J') : Op_because E d x m (IV E x m J) (IV E x m J') := by
  intro G a0 a1 a2 hI
  obtain ⟨A, V, hR, rfl, rfl, hJ⟩ := hI
  refine wpM.mono (h V a0 a1 a2 hJ G A hR) (fun rr G1 hr => ?_)
  obtain ⟨A1, V1, w, hR1, hy, rfl, r, rfl, h2⟩ := hr
  have e := hR.x28 hR1 hy
  refine ⟨r, rfl, by rw [← e.2]; exact hR1.m12, ?_⟩
  rw [← e.2]
  refine wpM.mono (h2 G1 A1 hR1) (fun rr G2 hr => ?_)
  obtain ⟨A2, V2, w, hR2, hy2, rfl, r', rfl, hrr, hJ2⟩ := hr
  have e2 := hR1.x28 hR2 hy2
  exact ⟨r', rfl, hrr, A2, V2, hR2, e2.1.trans e.1, e2.2, hJ2⟩
def VO_future (E : EE) (d : Nat) (J J' : VH → Prop) : Prop := ∀ (V : VH) (a0 : Int32) (a1 : Int32), J V → vMI E d M_X11_future [sl 0 28, wi a0, wi a1] V (fun r V1 => vMI E d M_X12_future [sl 6 0, wi a0, wi a1] V1 (fun r' V2 => r = r' ∧ J' V2))
theorem vo_future {E : EE} {d x m : Nat} {J J' : VH → Prop} (h : VO_future E d J J') : Op_future E d x m (IV E x m J) (IV E x m J') := by
  intro G a0 a1 hI
  obtain ⟨A, V, hR, rfl, rfl, hJ⟩ := hI
  refine wpM.mono (h V a0 a1 hJ G A hR) (fun rr G1 hr => ?_)
  obtain ⟨A1, V1, w, hR1, hy, rfl, r, rfl, h2⟩ := hr
  have e := hR.x28 hR1 hy
  refine ⟨r, rfl, by rw [← e.2]; exact hR1.m12, ?_⟩
  rw [← e.2]
  refine wpM.mono (h2 G1 A1 hR1) (fun rr G2 hr => ?_)
  obtain ⟨A2, V2, w, hR2, hy2, rfl, r', rfl, hrr, hJ2⟩ := hr
  have e2 := hR1.x28 hR2 hy2
  exact ⟨r', rfl, hrr, A2, V2, hR2, e2.1.trans e.1, e2.2, hJ2⟩
def VO_told (E : EE) (d : Nat) (J J' : VH → Prop) : Prop := ∀ (V : VH) (a0 : Int32) (a1 : Int32) (a2 : Int32) (a3 : Int32), J V → vMI E d M_X11_told [sl 0 28, wi a0, wi a1, wi a2, wi a3] V (fun r V1 => vMI E d M_X12_told [sl 6 0, wi a0, wi a1, wi a2, wi a3] V1 (fun r' V2 => r = r' ∧ J' V2))
theorem vo_told {E : EE} {d x m : Nat} {J J' : VH → Prop} (h : VO_told E d J J') : Op_told E d x m (IV E x m J) (IV E x m J') := by
  intro G a0 a1 a2 a3 hI
  obtain ⟨A, V, hR, rfl, rfl, hJ⟩ := hI
  refine wpM.mono (h V a0 a1 a2 a3 hJ G A hR) (fun rr G1 hr => ?_)
  obtain ⟨A1, V1, w, hR1, hy, rfl, r, rfl, h2⟩ := hr
  have e := hR.x28 hR1 hy
  refine ⟨r, rfl, by rw [← e.2]; exact hR1.m12, ?_⟩
  rw [← e.2]
  refine wpM.mono (h2 G1 A1 hR1) (fun rr G2 hr => ?_)
  obtain ⟨A2, V2, w, hR2, hy2, rfl, r', rfl, hrr, hJ2⟩ := hr
  have e2 := hR1.x28 hR2 hy2
  exact ⟨r', rfl, hrr, A2, V2, hR2, e2.1.trans e.1, e2.2, hJ2⟩
def VO_unfold (E : EE) (d : Nat) (J J' : VH → Prop) : Prop := ∀ (V : VH) (a0 : Int32), J V → vMI E d M_X11_unfold [sl 0 28, wi a0] V (fun r V1 => vMI E d M_X12_unfold [sl 6 0, wi a0] V1 (fun r' V2 => r = r' ∧ J' V2))
theorem vo_unfold {E : EE} {d x m : Nat} {J J' : VH → Prop} (h : VO_unfold E d J J') : Op_unfold E d x m (IV E x m J) (IV E x m J') := by
  intro G a0 hI
  obtain ⟨A, V, hR, rfl, rfl, hJ⟩ := hI
  refine wpM.mono (h V a0 hJ G A hR) (fun rr G1 hr => ?_)
  obtain ⟨A1, V1, w, hR1, hy, rfl, r, rfl, h2⟩ := hr
  have e := hR.x28 hR1 hy
  refine ⟨r, rfl, by rw [← e.2]; exact hR1.m12, ?_⟩
  rw [← e.2]
  refine wpM.mono (h2 G1 A1 hR1) (fun rr G2 hr => ?_)
  obtain ⟨A2, V2, w, hR2, hy2, rfl, r', rfl, hrr, hJ2⟩ := hr
  have e2 := hR1.x28 hR2 hy2
  exact ⟨r', rfl, hrr, A2, V2, hR2, e2.1.trans e.1, e2.2, hJ2⟩
def VO_robust (E : EE) (d : Nat) (J J' : VH → Prop) : Prop := ∀ (V : VH) (a0 : Int32), J V → vMI E d M_X11_robust [sl 0 28, wi a0] V (fun r V1 => vMI E d M_X12_robust [sl 6 0, wi a0] V1 (fun r' V2 => r = r' ∧ J' V2))
theorem vo_robust {E : EE} {d x m : Nat} {J J' : VH → Prop} (h : VO_robust E d J J') : Op_robust E d x m (IV E x m J) (IV E x m J') := by
  intro G a0 hI
  obtain ⟨A, V, hR, rfl, rfl, hJ⟩ := hI
  refine wpM.mono (h V a0 hJ G A hR) (fun rr G1 hr => ?_)
  obtain ⟨A1, V1, w, hR1, hy, rfl, r, rfl, h2⟩ := hr
  have e := hR.x28 hR1 hy
  refine ⟨r, rfl, by rw [← e.2]; exact hR1.m12, ?_⟩
  rw [← e.2]
  refine wpM.mono (h2 G1 A1 hR1) (fun rr G2 hr => ?_)
  obtain ⟨A2, V2, w, hR2, hy2, rfl, r', rfl, hrr, hJ2⟩ := hr
  have e2 := hR1.x28 hR2 hy2
  exact ⟨r', rfl, hrr, A2, V2, hR2, e2.1.trans e.1, e2.2, hJ2⟩
def VO_expected (E : EE) (d : Nat) (J J' : VH → Prop) : Prop := ∀ (V : VH) (a0 : Int32) (a1 : Int32), J V → vMJ E d M_X11_expected [sl 0 28, wi a0, wi a1] V (fun r V1 => vMJ E d M_X12_expected [sl 6 0, wi a0, wi a1] V1 (fun r' V2 => r = r' ∧ J' V2))
theorem vo_expected {E : EE} {d x m : Nat} {J J' : VH → Prop} (h : VO_expected E d J J') : Op_expected E d x m (IV E x m J) (IV E x m J') := by
  intro G a0 a1 hI
  obtain ⟨A, V, hR, rfl, rfl, hJ⟩ := hI
  refine wpM.mono (h V a0 a1 hJ G A hR) (fun rr G1 hr => ?_)
  obtain ⟨A1, V1, w, hR1, hy, rfl, r, rfl, h2⟩ := hr
  have e := hR.x28 hR1 hy
  refine ⟨r, rfl, by rw [← e.2]; exact hR1.m12, ?_⟩
  rw [← e.2]
  refine wpM.mono (h2 G1 A1 hR1) (fun rr G2 hr => ?_)
  obtain ⟨A2, V2, w, hR2, hy2, rfl, r', rfl, hrr, hJ2⟩ := hr
  have e2 := hR1.x28 hR2 hy2
  exact ⟨r', rfl, hrr, A2, V2, hR2, e2.1.trans e.1, e2.2, hJ2⟩
def VO_regret (E : EE) (d : Nat) (J J' : VH → Prop) : Prop := ∀ (V : VH) (a0 : Int32) (a1 : Int32), J V → vMJ E d M_X11_regret [sl 0 28, wi a0, wi a1] V (fun r V1 => vMJ E d M_X12_regret [sl 6 0, wi a0, wi a1] V1 (fun r' V2 => r = r' ∧ J' V2))
theorem vo_regret {E : EE} {d x m : Nat} {J J' : VH → Prop} (h : VO_regret E d J J') : Op_regret E d x m (IV E x m J) (IV E x m J') := by
  intro G a0 a1 hI
  obtain ⟨A, V, hR, rfl, rfl, hJ⟩ := hI
  refine wpM.mono (h V a0 a1 hJ G A hR) (fun rr G1 hr => ?_)
  obtain ⟨A1, V1, w, hR1, hy, rfl, r, rfl, h2⟩ := hr
  have e := hR.x28 hR1 hy
  refine ⟨r, rfl, by rw [← e.2]; exact hR1.m12, ?_⟩
  rw [← e.2]
  refine wpM.mono (h2 G1 A1 hR1) (fun rr G2 hr => ?_)
  obtain ⟨A2, V2, w, hR2, hy2, rfl, r', rfl, hrr, hJ2⟩ := hr
  have e2 := hR1.x28 hR2 hy2
  exact ⟨r', rfl, hrr, A2, V2, hR2, e2.1.trans e.1, e2.2, hJ2⟩
def VO_search (E : EE) (d : Nat) (J J' : VH → Prop) : Prop := ∀ (V : VH) (a0 : Int32) (a1 : Int32) (a2 : Int32) (a3 : Int32) (a4 : Int32), J V → vMI E d M_X11_search [sl 0 28, wi a0, wi a1, wi a2, wi a3, wi a4] V (fun r V1 => vMI E d M_X12_search [sl 6 0, wi a0, wi a1, wi a2, wi a3, wi a4] V1 (fun r' V2 => r = r' ∧ J' V2))
theorem vo_search {E : EE} {d x m : Nat} {J J' : VH → Prop} (h : VO_search E d J J') : Op_search E d x m (IV E x m J) (IV E x m J') := by
  intro G a0 a1 a2 a3 a4 hI
  obtain ⟨A, V, hR, rfl, rfl, hJ⟩ := hI
  refine wpM.mono (h V a0 a1 a2 a3 a4 hJ G A hR) (fun rr G1 hr => ?_)
  obtain ⟨A1, V1, w, hR1, hy, rfl, r, rfl, h2⟩ := hr
  have e := hR.x28 hR1 hy
  refine ⟨r, rfl, by rw [← e.2]; exact hR1.m12, ?_⟩
  rw [← e.2]
  refine wpM.mono (h2 G1 A1 hR1) (fun rr G2 hr => ?_)
  obtain ⟨A2, V2, w, hR2, hy2, rfl, r', rfl, hrr, hJ2⟩ := hr
  have e2 := hR1.x28 hR2 hy2
  exact ⟨r', rfl, hrr, A2, V2, hR2, e2.1.trans e.1, e2.2, hJ2⟩
def VO_searched (E : EE) (d : Nat) (J J' : VH → Prop) : Prop := ∀ (V : VH) (a0 : Int32), J V → vMI E d M_X11_searched [sl 0 28, wi a0] V (fun r V1 => vMI E d M_X12_searched [sl 6 0, wi a0] V1 (fun r' V2 => r = r' ∧ J' V2))
theorem vo_searched {E : EE} {d x m : Nat} {J J' : VH → Prop} (h : VO_searched E d J J') : Op_searched E d x m (IV E x m J) (IV E x m J') := by
  intro G a0 hI
  obtain ⟨A, V, hR, rfl, rfl, hJ⟩ := hI
  refine wpM.mono (h V a0 hJ G A hR) (fun rr G1 hr => ?_)
  obtain ⟨A1, V1, w, hR1, hy, rfl, r, rfl, h2⟩ := hr
  have e := hR.x28 hR1 hy
  refine ⟨r, rfl, by rw [← e.2]; exact hR1.m12, ?_⟩
  rw [← e.2]
  refine wpM.mono (h2 G1 A1 hR1) (fun rr G2 hr => ?_)
  obtain ⟨A2, V2, w, hR2, hy2, rfl, r', rfl, hrr, hJ2⟩ := hr
  have e2 := hR1.x28 hR2 hy2
  exact ⟨r', rfl, hrr, A2, V2, hR2, e2.1.trans e.1, e2.2, hJ2⟩
def VO_check (E : EE) (d : Nat) (J J' : VH → Prop) : Prop := ∀ (V : VH) (a0 : Int32), J V → vMI E d M_X11_check [sl 0 28, wi a0] V (fun r V1 => vMI E d M_X12_check [sl 6 0, wi a0] V1 (fun r' V2 => r = r' ∧ J' V2))
theorem vo_check {E : EE} {d x m : Nat} {J J' : VH → Prop} (h : VO_check E d J J') : Op_check E d x m (IV E x m J) (IV E x m J') := by
  intro G a0 hI
  obtain ⟨A, V, hR, rfl, rfl, hJ⟩ := hI
  refine wpM.mono (h V a0 hJ G A hR) (fun rr G1 hr => ?_)
  obtain ⟨A1, V1, w, hR1, hy, rfl, r, rfl, h2⟩ := hr
  have e := hR.x28 hR1 hy
  refine ⟨r, rfl, by rw [← e.2]; exact hR1.m12, ?_⟩
  rw [← e.2]
  refine wpM.mono (h2 G1 A1 hR1) (fun rr G2 hr => ?_)
  obtain ⟨A2, V2, w, hR2, hy2, rfl, r', rfl, hrr, hJ2⟩ := hr
  have e2 := hR1.x28 hR2 hy2
  exact ⟨r', rfl, hrr, A2, V2, hR2, e2.1.trans e.1, e2.2, hJ2⟩
def VO_prove (E : EE) (d : Nat) (J J' : VH → Prop) : Prop := ∀ (V : VH) (a0 : Int32), J V → vMI E d M_X11_prove [sl 0 28, wi a0] V (fun r V1 => vMI E d M_X12_prove [sl 6 0, wi a0] V1 (fun r' V2 => r = r' ∧ J' V2))
theorem vo_prove {E : EE} {d x m : Nat} {J J' : VH → Prop} (h : VO_prove E d J J') : Op_prove E d x m (IV E x m J) (IV E x m J') := by
  intro G a0 hI
  obtain ⟨A, V, hR, rfl, rfl, hJ⟩ := hI
  refine wpM.mono (h V a0 hJ G A hR) (fun rr G1 hr => ?_)
  obtain ⟨A1, V1, w, hR1, hy, rfl, r, rfl, h2⟩ := hr
  have e := hR.x28 hR1 hy
  refine ⟨r, rfl, by rw [← e.2]; exact hR1.m12, ?_⟩
  rw [← e.2]
  refine wpM.mono (h2 G1 A1 hR1) (fun rr G2 hr => ?_)
  obtain ⟨A2, V2, w, hR2, hy2, rfl, r', rfl, hrr, hJ2⟩ := hr
  have e2 := hR1.x28 hR2 hy2
  exact ⟨r', rfl, hrr, A2, V2, hR2, e2.1.trans e.1, e2.2, hJ2⟩
def VO_above (E : EE) (d : Nat) (J J' : VH → Prop) : Prop := ∀ (V : VH) , J V → vMJ E d M_X11_above [sl 0 28] V (fun r V1 => vMJ E d M_X12_above [sl 6 0] V1 (fun r' V2 => r = r' ∧ J' V2))
theorem vo_above {E : EE} {d x m : Nat} {J J' : VH → Prop} (h : VO_above E d J J') : Op_above E d x m (IV E x m J) (IV E x m J') := by
  intro G  hI
  obtain ⟨A, V, hR, rfl, rfl, hJ⟩ := hI
  refine wpM.mono (h V  hJ G A hR) (fun rr G1 hr => ?_)
  obtain ⟨A1, V1, w, hR1, hy, rfl, r, rfl, h2⟩ := hr
  have e := hR.x28 hR1 hy
  refine ⟨r, rfl, by rw [← e.2]; exact hR1.m12, ?_⟩
  rw [← e.2]
  refine wpM.mono (h2 G1 A1 hR1) (fun rr G2 hr => ?_)
  obtain ⟨A2, V2, w, hR2, hy2, rfl, r', rfl, hrr, hJ2⟩ := hr
  have e2 := hR1.x28 hR2 hy2
  exact ⟨r', rfl, hrr, A2, V2, hR2, e2.1.trans e.1, e2.2, hJ2⟩
def VO_below (E : EE) (d : Nat) (J J' : VH → Prop) : Prop := ∀ (V : VH) , J V → vMJ E d M_X11_below [sl 0 28] V (fun r V1 => vMJ E d M_X12_below [sl 6 0] V1 (fun r' V2 => r = r' ∧ J' V2))
theorem vo_below {E : EE} {d x m : Nat} {J J' : VH → Prop} (h : VO_below E d J J') : Op_below E d x m (IV E x m J) (IV E x m J') := by
  intro G  hI
  obtain ⟨A, V, hR, rfl, rfl, hJ⟩ := hI
  refine wpM.mono (h V  hJ G A hR) (fun rr G1 hr => ?_)
  obtain ⟨A1, V1, w, hR1, hy, rfl, r, rfl, h2⟩ := hr
  have e := hR.x28 hR1 hy
  refine ⟨r, rfl, by rw [← e.2]; exact hR1.m12, ?_⟩
  rw [← e.2]
  refine wpM.mono (h2 G1 A1 hR1) (fun rr G2 hr => ?_)
  obtain ⟨A2, V2, w, hR2, hy2, rfl, r', rfl, hrr, hJ2⟩ := hr
  have e2 := hR1.x28 hR2 hy2
  exact ⟨r', rfl, hrr, A2, V2, hR2, e2.1.trans e.1, e2.2, hJ2⟩
def VO_save (E : EE) (d : Nat) (J J' : VH → Prop) : Prop := ∀ (V : VH) (a0 : Int32), J V → vMI E d M_X11_save [sl 0 28, wi a0] V (fun r V1 => vMI E d M_X12_save [sl 6 0, wi a0] V1 (fun r' V2 => r = r' ∧ J' V2))
theorem vo_save {E : EE} {d x m : Nat} {J J' : VH → Prop} (h : VO_save E d J J') : Op_save E d x m (IV E x m J) (IV E x m J') := by
  intro G a0 hI
  obtain ⟨A, V, hR, rfl, rfl, hJ⟩ := hI
  refine wpM.mono (h V a0 hJ G A hR) (fun rr G1 hr => ?_)
  obtain ⟨A1, V1, w, hR1, hy, rfl, r, rfl, h2⟩ := hr
  have e := hR.x28 hR1 hy
  refine ⟨r, rfl, by rw [← e.2]; exact hR1.m12, ?_⟩
  rw [← e.2]
  refine wpM.mono (h2 G1 A1 hR1) (fun rr G2 hr => ?_)
  obtain ⟨A2, V2, w, hR2, hy2, rfl, r', rfl, hrr, hJ2⟩ := hr
  have e2 := hR1.x28 hR2 hy2
  exact ⟨r', rfl, hrr, A2, V2, hR2, e2.1.trans e.1, e2.2, hJ2⟩
def VO_load (E : EE) (d : Nat) (J J' : VH → Prop) : Prop := ∀ (V : VH) (a0 : Int32), J V → vMI E d M_X11_load [sl 0 28, wi a0] V (fun r V1 => vMI E d M_X12_load [sl 6 0, wi a0] V1 (fun r' V2 => r = r' ∧ J' V2))
theorem vo_load {E : EE} {d x m : Nat} {J J' : VH → Prop} (h : VO_load E d J J') : Op_load E d x m (IV E x m J) (IV E x m J') := by
  intro G a0 hI
  obtain ⟨A, V, hR, rfl, rfl, hJ⟩ := hI
  refine wpM.mono (h V a0 hJ G A hR) (fun rr G1 hr => ?_)
  obtain ⟨A1, V1, w, hR1, hy, rfl, r, rfl, h2⟩ := hr
  have e := hR.x28 hR1 hy
  refine ⟨r, rfl, by rw [← e.2]; exact hR1.m12, ?_⟩
  rw [← e.2]
  refine wpM.mono (h2 G1 A1 hR1) (fun rr G2 hr => ?_)
  obtain ⟨A2, V2, w, hR2, hy2, rfl, r', rfl, hrr, hJ2⟩ := hr
  have e2 := hR1.x28 hR2 hy2
  exact ⟨r', rfl, hrr, A2, V2, hR2, e2.1.trans e.1, e2.2, hJ2⟩
def VO_rows (E : EE) (d : Nat) (J J' : VH → Prop) : Prop := ∀ (V : VH) , J V → vMI E d M_X11_rows [sl 0 28] V (fun r V1 => vMI E d M_X12_rows [sl 6 0] V1 (fun r' V2 => r = r' ∧ J' V2))
theorem vo_rows {E : EE} {d x m : Nat} {J J' : VH → Prop} (h : VO_rows E d J J') : Op_rows E d x m (IV E x m J) (IV E x m J') := by
  intro G  hI
  obtain ⟨A, V, hR, rfl, rfl, hJ⟩ := hI
  refine wpM.mono (h V  hJ G A hR) (fun rr G1 hr => ?_)
  obtain ⟨A1, V1, w, hR1, hy, rfl, r, rfl, h2⟩ := hr
  have e := hR.x28 hR1 hy
  refine ⟨r, rfl, by rw [← e.2]; exact hR1.m12, ?_⟩
  rw [← e.2]
  refine wpM.mono (h2 G1 A1 hR1) (fun rr G2 hr => ?_)
  obtain ⟨A2, V2, w, hR2, hy2, rfl, r', rfl, hrr, hJ2⟩ := hr
  have e2 := hR1.x28 hR2 hy2
  exact ⟨r', rfl, hrr, A2, V2, hR2, e2.1.trans e.1, e2.2, hJ2⟩
def VO_size (E : EE) (d : Nat) (J J' : VH → Prop) : Prop := ∀ (V : VH) , J V → vMI E d M_X11_size [sl 0 28] V (fun r V1 => vMI E d M_X12_size [sl 6 0] V1 (fun r' V2 => r = r' ∧ J' V2))
theorem vo_size {E : EE} {d x m : Nat} {J J' : VH → Prop} (h : VO_size E d J J') : Op_size E d x m (IV E x m J) (IV E x m J') := by
  intro G  hI
  obtain ⟨A, V, hR, rfl, rfl, hJ⟩ := hI
  refine wpM.mono (h V  hJ G A hR) (fun rr G1 hr => ?_)
  obtain ⟨A1, V1, w, hR1, hy, rfl, r, rfl, h2⟩ := hr
  have e := hR.x28 hR1 hy
  refine ⟨r, rfl, by rw [← e.2]; exact hR1.m12, ?_⟩
  rw [← e.2]
  refine wpM.mono (h2 G1 A1 hR1) (fun rr G2 hr => ?_)
  obtain ⟨A2, V2, w, hR2, hy2, rfl, r', rfl, hrr, hJ2⟩ := hr
  have e2 := hR1.x28 hR2 hy2
  exact ⟨r', rfl, hrr, A2, V2, hR2, e2.1.trans e.1, e2.2, hJ2⟩
def VO_byteAt (E : EE) (d : Nat) (J J' : VH → Prop) : Prop := ∀ (V : VH) (a0 : Int32), J V → vMI E d M_X11_byteAt [sl 0 28, wi a0] V (fun r V1 => vMI E d M_X12_byteAt [sl 6 0, wi a0] V1 (fun r' V2 => r = r' ∧ J' V2))
theorem vo_byteAt {E : EE} {d x m : Nat} {J J' : VH → Prop} (h : VO_byteAt E d J J') : Op_byteAt E d x m (IV E x m J) (IV E x m J') := by
  intro G a0 hI
  obtain ⟨A, V, hR, rfl, rfl, hJ⟩ := hI
  refine wpM.mono (h V a0 hJ G A hR) (fun rr G1 hr => ?_)
  obtain ⟨A1, V1, w, hR1, hy, rfl, r, rfl, h2⟩ := hr
  have e := hR.x28 hR1 hy
  refine ⟨r, rfl, by rw [← e.2]; exact hR1.m12, ?_⟩
  rw [← e.2]
  refine wpM.mono (h2 G1 A1 hR1) (fun rr G2 hr => ?_)
  obtain ⟨A2, V2, w, hR2, hy2, rfl, r', rfl, hrr, hJ2⟩ := hr
  have e2 := hR1.x28 hR2 hy2
  exact ⟨r', rfl, hrr, A2, V2, hR2, e2.1.trans e.1, e2.2, hJ2⟩
def VO_crash (E : EE) (d : Nat) (J J' : VH → Prop) : Prop := ∀ (V : VH) (a0 : Int32), J V → vMI E d M_X11_crash [sl 0 28, wi a0] V (fun r V1 => vMI E d M_X12_crash [sl 6 0, wi a0] V1 (fun r' V2 => r = r' ∧ J' V2))
theorem vo_crash {E : EE} {d x m : Nat} {J J' : VH → Prop} (h : VO_crash E d J J') : Op_crash E d x m (IV E x m J) (IV E x m J') := by
  intro G a0 hI
  obtain ⟨A, V, hR, rfl, rfl, hJ⟩ := hI
  refine wpM.mono (h V a0 hJ G A hR) (fun rr G1 hr => ?_)
  obtain ⟨A1, V1, w, hR1, hy, rfl, r, rfl, h2⟩ := hr
  have e := hR.x28 hR1 hy
  refine ⟨r, rfl, by rw [← e.2]; exact hR1.m12, ?_⟩
  rw [← e.2]
  refine wpM.mono (h2 G1 A1 hR1) (fun rr G2 hr => ?_)
  obtain ⟨A2, V2, w, hR2, hy2, rfl, r', rfl, hrr, hJ2⟩ := hr
  have e2 := hR1.x28 hR2 hy2
  exact ⟨r', rfl, hrr, A2, V2, hR2, e2.1.trans e.1, e2.2, hJ2⟩
def VO_take (E : EE) (d : Nat) (J J' : VH → Prop) : Prop := ∀ (V : VH) , J V → vMI E d M_X11_take [sl 0 28] V (fun r V1 => vMI E d M_X12_take [sl 6 0] V1 (fun r' V2 => r = r' ∧ J' V2))
theorem vo_take {E : EE} {d x m : Nat} {J J' : VH → Prop} (h : VO_take E d J J') : Op_take E d x m (IV E x m J) (IV E x m J') := by
  intro G  hI
  obtain ⟨A, V, hR, rfl, rfl, hJ⟩ := hI
  refine wpM.mono (h V  hJ G A hR) (fun rr G1 hr => ?_)
  obtain ⟨A1, V1, w, hR1, hy, rfl, r, rfl, h2⟩ := hr
  have e := hR.x28 hR1 hy
  refine ⟨r, rfl, by rw [← e.2]; exact hR1.m12, ?_⟩
  rw [← e.2]
  refine wpM.mono (h2 G1 A1 hR1) (fun rr G2 hr => ?_)
  obtain ⟨A2, V2, w, hR2, hy2, rfl, r', rfl, hrr, hJ2⟩ := hr
  have e2 := hR1.x28 hR2 hy2
  exact ⟨r', rfl, hrr, A2, V2, hR2, e2.1.trans e.1, e2.2, hJ2⟩
def VO_bring (E : EE) (d : Nat) (J J' : VH → Prop) : Prop := ∀ (V : VH) , J V → vMI E d M_X11_bring [sl 0 28] V (fun r V1 => vMI E d M_X12_bring [sl 6 0] V1 (fun r' V2 => r = r' ∧ J' V2))
theorem vo_bring {E : EE} {d x m : Nat} {J J' : VH → Prop} (h : VO_bring E d J J') : Op_bring E d x m (IV E x m J) (IV E x m J') := by
  intro G  hI
  obtain ⟨A, V, hR, rfl, rfl, hJ⟩ := hI
  refine wpM.mono (h V  hJ G A hR) (fun rr G1 hr => ?_)
  obtain ⟨A1, V1, w, hR1, hy, rfl, r, rfl, h2⟩ := hr
  have e := hR.x28 hR1 hy
  refine ⟨r, rfl, by rw [← e.2]; exact hR1.m12, ?_⟩
  rw [← e.2]
  refine wpM.mono (h2 G1 A1 hR1) (fun rr G2 hr => ?_)
  obtain ⟨A2, V2, w, hR2, hy2, rfl, r', rfl, hrr, hJ2⟩ := hr
  have e2 := hR1.x28 hR2 hy2
  exact ⟨r', rfl, hrr, A2, V2, hR2, e2.1.trans e.1, e2.2, hJ2⟩
def VOps (E : EE) (d : Nat) (J J' : VH → Prop) : Prop := VO_type E d J J' ∧ VO_cut E d J J' ∧ VO_spoil E d J J' ∧ VO_tapeAt E d J J' ∧ VO_problem E d J J' ∧ VO_fault E d J J' ∧ VO_drop E d J J' ∧ VO_count E d J J' ∧ VO_find E d J J' ∧ VO_letter E d J J' ∧ VO_shown E d J J' ∧ VO_range E d J J' ∧ VO_rule E d J J' ∧ VO_fact E d J J' ∧ VO_change E d J J' ∧ VO_value E d J J' ∧ VO_put E d J J' ∧ VO_pin E d J J' ∧ VO_weigh E d J J' ∧ VO_broken E d J J' ∧ VO_aim E d J J' ∧ VO_score E d J J' ∧ VO_feasible E d J J' ∧ VO_reach E d J J' ∧ VO_isLeft E d J J' ∧ VO_hopeless E d J J' ∧ VO_solve E d J J' ∧ VO_best E d J J' ∧ VO_bests E d J J' ∧ VO_bestAt E d J J' ∧ VO_feasibles E d J J' ∧ VO_feasibleAt E d J J' ∧ VO_has E d J J' ∧ VO_choices E d J J' ∧ VO_mend E d J J' ∧ VO_front E d J J' ∧ VO_frontAt E d J J' ∧ VO_frontPlan E d J J' ∧ VO_near E d J J' ∧ VO_clash E d J J' ∧ VO_fewest E d J J' ∧ VO_relax E d J J' ∧ VO_without E d J J' ∧ VO_whyNot E d J J' ∧ VO_because E d J J' ∧ VO_future E d J J' ∧ VO_told E d J J' ∧ VO_unfold E d J J' ∧ VO_robust E d J J' ∧ VO_expected E d J J' ∧ VO_regret E d J J' ∧ VO_search E d J J' ∧ VO_searched E d J J' ∧ VO_check E d J J' ∧ VO_prove E d J J' ∧ VO_above E d J J' ∧ VO_below E d J J' ∧ VO_save E d J J' ∧ VO_load E d J J' ∧ VO_rows E d J J' ∧ VO_size E d J J' ∧ VO_byteAt E d J J' ∧ VO_crash E d J J' ∧ VO_take E d J J' ∧ VO_bring E d J J'
theorem vops_of {E : EE} {d x m : Nat} {J J' : VH → Prop} (h : VOps E d J J') : Ops E d x m (IV E x m J) (IV E x m J') := by
  obtain ⟨h0, h1, h2, h3, h4, h5, h6, h7, h8, h9, h10, h11, h12, h13, h14, h15, h16, h17, h18, h19, h20, h21, h22, h23, h24, h25, h26, h27, h28, h29, h30, h31, h32, h33, h34, h35, h36, h37, h38, h39, h40, h41, h42, h43, h44, h45, h46, h47, h48, h49, h50, h51, h52, h53, h54, h55, h56, h57, h58, h59, h60, h61, h62, h63, h64⟩ := h
  exact ⟨vo_type h0, vo_cut h1, vo_spoil h2, vo_tapeAt h3, vo_problem h4, vo_fault h5, vo_drop h6, vo_count h7, vo_find h8, vo_letter h9, vo_shown h10, vo_range h11, vo_rule h12, vo_fact h13, vo_change h14, vo_value h15, vo_put h16, vo_pin h17, vo_weigh h18, vo_broken h19, vo_aim h20, vo_score h21, vo_feasible h22, vo_reach h23, vo_isLeft h24, vo_hopeless h25, vo_solve h26, vo_best h27, vo_bests h28, vo_bestAt h29, vo_feasibles h30, vo_feasibleAt h31, vo_has h32, vo_choices h33, vo_mend h34, vo_front h35, vo_frontAt h36, vo_frontPlan h37, vo_near h38, vo_clash h39, vo_fewest h40, vo_relax h41, vo_without h42, vo_whyNot h43, vo_because h44, vo_future h45, vo_told h46, vo_unfold h47, vo_robust h48, vo_expected h49, vo_regret h50, vo_search h51, vo_searched h52, vo_check h53, vo_prove h54, vo_above h55, vo_below h56, vo_save h57, vo_load h58, vo_rows h59, vo_size h60, vo_byteAt h61, vo_crash h62, vo_take h63, vo_bring h64⟩
/-- THE WHOLE, over the view -/
theorem vlaw_of {N : Nat} (hN : N ≤ 3072) (H : ∀ (E : EE) (x : Nat), eFr E → ∃ J : Nat → VH → Prop, (∀ V, WF V → FreshV V x → J 0 V) ∧ (∀ k, 6 * k < N → VOps E 1299 (J k) (J (k + 1))) ∧ (∀ k V, J k V → J (k + 1) V) ∧ ∀ k V, 6 * k ≤ N → J k V → vT V ≤ x + 600000 ∧ vU V ≤ 7302250) : LawOk N := by
  refine lawok_of hN (fun E x m hS hFr => ?_)
  obtain ⟨J, j1, j2, j3, j4⟩ := H E x hFr
  refine ⟨fun k => IV E x m (J k), fun G hF => ?_, fun k hk => vops_of (j2 k hk), fun k G hI => ?_, fun k G hI => ?_, fun k G hk hI => ?_⟩
  · obtain ⟨A, V, hR, e1, e2, hV⟩ := fresh_view (Nat.lt_of_le_of_lt (Nat.zero_le _) hS) hF
    exact ⟨A, V, hR, e1, e2, j1 V hR.wf hV⟩
  · obtain ⟨A, V, hR, e1, e2, hV⟩ := hI
    exact ⟨A, V, hR, e1, e2, j3 k V hV⟩
  · obtain ⟨A, V, hR, e1, e2, hV⟩ := hI
    rw [← e1]; exact hR.x11
  · obtain ⟨A, V, ⟨L, P, rfl, hS⟩, e1, e2, hV⟩ := hI
    exact j4 k _ hk hV
