/-! room -/
def cap0 : List Nat := [0, 60000, 0, 50000, 50000, 50000, 50000, 0, 199, 4, 0, 12, 288, 12, 12, 4096, 0, 12, 20, 12, 0, 30, 3, 0, 0, 60000, 100, 100, 0]
def capP : List Nat := [0, 0, 60000, 96, 4, 0, 12, 240, 12, 0, 30, 24, 24, 30, 30, 200000, 100000, 128, 12, 0, 20000, 60000, 20000, 16, 12, 6, 96, 3, 3, 6, 16, 3]
def capT (g f : Nat) : Nat := if g = 0 then cap0.getD f 0 else capP.getD f 0
def CapOK (V : VH) : Prop := ∀ g f, vL V g = true → g < 6 → f < nf g → vN V g f ≤ capT g f
def w2b (g f : Nat) : Nat := if g ≠ 0 ∧ (f = 20 ∨ f = 22) then 60000 else if g ≠ 0 ∧ f = 21 then 180000 else 2 * capT g f
def w64b (g f : Nat) : Nat := if g ≠ 0 ∧ (f = 20 ∨ f = 21 ∨ f = 22) then 64 * capT g f else 2 * capT g f
theorem rs_le {V : VH} {w : Nat → Nat → Nat → Nat} {B : Nat → Nat → Nat} (h : CapOK V) (hw : ∀ g f n, n ≤ capT g f → w g f n ≤ B g f) : rs w V ≤ sumN 6 (fun g => sumN (nf g) (fun f => B g f)) := by
  refine sumN_le (fun g hg => ?_)
  by_cases c : vL V g = true
  · rw [if_pos c]
    exact sumN_le (fun f hf => hw g f _ (h g f c hg hf))
  · rw [if_neg c]; exact Nat.zero_le _
theorem w2_le {g f n : Nat} (h : n ≤ capT g f) : w2 g f n ≤ w2b g f := by
  unfold w2 w2b
  split
  · split <;> omega
  · split
    · split <;> omega
    · omega
theorem w64_le {g f n : Nat} (h : n ≤ capT g f) : w64 g f n ≤ w64b g f := by
  unfold w64 w64b
  split <;> omega
theorem tot2 : sumN 6 (fun g => sumN (nf g) (fun f => w2b g f)) ≤ 6000000 := by decide +kernel
theorem tot64 : sumN 6 (fun g => sumN (nf g) (fun f => w64b g f)) ≤ 38000000 := by decide +kernel
def Room (x : Nat) (V : VH) : Prop := vU V ≤ 1293303 + rs w2 V ∧ 64 * vT V ≤ 64 * (x + 91) + rs w64 V
theorem Room.up {x : Nat} {V V' : VH} (h : Room x V) (k : Xl V V') : Room x V' := ⟨by have := h.1; have := k.2.2.1; omega, by have := h.2; have := k.2.2.2; omega⟩
theorem Room.ok {x : Nat} {V : VH} (h : Room x V) (k : CapOK V) : vT V ≤ x + 600000 ∧ vU V ≤ 7302250 := by
  have e1 := rs_le (w := w2) (B := w2b) k (fun g f n q => w2_le q)
  have e2 := rs_le (w := w64) (B := w64b) k (fun g f n q => w64_le q)
  have := tot2
  have := tot64
  have := h.1
  have := h.2
  constructor <;> omega
theorem CapOK.of {V : VH} (hW : WF V) (h0 : vN V 0 1 ≤ 60000 ∧ vN V 0 3 ≤ 50000 ∧ vN V 0 4 ≤ 50000 ∧ vN V 0 5 ≤ 50000 ∧ vN V 0 6 ≤ 50000 ∧ vN V 0 15 ≤ 4096 ∧ vN V 0 25 ≤ 60000)
    (hP : ∀ g, 0 < g → g < 6 → vL V g = true → vN V g 2 ≤ 60000 ∧ vN V g 15 ≤ 200000 ∧ vN V g 16 ≤ 100000 ∧ vN V g 20 ≤ 20000 ∧ vN V g 21 ≤ 60000 ∧ vN V g 22 ≤ 20000) : CapOK V := by
  intro g f hl hg hf
  unfold capT
  by_cases c : g = 0
  · subst c
    rw [if_pos rfl]
    have hf : f < 29 := hf
    have z : ∀ f, f < 29 → (f = 1 ∨ f = 3 ∨ f = 4 ∨ f = 5 ∨ f = 6 ∨ f = 15 ∨ f = 25) ∨ (f, cap0.getD f 0) ∈ LN0 := by decide
    rcases z f hf with q | q
    · obtain ⟨k1, k2, k3, k4, k5, k6, k7⟩ := h0
      rcases q with rfl | rfl | rfl | rfl | rfl | rfl | rfl
      · exact k1
      · exact k2
      · exact k3
      · exact k4
      · exact k5
      · exact k6
      · exact k7
    · exact Nat.le_of_eq (hW.2.1 0 hl _ q)
  · rw [if_neg c]
    have hg6 : g ≠ 6 := by omega
    have pg : PG (vL V) g := ⟨hl, c, hg6⟩
    rw [nfP pg] at hf
    have z : ∀ f, f < 32 → (f = 2 ∨ f = 15 ∨ f = 16 ∨ f = 20 ∨ f = 21 ∨ f = 22) ∨ (f, capP.getD f 0) ∈ LNP := by decide
    rcases z f hf with q | q
    · obtain ⟨k1, k2, k3, k4, k5, k6⟩ := hP g (by omega) hg hl
      rcases q with rfl | rfl | rfl | rfl | rfl | rfl
      · exact k1
      · exact k2
      · exact k3
      · exact k4
      · exact k5
      · exact k6
    · refine Nat.le_of_eq (hW.2.1 g hl (f, capP.getD f 0) ?_)
      rw [LNeqP pg]; exact q
theorem fresh_room {V : VH} {x : Nat} (h : FreshV V x) : Room x V := by
  obtain ⟨_, _, _, hT, hU, _⟩ := h
  exact ⟨by rw [hU]; omega, by rw [hT]; omega⟩
theorem fresh_cap {V : VH} {x : Nat} (hW : WF V) (h : FreshV V x) : CapOK V := by
  obtain ⟨hL, _, _, _, _, ⟨_, n1, n3, n4, n5, n6, _, _, _, _, _, _, _, n25, n15⟩, _⟩ := h
  refine CapOK.of hW ⟨by omega, by omega, by omega, by omega, by omega, by omega, by omega⟩ (fun g h1 h2 h3 => ?_)
  rw [hL] at h3
  have := of_decide_eq_true h3
  omega

