/-- a row of plans whose cells i and j change places -/
def swq (L : Nat → Nat) (i j : Nat) : Nat → Nat := fun a => if a = i then L j else if a = j then L i else L a
theorem swq_i (L : Nat → Nat) (i j : Nat) : swq L i j i = L j := by unfold swq; rw [if_pos rfl]
theorem swq_j (L : Nat → Nat) (i j : Nat) : swq L i j j = L i := by
  unfold swq
  by_cases h : j = i
  · rw [if_pos h, h]
  · rw [if_neg h, if_pos rfl]
theorem swq_o (L : Nat → Nat) {i j a : Nat} (h : a ≠ i) (k : a ≠ j) : swq L i j a = L a := by unfold swq; rw [if_neg h, if_neg k]

/-- below n the same plans stand, each once -/
def Pmt (n : Nat) (L M : Nat → Nat) : Prop := (∀ a, a < n → ∃ b, b < n ∧ M b = L a) ∧ (∀ a, a < n → ∃ b, b < n ∧ L b = M a)
def Inj (n : Nat) (L : Nat → Nat) : Prop := ∀ a b, a < n → b < n → L a = L b → a = b
theorem Pmt.rfl' (n : Nat) (L : Nat → Nat) : Pmt n L L := ⟨fun a h => ⟨a, h, rfl⟩, fun a h => ⟨a, h, rfl⟩⟩
theorem Pmt.tr {n : Nat} {L M N : Nat → Nat} (p : Pmt n L M) (q : Pmt n M N) : Pmt n L N := by
  refine ⟨fun a h => ?_, fun a h => ?_⟩
  · obtain ⟨b, hb, e⟩ := p.1 a h
    obtain ⟨c, hc, f⟩ := q.1 b hb
    exact ⟨c, hc, f.trans e⟩
  · obtain ⟨b, hb, e⟩ := q.2 a h
    obtain ⟨c, hc, f⟩ := p.2 b hb
    exact ⟨c, hc, f.trans e⟩
theorem swq_pm {n i j : Nat} (L : Nat → Nat) (hi : i < n) (hj : j < n) : Pmt n L (swq L i j) := by
  refine ⟨fun a h => ?_, fun a h => ?_⟩
  · by_cases p : a = i
    · exact ⟨j, hj, by rw [swq_j, p]⟩
    · by_cases q : a = j
      · exact ⟨i, hi, by rw [swq_i, q]⟩
      · exact ⟨a, h, swq_o L p q⟩
  · by_cases p : a = i
    · exact ⟨j, hj, by rw [p, swq_i]⟩
    · by_cases q : a = j
      · exact ⟨i, hi, by rw [q, swq_j]⟩
      · exact ⟨a, h, (swq_o L p q).symm⟩
theorem swq_inj {n i j : Nat} {L : Nat → Nat} (hi : i < n) (hj : j < n) (h : Inj n L) : Inj n (swq L i j) := by
  intro a b ha hb e
  by_cases p : a = i
  · subst p
    rw [swq_i] at e
    by_cases p' : b = a
    · exact p'.symm
    · by_cases q' : b = j
      · rw [q', swq_j] at e
        rw [q']
        exact (h j a hj hi e).symm
      · rw [swq_o L p' q'] at e
        exact absurd (h j b hj hb e).symm q'
  · by_cases q : a = j
    · subst q
      rw [swq_j] at e
      by_cases p' : b = i
      · rw [p', swq_i] at e
        rw [p']
        exact (h i a hi ha e).symm
      · by_cases q' : b = a
        · exact q'.symm
        · rw [swq_o L p' q'] at e
          exact absurd (h i b hi hb e).symm p'
    · rw [swq_o L p q] at e
      by_cases p' : b = i
      · rw [p', swq_i] at e
        exact absurd (h a j ha hj e) q
      · by_cases q' : b = j
        · rw [q', swq_j] at e
          exact absurd (h a i ha hi e) p
        · rw [swq_o L p' q'] at e
          exact h a b ha hb e

/-- the child that sinking looks at -/
def chd (bh : Nat → Nat → Bool) (L : Nat → Nat) (at_ n : Nat) : Nat := if 2 * at_ + 2 < n ∧ bh (L (2 * at_ + 2)) (L (2 * at_ + 1)) = true then 2 * at_ + 2 else 2 * at_ + 1
theorem chd_lt {bh : Nat → Nat → Bool} {L : Nat → Nat} {a n : Nat} (h : 2 * a + 1 < n) : chd bh L a n < n ∧ (chd bh L a n = 2 * a + 1 ∨ chd bh L a n = 2 * a + 2) := by
  unfold chd
  by_cases p : 2 * a + 2 < n ∧ bh (L (2 * a + 2)) (L (2 * a + 1)) = true
  · rw [if_pos p]; exact ⟨p.1, Or.inr rfl⟩
  · rw [if_neg p]; exact ⟨h, Or.inl rfl⟩
/-- sinking, with f steps left -/
def snk (bh : Nat → Nat → Bool) (n : Nat) : Nat → Nat → (Nat → Nat) → (Nat → Nat)
  | 0, _, L => L
  | f + 1, a, L => if 2 * a + 1 < n then (if bh (L (chd bh L a n)) (L a) = true then snk bh n f (chd bh L a n) (swq L (chd bh L a n) a) else L) else L
theorem snk_s (bh : Nat → Nat → Bool) (n f a : Nat) (L : Nat → Nat) : snk bh n (f + 1) a L = if 2 * a + 1 < n then (if bh (L (chd bh L a n)) (L a) = true then snk bh n f (chd bh L a n) (swq L (chd bh L a n) a) else L) else L := rfl
/-- a strict order, total -/
def Bto (bh : Nat → Nat → Bool) : Prop := (∀ a, bh a a = false) ∧ (∀ a b c, bh a b = true → bh b c = true → bh a c = true) ∧ (∀ a b, a ≠ b → bh a b = true ∨ bh b a = true)
theorem Bto.ng {bh : Nat → Nat → Bool} (h : Bto bh) {a b : Nat} (k : bh a b = true) : bh b a = false := by
  cases e : bh b a with
  | false => rfl
  | true => exact absurd (h.2.1 _ _ _ k e) (by rw [h.1]; exact Bool.noConfusion)
/-- not behind goes on -/
theorem Bto.nt {bh : Nat → Nat → Bool} (h : Bto bh) {a b c : Nat} (k : bh a b = false) (l : bh b c = false) : bh a c = false := by
  cases e : bh a c with
  | false => rfl
  | true =>
    by_cases q : b = a
    · rw [q, e] at l; exact l.symm ▸ rfl
    · rcases h.2.2 b a q with p | p
      · rw [h.2.1 _ _ _ p e] at l; exact l
      · rw [p] at k; exact k
/-- cells r .. of a heap of n: no child is behind its parent -/
def Hep (bh : Nat → Nat → Bool) (L : Nat → Nat) (r n : Nat) : Prop := ∀ a c, r ≤ a → (c = 2 * a + 1 ∨ c = 2 * a + 2) → c < n → bh (L c) (L a) = false
/-- the same, but for cell q, whose children are not behind its parent -/
def Hpx (bh : Nat → Nat → Bool) (L : Nat → Nat) (r n q : Nat) : Prop := (∀ a c, r ≤ a → a ≠ q → (c = 2 * a + 1 ∨ c = 2 * a + 2) → c < n → bh (L c) (L a) = false) ∧ (∀ a c, r ≤ a → (q = 2 * a + 1 ∨ q = 2 * a + 2) → (c = 2 * q + 1 ∨ c = 2 * q + 2) → c < n → bh (L c) (L a) = false)
theorem chd_top {bh : Nat → Nat → Bool} (hb : Bto bh) {L : Nat → Nat} {a n c : Nat} (hc : c = 2 * a + 1 ∨ c = 2 * a + 2) (hn : c < n) : bh (L c) (L (chd bh L a n)) = false := by
  unfold chd
  by_cases p : 2 * a + 2 < n ∧ bh (L (2 * a + 2)) (L (2 * a + 1)) = true
  · rw [if_pos p]
    rcases hc with e | e
    · rw [e]; exact hb.ng p.2
    · rw [e]; exact hb.1 _
  · rw [if_neg p]
    rcases hc with e | e
    · rw [e]; exact hb.1 _
    · rw [e]
      cases q : bh (L (2 * a + 2)) (L (2 * a + 1)) with
      | false => rfl
      | true => exact absurd ⟨e ▸ hn, q⟩ p
theorem snk_hep {bh : Nat → Nat → Bool} (hb : Bto bh) {r n : Nat} : ∀ (f q : Nat) (L : Nat → Nat), r ≤ q → n ≤ f + q → Hpx bh L r n q → Hep bh (snk bh n f q L) r n := by
  intro f
  induction f with
  | zero =>
    intro q L hr hf h a c ha hc hn
    exact h.1 a c ha (fun e => by omega) hc hn
  | succ f ih =>
    intro q L hr hf h
    rw [snk_s]
    by_cases c0 : 2 * q + 1 < n
    · rw [if_pos c0]
      obtain ⟨k1, k2⟩ := chd_lt (bh := bh) (L := L) c0
      by_cases c1 : bh (L (chd bh L q n)) (L q) = true
      · rw [if_pos c1]
        have top := fun c (hc : c = 2 * q + 1 ∨ c = 2 * q + 2) (hn : c < n) => chd_top hb (L := L) hc hn
        generalize hd : chd bh L q n = d at *
        have hdq : d ≠ q := by omega
        refine ih d _ (by omega) (by omega) ⟨?_, ?_⟩
        · intro a c ha had hc hn
          by_cases e : a = q
          · rw [e, swq_j]
            by_cases e2 : c = d
            · rw [e2, swq_i]
              exact hb.ng c1
            · rw [swq_o L e2 (by omega)]
              exact top c (by rw [← e]; exact hc) hn
          · rw [swq_o L had e]
            by_cases e2 : c = q
            · rw [e2, swq_j]
              exact h.2 a d ha (by rw [← e2]; exact hc) k2 k1
            · by_cases e3 : c = d
              · exfalso; omega
              · rw [swq_o L e3 e2]
                exact h.1 a c ha e hc hn
        · intro a c ha hda hc hn
          have e : a = q := by omega
          rw [e, swq_j, swq_o L (by omega) (by omega)]
          exact h.1 d c (by omega) hdq hc hn
      · rw [if_neg c1]
        intro a c ha hc hn
        by_cases e : a = q
        · have t := chd_top hb (L := L) (a := q) (c := c) (by rw [← e]; exact hc) hn
          rw [e]
          refine hb.nt t ?_
          cases z : bh (L (chd bh L q n)) (L q) with
          | false => rfl
          | true => exact absurd z c1
        · exact h.1 a c ha e hc hn
    · rw [if_neg c0]
      intro a c ha hc hn
      exact h.1 a c ha (fun e => by omega) hc hn
theorem snk_pm {bh : Nat → Nat → Bool} {n m : Nat} (hm : n ≤ m) : ∀ (f q : Nat) (L : Nat → Nat), q < n → Pmt n L (snk bh n f q L) ∧ (Inj m L → Inj m (snk bh n f q L)) ∧ (∀ a, n ≤ a → snk bh n f q L a = L a) := by
  intro f
  induction f with
  | zero => intro q L _; exact ⟨Pmt.rfl' n L, fun h => h, fun a _ => rfl⟩
  | succ f ih =>
    intro q L hq
    rw [snk_s]
    by_cases c0 : 2 * q + 1 < n
    · rw [if_pos c0]
      obtain ⟨k1, k2⟩ := chd_lt (bh := bh) (L := L) c0
      by_cases c1 : bh (L (chd bh L q n)) (L q) = true
      · rw [if_pos c1]
        obtain ⟨a1, a2, a3⟩ := ih (chd bh L q n) (swq L (chd bh L q n) q) k1
        exact ⟨(swq_pm L k1 hq).tr a1, fun h => a2 (swq_inj (by omega) (by omega) h), fun a ha => (a3 a ha).trans (swq_o L (by omega) (by omega))⟩
      · rw [if_neg c1]
        exact ⟨Pmt.rfl' n L, fun h => h, fun a _ => rfl⟩
    · rw [if_neg c0]
      exact ⟨Pmt.rfl' n L, fun h => h, fun a _ => rfl⟩
/-- the first of a heap is behind all others or the same -/
theorem hep_top {bh : Nat → Nat → Bool} (hb : Bto bh) {L : Nat → Nat} {n : Nat} (h : Hep bh L 0 n) : ∀ c, c < n → bh (L c) (L 0) = false := by
  intro c
  induction c using Nat.strongRecOn with
  | ind c ih =>
    intro hc
    by_cases e : c = 0
    · rw [e]; exact hb.1 _
    · have hp : (c - 1) / 2 < c := by omega
      exact hb.nt (h ((c - 1) / 2) c (Nat.zero_le _) (by omega) hc) (ih _ hp (by omega))
theorem hep_hpx {bh : Nat → Nat → Bool} {L : Nat → Nat} {n r : Nat} (h : Hep bh L (r + 1) n) : Hpx bh L r n r :=
  ⟨fun a c ha hn hc hl => h a c (by omega) hc hl, fun a c ha hq _ _ => by exfalso; omega⟩
theorem hep_out {bh : Nat → Nat → Bool} {L : Nat → Nat} {n r : Nat} (hr : n ≤ 2 * r + 1) : Hep bh L r n := fun a c ha hc hl => by exfalso; omega
/-- the first cells are a heap, what follows is sorted and behind them -/
def Hsr (bh : Nat → Nat → Bool) (L : Nat → Nat) (k n : Nat) : Prop := Hep bh L 0 k ∧ (∀ a b, a < b → k ≤ b → b < n → bh (L b) (L a) = true)
theorem hsr_step {bh : Nat → Nat → Bool} (hb : Bto bh) {L : Nat → Nat} {k n : Nat} (hk : 0 < k) (hn : k < n) (hi : Inj n L) (h : Hsr bh L (k + 1) n) : Hsr bh (snk bh k k 0 (swq L 0 k)) k n := by
  obtain ⟨p1, p2, p3⟩ := snk_pm (bh := bh) (n := k) (m := n) (by omega) k 0 (swq L 0 k) hk
  have top := hep_top hb h.1
  refine ⟨snk_hep hb k 0 _ (Nat.le_refl 0) (by omega) ⟨fun a c _ ha hc hl => ?_, fun a c _ hq _ _ => by exfalso; omega⟩, ?_⟩
  · rw [swq_o L (by omega) (by omega), swq_o L ha (by omega)]
    exact h.1 a c (Nat.zero_le a) hc (by omega)
  · intro a b hab hkb hbn
    rw [p3 b hkb]
    have ex : ∃ c, c < b ∧ snk bh k k 0 (swq L 0 k) a = swq L 0 k c ∧ (b = k → c < k) := by
      by_cases q : a < k
      · obtain ⟨c, hc, e⟩ := p1.2 a q
        exact ⟨c, by omega, e.symm, fun _ => hc⟩
      · exact ⟨a, hab, p3 a (by omega), fun e => by omega⟩
    obtain ⟨c, hc, e, hck⟩ := ex
    rw [e]
    by_cases hbk : b = k
    · have hc2 := hck hbk
      rw [hbk, swq_j]
      by_cases c0 : c = 0
      · rw [c0, swq_i]
        rcases hb.2.2 (L 0) (L k) (fun z => absurd (hi 0 k (by omega) hn z) (by omega)) with z | z
        · exact z
        · rw [top k (by omega)] at z; exact Bool.noConfusion z
      · rw [swq_o L c0 (by omega)]
        rcases hb.2.2 (L 0) (L c) (fun z => absurd (hi 0 c (by omega) (by omega) z).symm c0) with z | z
        · exact z
        · rw [top c (by omega)] at z; exact Bool.noConfusion z
    · rw [swq_o L (by omega) hbk]
      by_cases c0 : c = 0
      · rw [c0, swq_i]; exact h.2 k b (by omega) (by omega) hbn
      · by_cases ck : c = k
        · rw [ck, swq_j]; exact h.2 0 b (by omega) (by omega) hbn
        · rw [swq_o L c0 ck]; exact h.2 c b hc (by omega) hbn
