/-! whether the class takes the new plan -/
def wrt (sc : Nat → Nat → Int64) (p : Nat) : Int64 := 10000 * sc p 0 + 100 * sc p 1 + sc p 2
def nearb (L s : Nat) (o : Option Nat) : Bool := match o with
  | none => false
  | some t => decide (s ≤ t + L)
def slk (len : Int32) (s n : Nat) : Int64 := Int32.toInt64 (len - len * nI s / nI n)
/-- is it taken; the seed then -/
def tkn (sc : Nat → Nat → Int64) (hw : Nat) (len : Int32) (L s n : Nat) (S : SS) (a b x : Nat) : Bool × Int32 :=
  if hw = 3 then (decide (¬ slk len s n < wrt sc x - wrt sc S.cur), S.sd)
  else if hw = 2 ∧ (nearb L s (S.lc a) || nearb L s (S.lc b)) = true ∧ btr sc x S.kep = false then (false, S.sd)
  else if btr sc S.cur x = false then (true, S.sd)
  else if hw = 1 then (!btr sc (S.lt (s % L)) x, S.sd)
  else if hw = 2 then (decide (dw S.sd 8 = 0), nxs S.sd)
  else (false, S.sd)
/-- how a search may be -/
def HwO (hw : Nat) (len : Int32) (L : Nat) : Prop := hw ≤ 3 ∧ (hw ≠ 0 → len = nI L ∧ 1 ≤ L ∧ L ≤ 10000) ∧ (hw = 1 → L ≤ 20) ∧ (hw = 2 → L ≤ 100)
/-- the state's plans are plans -/
def SsO (T : Nat) (S : SS) : Prop := S.cur < T ∧ S.kep < T ∧ (∀ i, S.lt i < T) ∧ ∀ v t, S.lc v = some t → t ≤ 2000
theorem near_iff {L s : Nat} {o : Option Nat} (hL : L ≤ 100) (hs : s ≤ 2000) (ho : ∀ t, o = some t → t ≤ 2000) : nI s ≤ brI (nI L) o ↔ nearb L s o = true := by
  cases o with
  | none =>
    constructor
    · intro z
      have : ∀ s, s ≤ 2000 → ¬ nI s ≤ (-1 : Int32) := by
        intro s hs z
        have a := Int32.le_iff_toInt_le.mp z
        rw [nI_toInt (by omega), show (-1 : Int32).toInt = -1 from rfl] at a
        omega
      exact absurd z (this s hs)
    · intro z; cases z
  | some t =>
    have ht := ho t rfl
    have e : brI (nI L) (some t) = nI (t + L) := nI_add t L
    have e2 : nearb L s (some t) = decide (s ≤ t + L) := rfl
    rw [e, e2, decide_eq_true_iff]
    constructor
    · intro z
      apply Nat.le_of_not_lt
      intro y
      exact absurd z (nI_ge y (by omega))
    · intro z; exact nI_le z (by omega)
section
variable {E : EE} {d : Nat} {V : VH} {g nv : Nat} {st : Nat → Int32} {sc : Nat → Nat → Int64} {F : Nat} {fre : Nat → Nat} {len : Int32} {S : SS} {T : Nat}
theorem wsd_self (S : SS) : S.wsd S.sd = S := rfl
theorem c_worth {p : Nat} {K : Int64 → VH → Prop} (h0 : 0 < d) (hg : PG (vL V) g) (hT : Tb V g T st sc) (hp : p < T) (hk : K (wrt sc p) V) : vMJ E d M_X6_worth [sl g 19, wi (nI p)] V K :=
  w_X6_worth_0 hg h0 (c_scoreOf (l := 0) hg hT hp (by decide) (c_scoreOf (l := 1) hg hT hp (by decide) (c_scoreOf (l := 2) hg hT hp (by decide) hk)))
theorem c_isTaken {hw L s n a b x : Nat} {K : Int32 → VH → Prop} (h0 : 1 < d) (hg : PG (vL V) g) (hT : Tb V g T st sc) (h : ScC V F fre len S) (ho : SsO T S) (hH : HwO hw len L) (hs : s < n) (hn : n ≤ 2000) (hx : x < T) (ha : a < 12) (hb : b < 12)
    (v12 : vI V 0 16 12 = nI a) (v13 : vI V 0 16 13 = nI b) (v9 : vI V 0 16 9 = nI x)
    (hk : ∀ V', (V' = V ∧ (tkn sc hw len L s n S a b x).2 = S.sd ∨ V' = wrI V 0 16 2 (tkn sc hw len L s n S a b x).2) → K (bI (tkn sc hw len L s n S a b x).1) V') : vMI E d M_X6_isTaken [sl 0 16, sl g 19, wi (nI hw), wi len, wi (nI s), wi (nI n)] V K := by
  obtain ⟨o1, o2, o3, o4⟩ := ho
  obtain ⟨w1, w2, w3, w4⟩ := hH
  have v8 : vI V 0 16 8 = nI S.cur := h.2.2.2.1
  have v10 : vI V 0 16 10 = nI S.kep := h.2.2.2.2.1
  have q1 : nI hw = 1 ↔ hw = 1 := nI_eq (by omega) (by decide)
  have q2 : nI hw = 2 ↔ hw = 2 := nI_eq (by omega) (by decide)
  have q3 : nI hw = 3 ↔ hw = 3 := nI_eq (by omega) (by decide)
  have stay : ∀ r : Bool, tkn sc hw len L s n S a b x = (r, S.sd) → K (bI r) V := fun r e => by
    have := hk V (Or.inl ⟨rfl, by rw [e]⟩)
    rw [e] at this; exact this
  have r118 : hw ≠ 3 → ¬ (hw = 2 ∧ (nearb L s (S.lc a) || nearb L s (S.lc b)) = true ∧ btr sc x S.kep = false) → ∀ t : Int32, vwp E d M_X6_isTaken 118 [some (sl 0 16), some (sl g 19), some (wi (nI hw)), some (wi len), some (wi (nI s)), some (wi (nI n)), some (wi t), none] [] V (zi K) := fun n3 nb t => by
    have et : tkn sc hw len L s n S a b x = (if btr sc S.cur x = false then (true, S.sd) else if hw = 1 then (!btr sc (S.lt (s % L)) x, S.sd) else if hw = 2 then (decide (dw S.sd 8 = 0), nxs S.sd) else (false, S.sd)) := by
      unfold tkn; rw [if_neg n3, if_neg nb]
    refine w_X6_isTaken_118 hg (by omega) ?_
    rw [v8, v9]
    refine c_isBetter (by omega) hg hT o1 hx ⟨fun z => ?_, fun z => ?_⟩
    · have bc : ¬ btr sc S.cur x = false := fun y => z (bI_0.mpr y)
      rw [if_neg bc] at et
      refine ⟨fun z1 => ?_, fun z1 => ?_⟩
      · rw [if_neg (fun y => z1 (q1.mpr y))] at et
        refine ⟨fun z2 => ?_, fun z2 => ?_⟩
        · rw [if_neg (fun y => z2 (q2.mpr y))] at et
          exact stay _ et
        · rw [if_pos (q2.mp z2)] at et
          refine c_draw (n := 8) (by decide) (by decide) h ?_
          have l8 : dw S.sd 8 < 8 := Nat.mod_lt _ (by decide)
          have k := hk (wrI V 0 16 2 (nxs S.sd)) (Or.inr (by rw [et]))
          rw [et] at k
          have e8 : nI (dw S.sd 8) = 0 ↔ dw S.sd 8 = 0 := nI_eq (by omega) (by decide)
          refine ⟨fun y => ?_, fun y => ?_⟩
          · have : decide (dw S.sd 8 = 0) = false := decide_eq_false (fun u => y (e8.mpr u))
            rw [this] at k; exact k
          · have : decide (dw S.sd 8 = 0) = true := decide_eq_true (e8.mp y)
            rw [this] at k; exact k
      · have h1 := q1.mp z1
        rw [if_pos h1] at et
        obtain ⟨el, l1, l2⟩ := w2 (by omega)
        have l20 := w3 h1
        rw [el, nI_rem (show s < 2 ^ 31 by omega) (by omega)]
        have ml : s % L < L := Nat.mod_lt _ (by omega)
        refine ⟨fun y => absurd y (nI_ge (show 0 < L by omega) (by omega)), fun _ => ⟨fun y => absurd y (Int32.not_lt.mpr (nI_le (show L ≤ 20 by omega) (by decide))), fun _ => ⟨nI_ne0 (by omega) (by omega), vp_in_nI (show s % L < 20 by omega) (by decide), ?_⟩⟩⟩
        rw [nI_clamp (show s % L < 2 ^ 31 by omega), h.2.2.2.2.2.2.1 _ (show s % L < 20 by omega), v9]
        refine c_isBetter (by omega) hg hT (o3 _) hx ⟨fun y => ?_, fun y => ?_⟩
        · have : btr sc (S.lt (s % L)) x = true := by cases e : btr sc (S.lt (s % L)) x with
            | false => exact absurd (bI_0.mpr e) y
            | true => rfl
          rw [this] at et; exact stay _ et
        · rw [bI_0.mp y] at et; exact stay _ et
    · rw [if_pos (bI_0.mp z)] at et
      exact stay _ et
  have r94f : hw ≠ 3 → ¬ (hw = 2 ∧ (nearb L s (S.lc a) || nearb L s (S.lc b)) = true) → vwp E d M_X6_isTaken 94 [some (sl 0 16), some (sl g 19), some (wi (nI hw)), some (wi len), some (wi (nI s)), some (wi (nI n)), none, none] [wi 0] V (zi K) := fun n3 nb =>
    w_X6_isTaken_94 hg (by omega) ⟨fun _ => r118 n3 (fun y => nb ⟨y.1, y.2.1⟩) _, fun z => absurd rfl z⟩
  have r94t : hw = 2 → (nearb L s (S.lc a) || nearb L s (S.lc b)) = true → vwp E d M_X6_isTaken 94 [some (sl 0 16), some (sl g 19), some (wi (nI hw)), some (wi len), some (wi (nI s)), some (wi (nI n)), none, none] [wi 1] V (zi K) := fun e2 nb => by
    refine w_X6_isTaken_94 hg (by omega) ⟨fun z => absurd z (by decide), fun _ => ?_⟩
    rw [v9, v10]
    refine c_isBetter (by omega) hg hT hx o2 ⟨fun z => r118 (by omega) (fun y => z (bI_0.mpr y.2.2)) _, fun z => stay false ?_⟩
    unfold tkn
    rw [if_neg (by omega), if_pos ⟨e2, nb, bI_0.mp z⟩]
  refine w_X6_isTaken_0 hg ⟨fun z3 => ?_, fun z3 => ?_⟩
  · have n3 : hw ≠ 3 := fun y => z3 (q3.mpr y)
    refine ⟨fun z2 => w_X6_isTaken_93 hg (r94f n3 (fun y => z2 (q2.mpr y.1))), fun z2 => ?_⟩
    have e2 := q2.mp z2
    obtain ⟨el, l1, l2⟩ := w2 (by omega)
    have l100 := w4 e2
    have b8 := h.2.2.2.2.2.2.2.1
    rw [v12, v13, nI_clamp (show a < 2 ^ 31 by omega), nI_clamp (show b < 2 ^ 31 by omega), b8 a ha, b8 b hb, el]
    have ia := near_iff (o := S.lc a) l100 (show s ≤ 2000 by omega) (fun t e => o4 a t e)
    have ib := near_iff (o := S.lc b) l100 (show s ≤ 2000 by omega) (fun t e => o4 b t e)
    rw [← el]
    rw [← el] at ia ib
    refine ⟨vp_in_nI ha (by decide), fun y => w_X6_isTaken_89 hg (r94t e2 (by rw [ia.mp y]; rfl)), fun y => ⟨vp_in_nI hb (by decide), fun u => w_X6_isTaken_93 hg (r94f n3 (fun w => ?_)), fun u => w_X6_isTaken_89 hg (r94t e2 ?_)⟩⟩
    · have na : nearb L s (S.lc a) = false := by cases e : nearb L s (S.lc a) with
        | false => rfl
        | true => exact absurd (ia.mpr e) y
      have nb : nearb L s (S.lc b) = false := by cases e : nearb L s (S.lc b) with
        | false => rfl
        | true => exact absurd (ib.mpr e) (Int32.not_le.mpr u)
      rw [na, nb] at w
      exact absurd w.2 (by decide)
    · rw [ib.mp (Int32.not_lt.mp u), Bool.or_true]
  · have e3 := q3.mp z3
    refine ⟨fun _ => ⟨nI_ne0 (by omega) (by omega), ?_⟩, fun z => absurd (nI_le (show 1 ≤ n by omega) (by omega)) z⟩
    refine w_X6_isTaken_25 hg (by omega) ?_
    rw [v9]
    refine c_worth (by omega) hg hT hx ?_
    rw [v8]
    have et : tkn sc hw len L s n S a b x = (decide (¬ slk len s n < wrt sc x - wrt sc S.cur), S.sd) := by unfold tkn; rw [if_pos e3]
    refine c_worth (by omega) hg hT o1 ⟨fun y => stay false ?_, fun y => stay true ?_⟩
    · rw [et, decide_eq_false (fun u => u y)]
    · have y2 : ¬ slk len s n < wrt sc x - wrt sc S.cur := y
      rw [et, decide_eq_true y2]
end
