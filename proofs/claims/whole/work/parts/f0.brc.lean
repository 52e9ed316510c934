/-! bring: rows of an export; the class looks at them -/
section
variable {E : EE} {d : Nat} {V V' W W' : VH} {q g m N w e s s' s'' : Nat} {t : Nat → Int32} {n : Nat} {R : List SR} {nt fa : Nat → Int32} {b b' : Nat → Nat}
def tB (b : Nat → Nat) (s : Nat) : Nat → Int32 := fun i => nI (b (s + 3 + i))
def nB (b : Nat → Nat) (s : Nat) : Nat := pkb (fun j => b (s + 1 + j)) 2
/-- at s stands a row that is right and ends at s' -/
def RwY (b : Nat → Nat) (e s s' : Nat) : Prop := ∃ R, RrY b s e (nB b s) (tB b s) R ∧ nL (pkb (fun j => b (s + ndR (nB b s) R - 8 + j)) 8) = smW b s (ndR (nB b s) R - 8) ∧ s' = s + ndR (nB b s) R
theorem RwY.uq (h : RwY b e s s') (h' : RwY b e s s'') : s' = s'' := by
  obtain ⟨R, y, _, rfl⟩ := h
  obtain ⟨R', y', _, rfl⟩ := h'
  have : R = R' := by
    have a := y.2.2.2.1
    rw [y'.2.2.2.1] at a
    exact congrArg Prod.snd (Sum.inr.inj a.symm)
  rw [this]
theorem RwY.no (h : RrF b s e (nB b s) (tB b s)) : ¬ RwY b e s s' := fun ⟨R, y, _, _⟩ => by
  obtain ⟨y1, y2, y3, y4, y5, y6⟩ := y
  rcases h with h | h | h | ⟨z, h⟩ | ⟨R', h1, h2⟩
  · omega
  · exact h y2
  · omega
  · rw [y4] at h; exact nomatch h
  · rw [y4] at h1
    have : R = R' := congrArg Prod.snd (Sum.inr.inj h1)
    subst this
    rcases h2 with h2 | h2
    · omega
    · exact h2 y6
theorem RwY.le (h : RwY b e s s') : s + 13 ≤ s' ∧ s' ≤ e := by
  obtain ⟨R, y, _, rfl⟩ := h
  exact ⟨by unfold ndR; omega, y.2.2.2.2.1⟩
theorem mixS_bt {y : Int64} (t : Nat → Int32) (i : Nat) : mixS y (nI (bt t i)) = mixS y (t i) := by
  have e : nI (bt t i) &&& 255 = t i &&& 255 := by
    rw [← bt_nI, Int32.and_assoc]
    rfl
  unfold mixS
  rw [e]
theorem sumS_bt {t : Nat → Int32} : ∀ (n lo : Nat) (y : Int64), sumS (fun i => nI (bt t i)) lo n y = sumS t lo n y := by
  intro n
  induction n with
  | zero => intro lo y; rw [sumS_zero, sumS_zero]
  | succ n ih => intro lo y; rw [sumS_succ, sumS_succ, ih, mixS_bt]
/-- a row whose text and values are right can be loaded -/
theorem row_of (hs : PrS t n R nt) (hb : ∀ j, b j < 256) (h1 : b s = 211) (h2 : nB b s = n) (h3 : ∀ i, i < n → b (s + 3 + i) = bt t i) (h4 : RsOK b (s + 3 + n) R) : RowOK b s (s + ndR n R) := by
  refine ⟨t, n, R, nt, rsF b (s + 3 + n), rsK b (s + 3 + n) R, rsC b (s + 3 + n) R, rsX b (s + 3 + n) R, hs, h1, h2, h3, fun k hk => ⟨h4.1 k hk, ?_⟩, fun v hv => ?_, rfl, h4.2.2, by unfold ndR; omega⟩
  · have := pkb_lt (f := fun j => b (s + 3 + n + 4 * k + j)) 4 (fun j _ => hb _)
    show _ = (BitVec.ofNat 32 (pkb (fun j => b (s + 3 + n + 4 * k + j)) 4)).toNat
    rw [BitVec.toNat_ofNat, Nat.mod_eq_of_lt (by omega)]
  · obtain ⟨k1, k2⟩ := rsK_is (h4.2.1 v hv).1
    refine ⟨k2, ?_, rfl, (h4.2.1 v hv).2⟩
    unfold rsP at k1
    rcases fsb_pl (sz := szR R v) (vl := vlR R v) (y := i2b (nI (b (s + 3 + n + 4 * tcR R 0 + 3 * v)))) with ⟨w1, _⟩ | ⟨k, hk, ek, _, w2⟩
    · rw [w1] at k1; exact nomatch k1
    · rw [w2] at k1
      have ek' : rsK b (s + 3 + n) R v = k := (Option.some.inj k1).symm
      rw [ek']
      unfold bt
      rw [ek]
      have a := bt_i2b (fun _ => nI (b (s + 3 + n + 4 * tcR R 0 + 3 * v))) 0
      have b1 := bt_of (y := b (s + 3 + n + 4 * tcR R 0 + 3 * v)) (i := 0) (hb _)
      unfold bt at a b1
      rw [a, b1]
/-- what looking at rows leaves of V -/
def BrC (V W : VH) : Prop := vL W = vL V ∧ (∀ a f, a ≠ 5 → ¬ (a = 0 ∧ (2 ≤ f ∧ f ≤ 8 ∨ f = 27)) → vN W a f = vN V a f ∧ vI W a f = vI V a f ∧ vJ W a f = vJ V a f) ∧ (∃ cap, TkN W cap) ∧ (CpS W 5 ∧ TbN W 5 ∧ ∃ n, Byt W 5 1 n) ∧ ∀ g, 1 ≤ g → g ≤ 5 → ¬ vL W g = true → vP W ≠ g ∧ vQ W ≠ g
theorem BrC.rd (h : BrC V W) (l5 : vL V 5 = true) (k : PcG W W' 5 n) : BrC V W' := by
  obtain ⟨h1, h2, h3, h4, h5⟩ := h
  obtain ⟨k1, k2, k3, k4, k5, k6⟩ := k
  refine ⟨by rw [k1, h1], fun a f z1 z2 => ?_, k3, ⟨k4.1, k4.2, n, k6⟩, fun g z1 z2 z3 => ?_⟩
  · have y1 := h2 a f z1 z2
    have y2 := k2 a f z1 (fun y => z2 (by omega))
    exact ⟨by rw [y2.1, y1.1], by rw [y2.2.1, y1.2.1], by rw [y2.2.2, y1.2.2]⟩
  · have : g ≠ 5 := fun z => z3 (by rw [z, k1, h1]; exact l5)
    rw [k5.1, k5.2]
    exact ⟨fun z => this z.symm, fun z => this z.symm⟩
theorem BrC.fc (h : BrC V W) {S : Nat → Nat → Nat → Prop} (k : Fc W W' S) (c : ∀ a f j, S a f j → a = 5 ∧ f ≠ 1 ∨ a = 0 ∧ f = 27) : BrC V W' := by
  obtain ⟨h1, h2, ⟨cap, h3⟩, ⟨h4, h6, l, h7⟩, h5⟩ := h
  have n1 : ∀ a f j, a ≠ 5 → ¬ (a = 0 ∧ f = 27) → ¬ S a f j := fun a f j z1 z2 y => by have := c a f j y; omega
  refine ⟨by rw [k.l, h1], fun a f z1 z2 => ?_, ⟨cap, by unfold TkN; rw [k.n]; exact h3⟩, ⟨by unfold CpS; rw [k.n]; exact h4, by unfold TbN; rw [k.n]; exact h6, l, h7.fc2 k (fun y => by have := c _ _ _ y; omega)⟩, fun g z1 z2 z3 => ?_⟩
  · have y1 := h2 a f z1 z2
    have z3 : ¬ (a = 0 ∧ f = 27) := fun y => z2 (by omega)
    exact ⟨by rw [k.n, y1.1], by rw [← y1.2.1]; exact funext fun j => k.i (n1 a f j z1 z3), by rw [← y1.2.2]; exact funext fun j => k.j (n1 a f j z1 z3)⟩
  · rw [k.l] at z3
    unfold vP vQ
    rw [k.2.2.1]
    exact h5 g z1 z2 z3
theorem BrC.tp (h : BrC V W) (tp : Byt V 0 0 N) : Byt W 0 0 N := by
  obtain ⟨b1, b2, b3, b4, b5⟩ := tp
  have e := (h.2.1 0 (0 + 1) (by omega) (by omega)).1
  exact ⟨⟨by rw [h.1]; exact b1.1, b1.2⟩, by rw [(h.2.1 0 0 (by omega) (by omega)).2.1]; exact b2, by rw [e]; exact b3, by rw [e]; exact b4, by rw [e]; exact b5⟩
/-- ends of rows up to i -/
def RwS2 (b : Nat → Nat) (e i : Nat) (en : Nat → Nat) : Prop := en 0 = 2 ∧ ∀ j, j < i → RwY b e (en j) (en (j + 1)) ∧ RowOK b (en j) (en (j + 1))
theorem RwS2.le {en : Nat → Nat} {i : Nat} (h : RwS2 b e i en) (h2 : 2 ≤ e) : ∀ j, j ≤ i → 2 + 13 * j ≤ en j ∧ en j ≤ e := by
  intro j
  induction j with
  | zero => intro _; rw [h.1]; exact ⟨Nat.le_refl _, h2⟩
  | succ j ih =>
    intro hj
    have := (h.2 j (by omega)).1.le
    have := ih (by omega)
    omega
theorem bringC_go {K : Int32 → VH → Prop} (hE : eFr E) (h0 : 200 < d) (l5 : vL V 5 = true) (tp : Byt V 0 0 N) (N20 : N ≤ 20000) (N10 : 10 ≤ N) (w16 : w < 65536) (hb0 : BrC V V)
    (hF : ∀ k en, k < w → RwS2 (bt (vI V 0 1)) (N - 8) k en → (∀ s', ¬ RwY (bt (vI V 0 1)) (N - 8) (en k) s') → ∀ W, BrC V W → K (-1) W)
    (hX : ∀ en, RwS2 (bt (vI V 0 1)) (N - 8) w en → en w ≠ N - 8 → ∀ W, BrC V W → K (-1) W)
    (hR : ∀ en, RwS2 (bt (vI V 0 1)) (N - 8) w en → en w = N - 8 → ∀ W, BrC V W → (∀ j, j < w → j < 100 → vI W 0 27 j = nI (en (j + 1) - 2)) → vMI E (d - 1) M_X8_hasRoom [sl 0 23, wi (nI w), wi (nI (N - 8) - 2)] W (fun r1 V1 => (¬ r1 = 0 → vMV E (d - 1) M_X8_append [sl 0 23, sl 0 0, wi (nI w), wi (nI (N - 8) - 2)] V1 (fun V3 => vMV E (d - 1) M_X0_keep [sl 0 0, wi 0] V3 (fun V5 => K (nI w) V5))) ∧ (r1 = 0 → K (-100000) V1))) : vwp E d M_X11_bring 36 [some (sl 0 28), some (wi (nI w)), none, none, none] [] V (zi K) := by
  generalize eb : bt (vI V 0 1) = b at *
  have hb : ∀ j, b j < 256 := fun j => by rw [← eb]; exact bt_lt _ _
  have pg5 : ∀ {W}, BrC V W → PG (vL W) 5 := fun h => ⟨by rw [h.1]; exact l5, by decide, by decide⟩
  have t1 : ∀ {W}, BrC V W → vI W 0 (0 + 1) = vI V 0 1 := fun h => (h.2.1 0 1 (by omega) (by omega)).2.1
  have go : ∀ m i s W en, i + m = w → BrC V W → RwS2 b (N - 8) i en → en i = s → (∀ j, j < i → j < 100 → vI W 0 27 j = nI (en (j + 1) - 2)) → vwp E d M_X11_bring 40 [some (sl 0 28), some (wi (nI w)), some (wi (nI s)), some (wi (nI i)), none] [] W (zi K) := by
    intro m
    induction m with
    | zero =>
      intro i s W en ei bw rw2 es h27
      have : i = w := by omega
      subst this
      have le := (rw2.le (by omega) i (Nat.le_refl i)).2
      refine w_X11_bring_40 (by omega) ⟨fun _ => ?_, fun z => absurd (nI_le (Nat.le_refl _) (by omega)) z⟩
      rw [(bw.tp tp).2.1, show (8 : Int32) = nI 8 from rfl, nI_sub (show 8 ≤ N by omega)]
      refine ⟨fun z => ?_, fun z => hX en rw2 (fun y => z (by rw [← es, y])) W bw⟩
      have z' : en i = N - 8 := by rw [es]; exact (nI_eq (by omega) (by omega)).mp z
      rw [z]
      exact hR en rw2 z' W bw h27
    | succ m ih =>
      intro i s W en ei bw rw2 es h27
      have le := rw2.le (by omega) i (Nat.le_refl i)
      rw [es] at le
      have no : (∀ s', ¬ RwY b (N - 8) s s') → ∀ W', BrC V W' → K (-1) W' := fun h W' bw' => hF i en (by omega) rw2 (by rw [es]; exact h) W' bw'
      refine w_X11_bring_40 (by omega) ⟨fun z => absurd z (nI_ge (by omega) (by omega)), fun _ => c_textL (by omega) (bw.tp tp) (by omega) (fun z => ?_) (fun s3 b211 sn => ?_)⟩
      · refine ⟨fun y => absurd y (by decide), fun _ => no (fun s' y => z ?_) W bw⟩
        obtain ⟨R, y, _, _⟩ := y
        rw [t1 bw, eb]
        exact ⟨by have := y.1; omega, y.2.1, by have := y.2.2.1; show s + 3 + nB b s ≤ N; omega⟩
      rw [t1 bw, eb] at b211 sn ⊢
      have en0 : pkb (fun j => b (s + 1 + j)) 2 = nB b s := rfl
      rw [en0] at sn ⊢
      generalize e_n : nB b s = n at *
      refine ⟨fun _ => ⟨pg5 bw, ?_⟩, fun y => absurd (nI_le (a := 0) (Nat.zero_le _) (by omega)) y⟩
      rw [show (3 : Int32) = nI 3 from rfl, nI_add]
      obtain ⟨cap, tk⟩ := bw.2.2.1
      obtain ⟨cp, tb, l, b51⟩ := bw.2.2.2.1
      have tx : ∀ {t : Nat → Int32}, (∀ i, i < n → t i = vI W 0 (0 + 1) (s + 3 + i)) → ∀ j, j < n → bt (tB b s) j = bt t j := fun {t} ht j hj => by
        have a := bt_of (y := b (s + 3 + j)) (i := j) (hb _)
        have a' : bt (tB b s) j = b (s + 3 + j) := a
        rw [a', ← eb]
        unfold bt
        rw [ht j hj, t1 bw]
      refine c_btr hE (by omega) (pg5 bw) cp tb b51.2.2.2.1 b51.2.2.2.2 tk (bw.tp tp) sn (by omega) (fun t ht e he V14 pc => ⟨fun z => absurd rfl z, fun _ => ?_⟩) (fun t ht R hR V14 pc ps cl => ⟨fun _ => ?_, fun z => absurd z (by decide)⟩)
      · refine no (fun s' y => ?_) V14 (bw.rd l5 pc)
        obtain ⟨R, y, _, _⟩ := y
        have := y.2.2.2.1
        rw [e_n, tkT_ext (tx ht), he] at this
        exact nomatch this
      have b14 : BrC V V14 := bw.rd l5 pc
      have uR : ∀ {R2}, RrY b s (N - 8) (nB b s) (tB b s) R2 → R2 = R := fun y => by
        have := y.2.2.2.1
        rw [e_n, tkT_ext (tx ht), hR] at this
        exact congrArg Prod.snd (Sum.inr.inj this.symm)
      have sp := cl.2.2.2.2.2.1.2.1
      have n16 : tcR R 0 ≤ 16 := ps.2.2.2.1.1 0 (by decide)
      have n12 : tcR R 1 ≤ 12 := sp.2.2.1
      have e4 : vI V14 5 4 0 = nI (tcR R 0) := (cl.2.2.2.2.1.1 0 (by decide)).1
      have T14 := b14.tp tp
      refine w_X8_rowEnd_0 T14.1 (pg5 b14) (by omega) (w_X8_stateLength_0 (pg5 b14) ?_)
      rw [show Int32.toNatClampNeg 0 = 0 from rfl, e4, sp.2.1, cl.2.1.1.2.1, T14.2.1, show (8 : Int32) = nI 8 from rfl, nI_sub (show 8 ≤ N by omega), show (3 : Int32) = nI 3 from rfl, show (4 : Int32) = nI 4 from rfl, show (2 : Int32) = nI 2 from rfl, nI_mul, nI_mul, nI_add, nI_add, nI_add, nI_add, nI_add, nI_add]
      have ned : s + 3 + n + (4 * tcR R 0 + 3 * tcR R 1 + 2) + 8 = s + ndR n R := by unfold ndR; omega
      have ned8 : s + 3 + n + (4 * tcR R 0 + 3 * tcR R 1 + 2) = s + ndR n R - 8 := by unfold ndR; omega
      rw [ned, ned8]
      have nd8 : 8 ≤ ndR n R := by unfold ndR; omega
      have ndl : ndR n R ≤ n + 113 := by unfold ndR; omega
      have far : ∀ s', RwY b (N - 8) s s' → s + ndR n R ≤ N - 8 := fun s' y => by
        obtain ⟨R2, y, _, _⟩ := y
        have := uR y
        subst this
        have := y.2.2.2.2.1
        rw [e_n] at this
        exact this
      refine ⟨fun z => ?_, fun z => ⟨fun y => absurd y (by decide), fun _ => no (fun s' y => z (nI_le (far s' y) (by omega))) V14 b14⟩⟩
      have hend : s + ndR n R ≤ N - 8 := Nat.le_of_not_lt (fun u => absurd z (nI_ge u (by omega)))
      refine c_sum (by omega) T14 (by omega) (by omega) (c_number (m := 8) (by omega) T14 (by omega) ?_)
      rw [numS_pkb 8 (by decide), t1 b14, eb, ← sumS_bt, show (fun i => nI (bt (vI V 0 1) i)) = fun i => nI (b i) by rw [eb], show s + ndR n R - 8 - s = ndR n R - 8 by omega]
      refine ⟨fun z => ⟨fun y => absurd y (by decide), fun _ => no (fun s' y => ?_) V14 b14⟩, fun zs => ?_⟩
      · obtain ⟨R2, y, y2, _⟩ := y
        have := uR y
        subst this
        rw [e_n] at y2
        exact z y2.symm
      refine c_restore (R := R) (by omega) T14 (by decide) sp e4 n16 cl.2.2.2.1.1 (by omega) (fun z V' f' => ⟨fun y => absurd rfl y, fun _ => ⟨fun y => absurd y (by decide), fun _ => no (fun s' y => ?_) V' (b14.fc f' (fun a f j y => Or.inl ⟨y.1, by have := y.2; omega⟩))⟩⟩) (fun ok V' h f' h23 h8 hl hd h24 h9 => ⟨fun _ => ?_, fun y => absurd y (by decide)⟩)
      · obtain ⟨R2, y, y2, _⟩ := y
        have := uR y
        subst this
        have := y.2.2.2.2.2
        rw [e_n] at this
        rw [t1 b14, eb] at z
        exact z this
      rw [t1 b14, eb] at ok
      have b' : BrC V V' := b14.fc f' (fun a f j y => Or.inl ⟨y.1, by have := y.2; omega⟩)
      have yes : RwY b (N - 8) s (s + ndR n R) := ⟨R, ⟨by omega, b211, by rw [e_n]; unfold ndR at hend; omega, by rw [e_n, tkT_ext (tx ht), tln_ext (tx ht)]; exact hR, by rw [e_n]; exact hend, by rw [e_n]; exact ok⟩, by rw [e_n]; exact zs.symm, by rw [e_n]⟩
      have rok : RowOK b s (s + ndR n R) := row_of ps hb b211 e_n (fun j hj => by rw [← tx ht j hj]; exact (bt_of (y := b (s + 3 + j)) (i := j) (hb _)).symm) ok
      refine ⟨fun _ => ?_, fun y => absurd (nI_le (a := 0) (Nat.zero_le _) (by omega)) y⟩
      rw [nI_sub (show 2 ≤ s + ndR n R by omega), nI_1]
      have rw3 : RwS2 b (N - 8) (i + 1) (fun j => if j ≤ i then en j else s + ndR n R) := by
        refine ⟨by dsimp only; rw [if_pos (Nat.zero_le _)]; exact rw2.1, fun j hj => ?_⟩
        dsimp only
        by_cases c : j = i
        · subst c
          rw [if_pos (Nat.le_refl _), if_neg (by omega), es]
          exact ⟨yes, rok⟩
        · rw [if_pos (by omega), if_pos (by omega)]
          exact rw2.2 j (by omega)
      refine w_X8_noteEnd_0 ⟨fun y => absurd y (nI_pos (by omega)), fun _ => ⟨fun y => ?_, fun y => ?_⟩⟩
      · have i100 : 100 ≤ i := Nat.le_of_not_lt (fun u => absurd y (nI_ge (b := 100) u (by decide)))
        refine ih (i + 1) _ V' _ (by omega) b' rw3 (if_neg (by omega)) (fun j h1 h2 => ?_)
        rw [if_pos (by omega), f'.i (fun y => absurd y.1 (by decide)), (pc.2.1 0 27 (by decide) (by omega)).2.1]
        exact h27 j (by omega) h2
      · have i100 : i < 100 := Nat.lt_of_not_le (fun u => y (nI_le (a := 100) u (by omega)))
        rw [nI_clamp (show i < 2 ^ 31 by omega)]
        refine ⟨vp_in_nI i100 (by decide), fun V2 e2 => ?_⟩
        have f2 : Fc V' V2 (fun a f j => a = 0 ∧ f = 27 ∧ j = i) := by rw [e2]; exact Fc_wrI ⟨rfl, rfl, rfl⟩
        refine ih (i + 1) _ V2 _ (by omega) (b'.fc f2 (fun a f j y => Or.inr ⟨y.1, y.2.1⟩)) rw3 (if_neg (by omega)) (fun j h1 h2 => ?_)
        by_cases c : j = i
        · subst c
          rw [if_neg (by omega), e2, wrI_at]
        · rw [if_pos (by omega), f2.i (fun y => c y.2.2), f'.i (fun y => absurd y.1 (by decide)), (pc.2.1 0 27 (by decide) (by omega)).2.1]
          exact h27 j (by omega) h2
  exact w_X11_bring_36 (go w 0 2 V (fun _ => 2) (Nat.zero_add w) hb0 ⟨rfl, fun j hj => absurd hj (Nat.not_lt_zero j)⟩ rfl (fun j hj => absurd hj (Nat.not_lt_zero j)))
end
