/-! texts of the program: how long, which sign, whether there is one -/
theorem shr0 (x : Int32) : x >>> ((0 : Int32) &&& 31) = x := by
  apply Int32.toBitVec_inj.mp
  show x.toBitVec.sshiftRight' (((0 : Int32) &&& 31).toBitVec.smod 32#32) = _
  rw [show (((0 : Int32) &&& 31).toBitVec.smod 32#32) = 0#32 from by decide]
  show x.toBitVec.sshiftRight 0 = _
  exact BitVec.sshiftRight_zero
section
variable {E : EE} {d : Nat} {V : VH} {n : Nat}
theorem okI_ch {b : Nat} (h : b < 256) : okI .char (i2c (nI b &&& 255)) := by
  have z : ∀ b : Fin 256, narrow .char (.int (i2c (nI b.val &&& 255))) = .int (i2c (nI b.val &&& 255)) ∧ fits .char (.int (i2c (nI b.val &&& 255))) = true := by decide +kernel
  exact z ⟨b, h⟩
theorem wpM_len (hn : n < 22) (h0 : 1 < d) (G : AH) : wpI E d M_J0_length_8abf5 [vs (eK E n)] G (fun r G' => r = nI (txN n) ∧ G' = G) := by
  refine wpM_of mk_J0_length_8abf5 (Nat.le_of_ble_eq_true rfl) ?_
  refine v_J0_length_8abf5_0 (by omega) ⟨hn, ?_⟩
  refine wpM_of mk_J0_coder_7d493 (Nat.le_of_ble_eq_true rfl) ?_
  exact v_J0_coder_7d493_0 ⟨fun q => absurd q (by decide), fun _ => ⟨hn, ⟨rfl, rfl⟩, 0, rfl, _, rfl, shr0 _, rfl⟩⟩
theorem wpM_lat (hn : n < 22) (G : AH) : wpI E d M_J0_isLatin1_aae02 [vs (eK E n)] G (fun r G' => r = 1 ∧ G' = G) := by
  refine wpM_of mk_J0_isLatin1_aae02 (Nat.le_of_ble_eq_true rfl) ?_
  exact v_J0_isLatin1_aae02_0 ⟨fun q => absurd q (by decide), fun _ => ⟨hn, fun q => absurd rfl q, fun _ => ⟨1, rfl, rfl, rfl⟩⟩⟩
theorem c_tlen {K : Int32 → VH → Prop} (hn : n < 22) (h0 : 1 < d) (hk : K (nI (txN n)) V) : vMI E d M_J0_length_8abf5 [wt n] V K :=
  vMI.mono (vMI_pure (x := nI (txN n)) (fun G A => wpM_len hn h0 G)) (fun r V' z => by rw [z.1, z.2]; exact hk)
theorem tx_lt : ∀ n, n < 22 → txN n < 30 ∧ ∀ j, j < txN n → txAt n j = nI (txAt n j).toBitVec.toNat ∧ 0 < (txAt n j).toBitVec.toNat ∧ (txAt n j).toBitVec.toNat < 128 := by decide +kernel
/-- sign j of text n -/
def txB (n j : Nat) : Nat := (txAt n j).toBitVec.toNat
theorem c_charAt {j : Nat} {K : Int32 → VH → Prop} (hF : eFr E) (hn : n < 22) (hj : j < txN n) (h0 : 3 < d) (hk : K (nI (txB n j)) V) : vMI E d M_J0_charAt_5068e [wt n, wi (nI j)] V K := by
  obtain ⟨hl, hb⟩ := tx_lt n hn
  obtain ⟨b1, b2, b3⟩ := hb j hj
  have e : i2c (txAt n j &&& 255) = nI (txB n j) := by
    rw [b1]
    have z : ∀ b : Fin 128, i2c (nI b.val &&& 255) = nI b.val := by decide +kernel
    exact z ⟨_, b3⟩
  refine vMI.mono (vMI_pure (x := nI (txB n j)) (fun G A => ?_)) (fun r V' z => by rw [z.1, z.2]; exact hk)
  refine wpM_of mk_J0_charAt_5068e (Nat.le_of_ble_eq_true rfl) ?_
  refine v_J0_charAt_5068e_0 (by omega) ⟨hn, ?_⟩
  refine wpM.mono (wpM_lat hn G) (fun r G' ⟨y, e1, e2, e3⟩ => ⟨y, e1, fun q => absurd (q.symm.trans e2) (by decide), fun _ => ?_⟩)
  subst e3
  refine wpM_of mk_J1_charAt_3b067 (Nat.le_of_ble_eq_true rfl) ?_
  refine v_J1_charAt_3b067_0 (by omega) ⟨hn, ?_⟩
  refine wpM_of mk_J0_checkIndex_df160 (Nat.le_of_ble_eq_true rfl) ?_
  refine v_J0_checkIndex_df160_0 (by omega) ?_
  have eL : entL [vi (nI j), vi (nI (txN n)), eF E] = [some (vi (nI j)), some (vi (nI (txN n))), some (eF E)] := by
    obtain ⟨a, e | e⟩ := hF <;> rw [e] <;> rfl
  refine wpM_of mk_J3_checkIndex_8e157 (by rw [eL]; exact Nat.le_of_ble_eq_true rfl) ?_
  rw [eL]
  refine v_J3_checkIndex_8e157_0 ⟨fun q => absurd q (nI_pos (by omega)), fun _ => ⟨fun _ => ?_, fun q => absurd (nI_lt hj (by omega)) q⟩⟩
  refine ⟨_, rfl, rfl, vp_in_nI hj (by omega), ?_⟩
  rw [nI_clamp (show j < 2 ^ 31 by omega)]
  have ok : okI .char (i2c (txAt n j &&& 255)) := by rw [b1]; exact okI_ch (by omega)
  refine ⟨ok, _, rfl, ok, _, rfl, e, rfl⟩
/-- the signs -/
def isS (c : Nat) : Bool := decide (c = 59 ∨ c = 61 ∨ c = 35 ∨ c = 60 ∨ c = 62 ∨ c = 43 ∨ c = 45 ∨ c = 42 ∨ c = 40 ∨ c = 41 ∨ c = 91 ∨ c = 93 ∨ c = 123 ∨ c = 125 ∨ c = 44 ∨ c = 58 ∨ c = 38 ∨ c = 124 ∨ c = 126 ∨ c = 33 ∨ c = 46)
theorem isS_mem : ∀ c : Fin 256, isS c.val = true ↔ ∃ j, j < 21 ∧ txAt 4 j = i2b (nI c.val) := by decide +kernel
theorem c_indexOf {c : Nat} {K : Int32 → VH → Prop} (hc : c < 256) (h0 : 4 < d) (hy : ∀ j, j < 21 → isS c = true → K (nI j) V) (hn : isS c = false → K (-1) V) : vMI E d M_J0_indexOf_0f7a4 [wt 4, wi (i2c (nI c))] V K := by
  have ec : i2c (nI c) = nI c := by
    have z : ∀ b : Fin 256, i2c (nI b.val) = nI b.val := by decide +kernel
    exact z ⟨c, hc⟩
  rw [ec]
  have pure : ∃ x : Int32, ((∃ j, j < 21 ∧ isS c = true ∧ x = nI j) ∨ (isS c = false ∧ x = -1)) ∧ ∀ (G : AH), wpI E d M_J0_indexOf_0f7a4 [vs (eK E 4), vi (nI c)] G (fun r G' => r = x ∧ G' = G) := by
    have go : ∀ (m k : Nat), k + m = 21 → (∀ j, j < k → ¬ txAt 4 j = i2b (nI c)) → ∃ x : Int32, ((∃ j, j < 21 ∧ isS c = true ∧ x = nI j) ∨ (isS c = false ∧ x = -1)) ∧ ∀ (G : AH), wp E (d - 1 - 1 - 1) M_J1_indexOfChar_4cfef 7 [some (vs (eV E 4)), some (vi (nI c)), some (vi 0), some (vi (nI 21)), some (vi (i2b (nI c))), some (vi (nI k))] [] G (fun r G' => r = some (vi x) ∧ G' = G) := by
      intro m
      induction m with
      | zero =>
        intro k e hb
        refine ⟨-1, Or.inr ⟨?_, rfl⟩, fun G => ?_⟩
        · cases z : isS c with
          | false => rfl
          | true =>
            obtain ⟨j, hj, ej⟩ := (isS_mem ⟨c, hc⟩).mp z
            exact absurd ej (hb j (by omega))
        · exact v_J1_indexOfChar_4cfef_7 ⟨fun _ => ⟨rfl, rfl⟩, fun q => absurd (nI_le (by omega) (by omega)) q⟩
      | succ m ih =>
        intro k e hb
        by_cases c1 : txAt 4 k = i2b (nI c)
        · refine ⟨nI k, Or.inl ⟨k, by omega, (isS_mem ⟨c, hc⟩).mpr ⟨k, by omega, c1⟩, rfl⟩, fun G => ?_⟩
          refine v_J1_indexOfChar_4cfef_7 ⟨fun q => absurd q (nI_ge (by omega) (by decide)), fun _ => ⟨by decide, vp_in_nI (by show k < 21; omega) (by decide), fun q => ?_, fun _ => ⟨rfl, rfl⟩⟩⟩
          rw [nI_clamp (show k < 2 ^ 31 by omega)] at q
          exact absurd c1 q
        · obtain ⟨x, hx, hw⟩ := ih (k + 1) (by omega) (fun j hj => by
            by_cases cj : j = k
            · rw [cj]; exact c1
            · exact hb j (by omega))
          refine ⟨x, hx, fun G => ?_⟩
          refine v_J1_indexOfChar_4cfef_7 ⟨fun q => absurd q (nI_ge (by omega) (by decide)), fun _ => ⟨by decide, vp_in_nI (by show k < 21; omega) (by decide), fun q => ?_, fun q => ?_⟩⟩
          · rw [nI_1]; exact hw G
          · rw [nI_clamp (show k < 2 ^ 31 by omega)] at q
            exact absurd q c1
    obtain ⟨x, hx, hw⟩ := go 21 0 (by omega) (fun j hj => absurd hj (Nat.not_lt_zero j))
    refine ⟨x, hx, fun G => ?_⟩
    refine wpM_of mk_J0_indexOf_0f7a4 (Nat.le_of_ble_eq_true rfl) ?_
    refine v_J0_indexOf_0f7a4_0 (by omega) ⟨by decide, ?_⟩
    refine wpM_of mk_J0_indexOf_7cf53 (Nat.le_of_ble_eq_true rfl) ?_
    refine v_J0_indexOf_7cf53_0 (by omega) ⟨by decide, ?_⟩
    refine wpM.mono (wpM_lat (by decide) G) (fun r G' ⟨y, e1, e2, e3⟩ => ⟨y, e1, fun q => absurd (q.symm.trans e2) (by decide), fun _ => ?_⟩)
    subst e3
    refine wpM.mono (wpM_len (n := 4) (by decide) (by omega) _) (fun r G'' ⟨y2, e4, e5, e6⟩ => ⟨y2, e4, ?_⟩)
    subst e5
    subst e6
    refine wpM_of mk_J1_indexOf_4cfef (Nat.le_of_ble_eq_true rfl) ?_
    refine v_J1_indexOf_4cfef_0 (by omega) ?_
    refine wpM_of mk_J1_canEncode_9a6ad (Nat.le_of_ble_eq_true rfl) ?_
    refine v_J1_canEncode_9a6ad_0 ⟨fun q => absurd q (nI_pos (by omega)), fun _ => ⟨fun q => absurd q (Int32.not_lt.mpr (nI_le (b := 255) (by omega) (by decide))), fun _ => ⟨1, rfl, fun _ => ⟨by decide, fun _ => ?_, fun q => absurd (by decide) q⟩, fun q => absurd q (by decide)⟩⟩⟩
    refine wpM_of mk_J1_indexOfChar_4cfef (Nat.le_of_ble_eq_true rfl) ?_
    refine v_J1_indexOfChar_4cfef_0 ?_
    refine wp.mono (hw _) (fun r G3 z => ⟨x, z.1, x, rfl, x, rfl, x, rfl, rfl, z.2⟩)
  obtain ⟨x, hx, hw⟩ := pure
  refine vMI.mono (vMI_pure (x := x) (fun G A => hw G)) (fun r V' z => ?_)
  rw [z.1, z.2]
  rcases hx with ⟨j, h1, h2, rfl⟩ | ⟨h1, rfl⟩
  · exact hy j h1 h2
  · exact hn h1
end
