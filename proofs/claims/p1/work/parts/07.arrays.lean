/-! rules: arrays, new cells, statics, texts -/
theorem tyOf_nf (c k : Nat) : tyOf c k ≠ .float ∧ tyOf c k ≠ .double := by
  unfold tyOf
  split
  · unfold cy_0; split <;> decide
  · unfold cy_1; split <;> decide
  · unfold cy_2; split <;> decide
  · unfold cy_3; split <;> decide
  · unfold cy_4; split <;> decide
  · unfold cy_5; split <;> decide
  · unfold cy_6; split <;> decide
  · unfold cy_7; split <;> decide
  · unfold cy_8; split <;> decide
  · unfold cy_9; split <;> decide
  · unfold cy_10; split <;> decide
  · unfold cy_11; split <;> decide
  · unfold cy_12; split <;> decide
theorem tys_B (E : EE) {s : State} (hK : va_K (eD E) cls13 (tys5 E) s) : ArrOfT s (eC E 13) .byte := (hK.2 0 _ rfl).1
theorem tys_I (E : EE) {s : State} (hK : va_K (eD E) cls13 (tys5 E) s) : ArrOfT s (eC E 14) .int := (hK.2 1 _ rfl).1
theorem tys_J (E : EE) {s : State} (hK : va_K (eD E) cls13 (tys5 E) s) : ArrOfT s (eC E 15) .long := (hK.2 2 _ rfl).1
theorem tys_Z (E : EE) {s : State} (hK : va_K (eD E) cls13 (tys5 E) s) : ArrOfT s (eC E 16) .boolean := (hK.2 3 _ rfl).1
theorem tys_P (E : EE) {s : State} (hK : va_K (eD E) cls13 (tys5 E) s) : ArrOfT s (eC E 17) (.object "PlanningHouse$Problem") := (hK.2 4 _ rfl).1
theorem pd_TU {G G1 : AH} {a : Nat} (hp : Pd G G1 a) : gT G1 = gT G ∧ gU G1 = gU G := ⟨by unfold gT; rw [hp.1], by unfold gU; rw [hp.1]⟩
theorem cell_st {E : EE} {G G1 : AH} {a c i : Nat} {H1 : Heap} {v : Value} (hc : 13 ≤ c) (hp : Pd G G1 a) (ha : isO E G a c) (e1 : H1[a]? = some ((arrV (eC E c) (gN G a) (fun j => vE c (gI G a j) (gJ G a j) (gR G a j))).setSlot i v)) (hv : ∀ j, vE c (gI G1 a j) (gJ G1 a j) (gR G1 a j) = if j = i then v else vE c (gI G a j) (gJ G a j) (gR G a j)) : cellOk E G1 H1 a := by
  unfold cellOk
  rw [hp.2.1, hp.2.2.1, ha.2.2, if_neg (by omega), e1, arrV_store]
  congr 2
  funext j
  rw [hv j]; rfl
section
variable {E : EE} {d : Nat} {M : MD} {pc idx : Nat} {lv : List (Option AV)} {st : List AV} {G : AH} {Q : Option AV → AH → Prop} {a c k : Nat} {i : Int32}
theorem wp_iald (hd : decode M.2.1 pc = .ok (.iaload, 1)) (ha : isO E G a 14) (hin : vp_in i (gN G a)) (kk : wp E d M (pc + 1) lv (vi (gI G a i.toNatClampNeg) :: st) G Q) : wp E d M pc lv (vi i :: vr a :: st) G Q := by
  refine wp_go (fun p e R s m args below meth c' H locs ls cells slots Z C hW hS hl kk => ?_) kk
  obtain ⟨hx, hb, hml, hrt, hlk, hown, hts, hK, hR, -⟩ := C
  show W p E.1 e R s m args below meth c' H locs cells slots Z (F0 m pc ls (.int i :: rv a :: st.map cv))
  rw [rv_ne (ha.ne hR)]
  have hlt : i.toNatClampNeg < gN G a := Nat.not_le.mp fun q => hin (Or.inr q)
  exact W.iald (v := .int (gI G a i.toNatClampNeg)) hx hb (wd_arr hW ha (by omega)) (tys_I E hK _ _) (fun q => by cases q) (by show ¬ (i < 0 ∨ (arrV _ _ _).slots.size ≤ _); rw [arrV_size]; exact hin) (by show (arrV _ _ _).slots[_]? = _; rw [arrV_read _ _ hlt]; rfl) rfl rfl hd (kk ls hl)
theorem wp_bald (hd : decode M.2.1 pc = .ok (.baload, 1)) (ha : isO E G a 13) (hin : vp_in i (gN G a)) (kk : wp E d M (pc + 1) lv (vi (gI G a i.toNatClampNeg) :: st) G Q) : wp E d M pc lv (vi i :: vr a :: st) G Q := by
  refine wp_go (fun p e R s m args below meth c' H locs ls cells slots Z C hW hS hl kk => ?_) kk
  obtain ⟨hx, hb, hml, hrt, hlk, hown, hts, hK, hR, -⟩ := C
  show W p E.1 e R s m args below meth c' H locs cells slots Z (F0 m pc ls (.int i :: rv a :: st.map cv))
  rw [rv_ne (ha.ne hR)]
  have hlt : i.toNatClampNeg < gN G a := Nat.not_le.mp fun q => hin (Or.inr q)
  exact W.bald (v := .int (gI G a i.toNatClampNeg)) hx hb (wd_arr hW ha (by omega)) (tys_B E hK _ _) (fun q => by cases q) (by show ¬ (i < 0 ∨ (arrV _ _ _).slots.size ≤ _); rw [arrV_size]; exact hin) (by show (arrV _ _ _).slots[_]? = _; rw [arrV_read _ _ hlt]; rfl) rfl rfl hd (kk ls hl)
theorem wp_zald (hd : decode M.2.1 pc = .ok (.baload, 1)) (ha : isO E G a 16) (hin : vp_in i (gN G a)) (kk : wp E d M (pc + 1) lv (vi (gI G a i.toNatClampNeg) :: st) G Q) : wp E d M pc lv (vi i :: vr a :: st) G Q := by
  refine wp_go (fun p e R s m args below meth c' H locs ls cells slots Z C hW hS hl kk => ?_) kk
  obtain ⟨hx, hb, hml, hrt, hlk, hown, hts, hK, hR, -⟩ := C
  show W p E.1 e R s m args below meth c' H locs cells slots Z (F0 m pc ls (.int i :: rv a :: st.map cv))
  rw [rv_ne (ha.ne hR)]
  have hlt : i.toNatClampNeg < gN G a := Nat.not_le.mp fun q => hin (Or.inr q)
  exact W.zald (v := .int (gI G a i.toNatClampNeg)) hx hb (wd_arr hW ha (by omega)) (tys_Z E hK _ _) (fun q => by cases q) (by show ¬ (i < 0 ∨ (arrV _ _ _).slots.size ≤ _); rw [arrV_size]; exact hin) (by show (arrV _ _ _).slots[_]? = _; rw [arrV_read _ _ hlt]; rfl) rfl rfl hd (kk ls hl)
theorem wp_lald (hd : decode M.2.1 pc = .ok (.laload, 1)) (ha : isO E G a 15) (hin : vp_in i (gN G a)) (kk : wp E d M (pc + 1) lv (vj (gJ G a i.toNatClampNeg) :: st) G Q) : wp E d M pc lv (vi i :: vr a :: st) G Q := by
  refine wp_go (fun p e R s m args below meth c' H locs ls cells slots Z C hW hS hl kk => ?_) kk
  obtain ⟨hx, hb, hml, hrt, hlk, hown, hts, hK, hR, -⟩ := C
  show W p E.1 e R s m args below meth c' H locs cells slots Z (F0 m pc ls (.int i :: rv a :: st.map cv))
  rw [rv_ne (ha.ne hR)]
  have hlt : i.toNatClampNeg < gN G a := Nat.not_le.mp fun q => hin (Or.inr q)
  exact W.lald (v := .long (gJ G a i.toNatClampNeg)) hx hb (wd_arr hW ha (by omega)) (tys_J E hK _ _) (fun q => by cases q) (by show ¬ (i < 0 ∨ (arrV _ _ _).slots.size ≤ _); rw [arrV_size]; exact hin) (by show (arrV _ _ _).slots[_]? = _; rw [arrV_read _ _ hlt]; rfl) rfl rfl hd (kk ls hl)
theorem wp_aald (hd : decode M.2.1 pc = .ok (.aaload, 1)) (ha : isO E G a 17) (hin : vp_in i (gN G a)) (kk : wp E d M (pc + 1) lv (vr (gR G a i.toNatClampNeg) :: st) G Q) : wp E d M pc lv (vi i :: vr a :: st) G Q := by
  refine wp_go (fun p e R s m args below meth c' H locs ls cells slots Z C hW hS hl kk => ?_) kk
  obtain ⟨hx, hb, hml, hrt, hlk, hown, hts, hK, hR, -⟩ := C
  show W p E.1 e R s m args below meth c' H locs cells slots Z (F0 m pc ls (.int i :: rv a :: st.map cv))
  rw [rv_ne (ha.ne hR)]
  have hlt : i.toNatClampNeg < gN G a := Nat.not_le.mp fun q => hin (Or.inr q)
  exact W.aald (v := rv (gR G a i.toNatClampNeg)) (ty := .object "PlanningHouse$Problem") hx hb (wd_arr hW ha (by omega)) (tys_P E hK _ _) rfl (fun q => by cases q) (by show ¬ (i < 0 ∨ (arrV _ _ _).slots.size ≤ _); rw [arrV_size]; exact hin) (by show (arrV _ _ _).slots[_]? = _; rw [arrV_read _ _ hlt]; rfl) rfl rfl hd (kk ls hl)
theorem wp_alen {ty : FieldType} (hd : decode M.2.1 pc = .ok (.arraylength, 1)) (ha : isO E G a c) (hc : 13 ≤ c) (hc2 : (tys5 E)[c - 13]? = some (eC E c, ty)) (kk : wp E d M (pc + 1) lv (vi (nI (gN G a)) :: st) G Q) : wp E d M pc lv (vr a :: st) G Q := by
  refine wp_go (fun p e R s m args below meth c' H locs ls cells slots Z C hW hS hl kk => ?_) kk
  obtain ⟨hx, hb, hml, hrt, hlk, hown, hts, hK, hR, -⟩ := C
  show W p E.1 e R s m args below meth c' H locs cells slots Z (F0 m pc ls (rv a :: st.map cv))
  rw [rv_ne (ha.ne hR)]
  exact W.alen (n := nI (gN G a)) hx hb (wd_arr hW ha hc) ((hK.2 _ _ hc2).1 _ _) (by show (arrV _ _ _).slots.size.toInt32 = _; rw [arrV_size]; rfl) rfl rfl hd (kk ls hl)
theorem vE_I (hc : c ≠ 15 ∧ c ≠ 17) (k : Nat) (x : Int32) (j : Nat) : vE c (gI (sI G a k x) a j) (gJ (sI G a k x) a j) (gR (sI G a k x) a j) = if j = k then .int x else vE c (gI G a j) (gJ G a j) (gR G a j) := by
  have e : gI (sI G a k x) a j = if j = k then x else gI G a j := by
    show u2 (gI G) a k x a j = _
    unfold u2
    by_cases hj : j = k
    · rw [if_pos ⟨rfl, hj⟩, if_pos hj]
    · rw [if_neg (fun q => hj q.2), if_neg hj]
  unfold vE
  rw [if_neg hc.1, if_neg hc.2, if_neg hc.1, if_neg hc.2, e]
  split <;> rfl
theorem wp_iast {x : Int32} (hd : decode M.2.1 pc = .ok (.iastore, 1)) (ha : isO E G a 14) (hin : vp_in i (gN G a)) (kk : wp E d M (pc + 1) lv st (sI G a i.toNatClampNeg x) Q) : wp E d M pc lv (vi x :: vi i :: vr a :: st) G Q := by
  have hp := pd_I G a i.toNatClampNeg x
  refine wp_mv (Nat.le_of_eq (pd_TU hp).1.symm) (Nat.le_of_eq (pd_TU hp).2.symm) (fun p e R s m args below meth c' H locs ls cells slots Z C hW hS hl hrc hrs kk => ?_) kk
  rw [(pd_TU hp).1, (pd_TU hp).2, Nat.sub_self, Nat.sub_self, Nat.add_zero, Nat.add_zero] at kk
  obtain ⟨hx, hb, hml, hrt, hlk, hown, hts, hK, hR, -⟩ := C
  show W p E.1 e R s m args below meth c' H locs cells slots Z (F0 m pc ls (.int x :: .int i :: rv a :: st.map cv))
  rw [rv_ne (ha.ne hR)]
  refine W.iast hx hb (wd_arr hW ha (by omega)) (tys_I E hK _ _) (fun q => by cases q) (by show ¬ (i < 0 ∨ (arrV _ _ _).slots.size ≤ _); rw [arrV_size]; exact hin) rfl rfl hd fun H1 e1 z oq => ?_
  exact kk H1 _ (hW.set hp z oq (cell_st (by omega) hp ha e1 (vE_I (by omega) _ x))) (vaS_put hS z oq ha.1)
/-- what a row of booleans keeps of an int -/
def nz (x : Int32) : Int32 := vp_nar .boolean x
theorem narrow_z (x : Int32) : narrow .boolean (.int x) = .int (nz x) := by unfold nz vp_nar; rfl
theorem wp_bast {x : Int32} (hd : decode M.2.1 pc = .ok (.bastore, 1)) (ha : isO E G a 13) (hin : vp_in i (gN G a)) (kk : wp E d M (pc + 1) lv st (sI G a i.toNatClampNeg (i2b x)) Q) : wp E d M pc lv (vi x :: vi i :: vr a :: st) G Q := by
  have hp := pd_I G a i.toNatClampNeg (i2b x)
  refine wp_mv (Nat.le_of_eq (pd_TU hp).1.symm) (Nat.le_of_eq (pd_TU hp).2.symm) (fun p e R s m args below meth c' H locs ls cells slots Z C hW hS hl hrc hrs kk => ?_) kk
  rw [(pd_TU hp).1, (pd_TU hp).2, Nat.sub_self, Nat.sub_self, Nat.add_zero, Nat.add_zero] at kk
  obtain ⟨hx, hb, hml, hrt, hlk, hown, hts, hK, hR, -⟩ := C
  show W p E.1 e R s m args below meth c' H locs cells slots Z (F0 m pc ls (.int x :: .int i :: rv a :: st.map cv))
  rw [rv_ne (ha.ne hR)]
  refine W.bast hx hb (wd_arr hW ha (by omega)) (tys_B E hK _ _) (fun q => by cases q) (by show ¬ (i < 0 ∨ (arrV _ _ _).slots.size ≤ _); rw [arrV_size]; exact hin) rfl rfl hd fun H1 e1 z oq => ?_
  exact kk H1 _ (hW.set hp z oq (cell_st (by omega) hp ha e1 (vE_I (by omega) _ (i2b x)))) (vaS_put hS z oq ha.1)
theorem wp_zast {x : Int32} (hd : decode M.2.1 pc = .ok (.bastore, 1)) (ha : isO E G a 16) (hin : vp_in i (gN G a)) (kk : wp E d M (pc + 1) lv st (sI G a i.toNatClampNeg (nz x)) Q) : wp E d M pc lv (vi x :: vi i :: vr a :: st) G Q := by
  have hp := pd_I G a i.toNatClampNeg (nz x)
  refine wp_mv (Nat.le_of_eq (pd_TU hp).1.symm) (Nat.le_of_eq (pd_TU hp).2.symm) (fun p e R s m args below meth c' H locs ls cells slots Z C hW hS hl hrc hrs kk => ?_) kk
  rw [(pd_TU hp).1, (pd_TU hp).2, Nat.sub_self, Nat.sub_self, Nat.add_zero, Nat.add_zero] at kk
  obtain ⟨hx, hb, hml, hrt, hlk, hown, hts, hK, hR, -⟩ := C
  show W p E.1 e R s m args below meth c' H locs cells slots Z (F0 m pc ls (.int x :: .int i :: rv a :: st.map cv))
  rw [rv_ne (ha.ne hR)]
  refine W.zast hx hb (wd_arr hW ha (by omega)) (tys_Z E hK _ _) (fun q => by cases q) (by show ¬ (i < 0 ∨ (arrV _ _ _).slots.size ≤ _); rw [arrV_size]; exact hin) rfl rfl hd fun H1 e1 z oq => ?_
  rw [narrow_z] at e1
  exact kk H1 _ (hW.set hp z oq (cell_st (by omega) hp ha e1 (vE_I (by omega) _ (nz x)))) (vaS_put hS z oq ha.1)
theorem vE_J (k : Nat) (x : Int64) (j : Nat) : vE 15 (gI (sJ G a k x) a j) (gJ (sJ G a k x) a j) (gR (sJ G a k x) a j) = if j = k then .long x else vE 15 (gI G a j) (gJ G a j) (gR G a j) := by
  have e : gJ (sJ G a k x) a j = if j = k then x else gJ G a j := by
    show u2 (gJ G) a k x a j = _
    unfold u2
    by_cases hj : j = k
    · rw [if_pos ⟨rfl, hj⟩, if_pos hj]
    · rw [if_neg (fun q => hj q.2), if_neg hj]
  unfold vE
  rw [if_pos rfl, if_pos rfl, e]
  split <;> rfl
theorem wp_last {x : Int64} (hd : decode M.2.1 pc = .ok (.lastore, 1)) (ha : isO E G a 15) (hin : vp_in i (gN G a)) (kk : wp E d M (pc + 1) lv st (sJ G a i.toNatClampNeg x) Q) : wp E d M pc lv (vj x :: vi i :: vr a :: st) G Q := by
  have hp := pd_J G a i.toNatClampNeg x
  refine wp_mv (Nat.le_of_eq (pd_TU hp).1.symm) (Nat.le_of_eq (pd_TU hp).2.symm) (fun p e R s m args below meth c' H locs ls cells slots Z C hW hS hl hrc hrs kk => ?_) kk
  rw [(pd_TU hp).1, (pd_TU hp).2, Nat.sub_self, Nat.sub_self, Nat.add_zero, Nat.add_zero] at kk
  obtain ⟨hx, hb, hml, hrt, hlk, hown, hts, hK, hR, -⟩ := C
  show W p E.1 e R s m args below meth c' H locs cells slots Z (F0 m pc ls (.long x :: .int i :: rv a :: st.map cv))
  rw [rv_ne (ha.ne hR)]
  refine W.last hx hb (wd_arr hW ha (by omega)) (tys_J E hK _ _) (fun q => by cases q) (by show ¬ (i < 0 ∨ (arrV _ _ _).slots.size ≤ _); rw [arrV_size]; exact hin) rfl rfl hd fun H1 e1 z oq => ?_
  exact kk H1 _ (hW.set hp z oq (cell_st (by omega) hp ha e1 (vE_J _ x))) (vaS_put hS z oq ha.1)
theorem vE_R (k : Nat) (x : Nat) (j : Nat) : vE 17 (gI (sR G a k x) a j) (gJ (sR G a k x) a j) (gR (sR G a k x) a j) = if j = k then rv x else vE 17 (gI G a j) (gJ G a j) (gR G a j) := by
  have e : gR (sR G a k x) a j = if j = k then x else gR G a j := by
    show u2 (gR G) a k x a j = _
    unfold u2
    by_cases hj : j = k
    · rw [if_pos ⟨rfl, hj⟩, if_pos hj]
    · rw [if_neg (fun q => hj q.2), if_neg hj]
  have v17 : ∀ (i : Int32) (j : Int64) (r : Nat), vE 17 i j r = rv r := fun i j r => rfl
  rw [v17, v17, e]
  split <;> rfl
/-- a problem comes into a row of problems -/
theorem wp_aast {x : Nat} (hd : decode M.2.1 pc = .ok (.aastore, 1)) (ha : isO E G a 17) (hin : vp_in i (gN G a)) (hx : isO E G x 3) (kk : wp E d M (pc + 1) lv st (sR G a i.toNatClampNeg x) Q) : wp E d M pc lv (vr x :: vi i :: vr a :: st) G Q := by
  have hp := pd_R G a i.toNatClampNeg x
  refine wp_mv (Nat.le_of_eq (pd_TU hp).1.symm) (Nat.le_of_eq (pd_TU hp).2.symm) (fun p e R s m args below meth c' H locs ls cells slots Z C hW hS hl hrc hrs kk => ?_) kk
  rw [(pd_TU hp).1, (pd_TU hp).2, Nat.sub_self, Nat.sub_self, Nat.add_zero, Nat.add_zero] at kk
  obtain ⟨hx', hb, hml, hrt, hlk, hown, hts, hK, hR, -⟩ := C
  show W p E.1 e R s m args below meth c' H locs cells slots Z (F0 m pc ls (rv x :: .int i :: rv a :: st.map cv))
  rw [rv_ne (ha.ne hR), rv_ne (hx.ne hR)]
  have hlt : i.toNatClampNeg < gN G a := Nat.not_le.mp fun q => hin (Or.inr q)
  have h0 : ¬ i < 0 := fun q => hin (Or.inl q)
  obtain ⟨cellV, g1, g2, g3, -⟩ := wd_ob hW hx (r := (cn_3, ct_3, 19)) rfl
  have hcls := (hK.1 3 (cn_3, ct_3, 19) rfl).2
  obtain ⟨kA, comp, k1, k2, k3, -⟩ := (hK.2 4 _ rfl).2
  have hcomp : comp = (eD E).1 3 := Option.some.inj (k3.symm.trans hcls.1)
  subst hcomp
  obtain ⟨kC, hkC, -⟩ := hcls.2
  refine W.aast hx' hb (wd_arr hW ha (by omega)) (fun q h => by cases h) (fun h => by cases h) k1 k2 rfl hkC ⟨h0, by show _ < (arrV _ _ _).slots.size; rw [arrV_size]; exact hlt⟩ g1 (fun q h => by rw [g3] at h; cases h) (by rw [g2]; exact hkC) (by rw [g2]; exact va_assign hcls) rfl rfl hd fun H1 e1 z oq => ?_
  refine kk H1 _ (hW.set hp z oq (cell_st (by omega) hp ha e1 (fun j => ?_))) (vaS_put hS z oq ha.1)
  rw [vE_R, rv_ne (hx.ne hR)]
/-! new cells -/
theorem Wd.new {H H1 : Heap} {kd n sz : Nat} (hW : Wd E G H) (hz : H1.size = gT G + 1) (ho : ∀ q, q < gT G → H1[q]? = H[q]?) (hc : cellOk E (nw G kd n sz) H1 (gT G)) : Wd E (nw G kd n sz) H1 := by
  refine ⟨hz, fun b h1 h2 => ?_⟩
  by_cases hb : b = gT G
  · subst hb; exact hc
  · have hlt : b < gT G := by have : gT (nw G kd n sz) = gT G + 1 := rfl; omega
    have hk := hW.2 b h1 hlt
    have e1 : gK (nw G kd n sz) b = gK G b := if_neg hb
    have e2 : gN (nw G kd n sz) b = gN G b := if_neg hb
    have e3 : gI (nw G kd n sz) b = gI G b := if_neg hb
    have e4 : gJ (nw G kd n sz) b = gJ G b := if_neg hb
    have e5 : gR (nw G kd n sz) b = gR G b := if_neg hb
    unfold cellOk at hk ⊢
    rw [e1, e2, e3, e4, e5, ho b hlt]
    split
    · rename_i hl
      rw [if_pos hl] at hk
      obtain ⟨r, hr, hob⟩ := hk
      exact ⟨r, hr, hob.kept (ho b hlt)⟩
    · rename_i hl
      rw [if_neg hl] at hk
      exact hk
theorem nw_at (G : AH) (kd n sz : Nat) : gK (nw G kd n sz) (gT G) = kd ∧ gN (nw G kd n sz) (gT G) = n ∧ gI (nw G kd n sz) (gT G) = (fun _ => 0) ∧ gJ (nw G kd n sz) (gT G) = (fun _ => 0) ∧ gR (nw G kd n sz) (gT G) = (fun _ => 0) := ⟨if_pos rfl, if_pos rfl, if_pos rfl, if_pos rfl, if_pos rfl⟩
theorem vaS_new {s : State} {H H1 : Heap} {locs : List Loc} (hS : va_S (eA E) s.heap H locs) (hW : Wd E G H) (hz : H1.size = gT G + 1) (ho : ∀ q, q < gT G → H1[q]? = H[q]?) : va_S (eA E) s.heap H1 locs :=
  ⟨Nat.le_trans hS.1 (by rw [hW.1, hz]; omega), fun q h1 h2 => (ho q (by have := hS.1; rw [hW.1] at this; omega)).trans (hS.2.1 q h1 h2), hS.2.2⟩
theorem wp_newa {atype : ArrayType} {ty : FieldType} {t0 kd : Nat} (hd : decode M.2.1 pc = .ok (.newarray atype, 2)) (hty : newarray.typeOf atype = ty) (hnr : (∀ C, ty ≠ .object C)) (harr : Cond.arrayClass ty ∈ TB) (hkd : 13 ≤ kd) (ht : ∀ E : EE, (tys5 E)[t0]? = some (eC E kd, ty)) (hdf : defaultValue ty = vE kd 0 0 0) (hcb : componentBytes ty ≤ 8)
    (hn : ¬ i < 0) (hN : i.toNatClampNeg ≤ 60000000) (kk : wp E d M (pc + 2) lv (vr (gT G) :: st) (nw G kd i.toNatClampNeg i.toNatClampNeg) Q) : wp E d M pc lv (vi i :: st) G Q := by
  refine wp_mv (by show _ ≤ gT G + 1; omega) (by show _ ≤ gU G + _; omega) (fun p e R s m args below meth c' H locs ls cells slots Z C hW hS hl hrc hrs kk => ?_) kk
  have eT : gT (nw G kd i.toNatClampNeg i.toNatClampNeg) - gT G = 1 := by show gT G + 1 - gT G = 1; omega
  have eU : gU (nw G kd i.toNatClampNeg i.toNatClampNeg) - gU G = i.toNatClampNeg := by show gU G + _ - gU G = _; omega
  rw [eT, eU] at kk
  rw [eT] at hrc
  rw [eU] at hrs
  obtain ⟨hx, hb, hml, hrt, hlk, hown, hts, hK, hR, -⟩ := C
  subst hty
  refine va_newaK hx hb (hts _ harr) (g := F0 m pc ls (.int i :: st.map cv)) rfl hd rfl hn rfl (by have := Nat.mul_le_mul hN hcb; omega) hrc hrs hW.1 fun H1 cA e1 z1 o1 hAr hNm => ?_
  have hcA : cA = eC E kd := by
    have h1 := (hK.2 t0 _ (ht E)).2
    have h2 : s.vm.findClass ("[" ++ (newarray.typeOf atype).toString) = some (eC E kd) := by
      unfold va_RA at h1
      split at h1
      · rename_i C hC
        exact absurd hC (hnr C)
      · exact h1
    exact Option.some.inj (hNm.symm.trans h2)
  subst hcA
  have hne : gT G ≠ 0 := by have := hR.pos; have := hR.2.2.1; have := hS.1; rw [hW.1] at this; omega
  have q := kk H1 locs (hW.new z1 o1 ?_) (vaS_new hS hW z1 o1)
  · have e : rv (gT G) = .ref (gT G) := rv_ne hne
    simp only [List.map_cons, cv, e] at q
    exact q
  · obtain ⟨a1, a2, a3, a4, a5⟩ := nw_at G kd i.toNatClampNeg i.toNatClampNeg
    unfold cellOk
    rw [a1, a2, a3, a4, a5, if_neg (by omega), e1, hdf]
theorem wp_new {r : vw_C} (hd : decode M.2.1 pc = .ok (.new idx, 3)) (hc : cls13[c]? = some r) (hcl : Cond.classLink M.1.cls idx r.1 ∈ TB) (hinst : Cond.instantiable r.1 r.2.2 ∈ TB) (hini : Cond.initialized r.1 ∈ TB) (kk : wp E d M (pc + 3) lv (vr (gT G) :: st) (nw G c 0 r.2.2) Q) : wp E d M pc lv st G Q := by
  refine wp_mv (by show _ ≤ gT G + 1; omega) (by show _ ≤ gU G + _; omega) (fun p e R s m args below meth c' H locs ls cells slots Z C hW hS hl hrc hrs kk => ?_) kk
  have eT : gT (nw G c 0 r.2.2) - gT G = 1 := by show gT G + 1 - gT G = 1; omega
  have eU : gU (nw G c 0 r.2.2) - gU G = r.2.2 := by show gU G + _ - gU G = _; omega
  rw [eT, eU] at kk
  rw [eT] at hrc
  rw [eU] at hrs
  obtain ⟨hx, hb, hml, hrt, hlk, hown, hts, hK, hR, -⟩ := C
  obtain ⟨hok1, hok2, hin⟩ := cls_ok hc
  have hKn := hK.1 c _ hc
  have hne : gT G ≠ 0 := by have := hR.pos; have := hR.2.2.1; have := hS.1; rw [hW.1] at this; omega
  refine W.newcK hx hb hown (hts _ hcl) (hts _ hinst) (hts _ hini) (g := F0 m pc ls (st.map cv)) rfl hd hrc hrs hKn.2.1 hW.1 fun H1 kC hkC e1 z1 o1 => ?_
  have q := kk H1 locs (hW.new z1 o1 ?_) (vaS_new hS hW z1 o1)
  · have e : rv (gT G) = .ref (gT G) := rv_ne hne
    simp only [List.map_cons, cv, e] at q
    exact q
  · obtain ⟨a1, a2, a3, a4, a5⟩ := nw_at G c 0 r.2.2
    have hlt : c < 13 := (List.getElem?_eq_some_iff.mp hc).1
    unfold cellOk
    rw [a1, a3, a4, a5, if_pos hlt]
    refine ⟨r, hc, (u_born (tyOf c) hts hin hKn hkC e1 hok1).to (fun k hk => ?_)⟩
    show defaultValue (tyOf c k) = vF c k 0 0 0
    have hnf := tyOf_nf c k
    unfold vF
    cases ht : tyOf c k <;> first | rfl | exact rv_0.symm | exact absurd ht hnf.1 | exact absurd ht hnf.2
end
