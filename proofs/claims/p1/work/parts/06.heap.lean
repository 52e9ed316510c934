/-! rules: fields, arrays, new cells -/
theorem in_lw {w : Cond} (h : w ∈ tables_1) : w ∈ lw_tbl := List.mem_append_right _ h
theorem u_good {C : String} {T : u_T} {N : Nat} {w : Cond} (h : w ∈ u_ws C T N) : goodWord w = true := by
  obtain ⟨k, -, rfl⟩ := List.mem_map.mp h
  unfold u_lay
  split <;> rfl
def clsOk (c : Nat) (r : vw_C) : Prop := (∀ k, k < r.2.2 → parseFieldDescriptor (r.2.1 k).2.2.1 = some (tyOf c k)) ∧ (∀ a, a < r.2.2 → ∀ b, b < r.2.2 → a ≠ b → (r.2.1 a).2.1 ≠ (r.2.1 b).2.1) ∧ (∀ w ∈ u_ws r.1 r.2.1 r.2.2, w ∈ TB)
theorem cls_ok {c : Nat} {r : vw_C} (h : cls13[c]? = some r) : clsOk c r := by
  have f : (∀ k, k < r.2.2 → parseFieldDescriptor (r.2.1 k).2.2.1 = some (tyOf c k)) ∧ (∀ a, a < r.2.2 → ∀ b, b < r.2.2 → a ≠ b → (r.2.1 a).2.1 ≠ (r.2.1 b).2.1) ∧ (∀ w ∈ u_ws r.1 r.2.1 r.2.2, w ∈ tables_1) := by
    match c, h with
    | 0, h => have e : some (cn_0, ct_0, 2) = some r := h; cases e; exact ⟨cok_0, cnm_0, cin_0⟩
    | 1, h => have e : some (cn_1, ct_1, 6) = some r := h; cases e; exact ⟨cok_1, cnm_1, cin_1⟩
    | 2, h => have e : some (cn_2, ct_2, 15) = some r := h; cases e; exact ⟨cok_2, cnm_2, cin_2⟩
    | 3, h => have e : some (cn_3, ct_3, 19) = some r := h; cases e; exact ⟨cok_3, cnm_3, cin_3⟩
    | 4, h => have e : some (cn_4, ct_4, 3) = some r := h; cases e; exact ⟨cok_4, cnm_4, cin_4⟩
    | 5, h => have e : some (cn_5, ct_5, 11) = some r := h; cases e; exact ⟨cok_5, cnm_5, cin_5⟩
    | 6, h => have e : some (cn_6, ct_6, 14) = some r := h; cases e; exact ⟨cok_6, cnm_6, cin_6⟩
    | 7, h => have e : some (cn_7, ct_7, 5) = some r := h; cases e; exact ⟨cok_7, cnm_7, cin_7⟩
    | 8, h => have e : some (cn_8, ct_8, 5) = some r := h; cases e; exact ⟨cok_8, cnm_8, cin_8⟩
    | 9, h => have e : some (cn_9, ct_9, 8) = some r := h; cases e; exact ⟨cok_9, cnm_9, cin_9⟩
    | 10, h => have e : some (cn_10, ct_10, 12) = some r := h; cases e; exact ⟨cok_10, cnm_10, cin_10⟩
    | 11, h => have e : some (cn_11, ct_11, 12) = some r := h; cases e; exact ⟨cok_11, cnm_11, cin_11⟩
    | 12, h => have e : some (cn_12, ct_12, 95) = some r := h; cases e; exact ⟨cok_12, cnm_12, cin_12⟩
    | n + 13, h => simp [cls13] at h
  exact ⟨f.1, f.2.1, fun w hw => inTB (in_lw (f.2.2 w hw)) (u_good hw)⟩
/-- entry idx of own's pool is field k of class c -/
def FL (own : String) (idx c k : Nat) (r : vw_C) : Prop := cls13[c]? = some r ∧ k < r.2.2 ∧ Cond.fieldLink own idx (r.2.1 k).1 (r.2.1 k).2.1 (r.2.1 k).2.2.1 ∈ TB
abbrev vAt (G : AH) (c a k : Nat) : Value := vF c k (gI G a k) (gJ G a k) (gR G a k)
theorem wd_ob {E : EE} {G : AH} {H : Heap} {a c : Nat} {r : vw_C} (hW : Wd E G H) (ha : isO E G a c) (hc : cls13[c]? = some r) : t_OB a ((eD E).1 c) r.2.2 ((eD E).2 c) H (vAt G c a) := by
  have hk := hW.2 a ha.1 ha.2.1
  have hlt : c < 13 := (List.getElem?_eq_some_iff.mp hc).1
  unfold cellOk at hk
  rw [ha.2.2, if_pos hlt] at hk
  obtain ⟨r', h1, h2⟩ := hk
  cases Option.some.inj (h1.symm.trans hc)
  exact h2
theorem wd_P {E : EE} {G : AH} {H : Heap} {a c : Nat} {r : vw_C} (hW : Wd E G H) (ha : isO E G a c) (hc : cls13[c]? = some r) : va_P (eD E) cls13 [(a, .inr (c, (List.range r.2.2).map (vAt G c a)))] H := by
  intro k q hk
  cases k with
  | zero =>
    simp only [List.getElem?_cons_zero, Option.some.injEq] at hk
    subst hk
    refine ⟨r, hc, (wd_ob hW ha hc).to (fun k hk => ?_)⟩
    simp [vp_V, hk]
  | succ k => simp at hk
theorem wd_arr {E : EE} {G : AH} {H : Heap} {a c : Nat} (hW : Wd E G H) (ha : isO E G a c) (hc : 13 ≤ c) : H[a]? = some (arrV (eC E c) (gN G a) (fun j => vE c (gI G a j) (gJ G a j) (gR G a j))) := by
  have hk := hW.2 a ha.1 ha.2.1
  unfold cellOk at hk
  rw [ha.2.2, if_neg (by omega)] at hk
  exact hk
/-- a heap that differs at one address -/
def Pd (G G1 : AH) (a : Nat) : Prop := G1.1 = G.1 ∧ gK G1 = gK G ∧ gN G1 = gN G ∧ ∀ b, b ≠ a → gI G1 b = gI G b ∧ gJ G1 b = gJ G b ∧ gR G1 b = gR G b
theorem u2_ne {α : Type} {f : Nat → Nat → α} {a k : Nat} {v : α} {b : Nat} (h : b ≠ a) : u2 f a k v b = f b := by
  funext j; unfold u2; rw [if_neg (fun q => h q.1)]
theorem pd_I (G : AH) (a k : Nat) (v : Int32) : Pd G (sI G a k v) a := ⟨rfl, rfl, rfl, fun b hb => ⟨u2_ne hb, rfl, rfl⟩⟩
theorem pd_J (G : AH) (a k : Nat) (v : Int64) : Pd G (sJ G a k v) a := ⟨rfl, rfl, rfl, fun b hb => ⟨rfl, u2_ne hb, rfl⟩⟩
theorem pd_R (G : AH) (a k : Nat) (v : Nat) : Pd G (sR G a k v) a := ⟨rfl, rfl, rfl, fun b hb => ⟨rfl, rfl, u2_ne hb⟩⟩
theorem Wd.set {E : EE} {G G1 : AH} {H H1 : Heap} {a : Nat} (hW : Wd E G H) (hp : Pd G G1 a) (hz : H1.size = H.size) (ho : ∀ q, q ≠ a → H1[q]? = H[q]?) (hc : cellOk E G1 H1 a) : Wd E G1 H1 := by
  obtain ⟨p1, p2, p3, p4⟩ := hp
  have ht : gT G1 = gT G := by unfold gT; rw [p1]
  refine ⟨by rw [hz, ht]; exact hW.1, fun b h1 h2 => ?_⟩
  by_cases hb : b = a
  · subst hb; exact hc
  · have hk := hW.2 b h1 (by omega)
    obtain ⟨q1, q2, q3⟩ := p4 b hb
    unfold cellOk at hk ⊢
    rw [p2, p3, q1, q2, q3, ho b hb]
    split
    · rename_i hlt
      rw [if_pos hlt] at hk
      obtain ⟨r, hr, hob⟩ := hk
      exact ⟨r, hr, hob.kept (ho b hb)⟩
    · rename_i hlt
      rw [if_neg hlt] at hk
      exact hk
theorem vaS_put {E : EE} {s : State} {H H1 : Heap} {locs : List Loc} {a i : Nat} (hS : va_S (eA E) s.heap H locs) (hz : H1.size = H.size) (ho : ∀ q, q ≠ a → H1[q]? = H[q]?) (ha : eB E ≤ a) : va_S (eA E) s.heap H1 (locs ++ [⟨a, i⟩]) := by
  refine ⟨by rw [hz]; exact hS.1, fun q h1 h2 => ?_, fun l hl => ?_⟩
  · rw [ho q (fun e => h2 (by rw [e]; exact ha))]
    exact hS.2.1 q h1 h2
  · rcases List.mem_append.mp hl with h | h
    · exact hS.2.2 l h
    · rw [List.mem_singleton.mp h]; exact ha
section
variable {E : EE} {d : Nat} {M : MD} {pc idx : Nat} {lv : List (Option AV)} {st : List AV} {G : AH} {Q : Option AV → AH → Prop} {a c k : Nat} {r : vw_C}
theorem wp_get {v : AV} (hd : decode M.2.1 pc = .ok (.getfield idx, 3)) (hf : FL M.1.cls idx c k r) (ha : isO E G a c) (hv : vAt G c a k = cv v) (kk : wp E d M (pc + 3) lv (v :: st) G Q) : wp E d M pc lv (vr a :: st) G Q := by
  refine wp_go (fun p e R s m args below meth c' H locs ls cells slots Z C hW hS hl kk => ?_) kk
  obtain ⟨hx, hb, hml, hrt, hlk, hown, hts, hK, hR, -⟩ := C
  show W p E.1 e R s m args below meth c' H locs cells slots Z (F0 m pc ls (rv a :: st.map cv))
  rw [rv_ne (ha.ne hR)]
  obtain ⟨hc, hk, hlink⟩ := hf
  have := va_get (cc := M.2.1) (pc := pc) (ls := ls) (rest := st.map cv) (l := E.1) (R := R) (e := e) (meth := meth) (below := below) (locs := locs) (cells := cells) (slots := slots) (Q := Z) hx hb (C := r.1) (T := r.2.1) (N := r.2.2) hts (cls_ok hc).2.2 hown hK (wd_P hW ha hc) 0 rfl hc k hk (hts _ hlink) (fun x h => h) (v := vAt G c a k) (by simp [hk]) hd
  refine this ?_
  rw [hv]
  exact kk ls hl
theorem wp_getI (hd : decode M.2.1 pc = .ok (.getfield idx, 3)) (hf : FL M.1.cls idx c k r) (hty : ∀ i j r, vF c k i j r = .int i) (ha : isO E G a c) (kk : wp E d M (pc + 3) lv (vi (gI G a k) :: st) G Q) : wp E d M pc lv (vr a :: st) G Q := wp_get hd hf ha (hty _ _ _) kk
theorem wp_getJ (hd : decode M.2.1 pc = .ok (.getfield idx, 3)) (hf : FL M.1.cls idx c k r) (hty : ∀ i j r, vF c k i j r = .long j) (ha : isO E G a c) (kk : wp E d M (pc + 3) lv (vj (gJ G a k) :: st) G Q) : wp E d M pc lv (vr a :: st) G Q := wp_get hd hf ha (hty _ _ _) kk
theorem wp_getR (hd : decode M.2.1 pc = .ok (.getfield idx, 3)) (hf : FL M.1.cls idx c k r) (hty : ∀ i j r, vF c k i j r = rv r) (ha : isO E G a c) (kk : wp E d M (pc + 3) lv (vr (gR G a k) :: st) G Q) : wp E d M pc lv (vr a :: st) G Q := wp_get hd hf ha (hty _ _ _) kk
theorem wp_put {v : AV} {G1 : AH} (hd : decode M.2.1 pc = .ok (.putfield idx, 3)) (hf : FL M.1.cls idx c k r) (ha : isO E G a c) (hfin : (r.2.1 k).2.2.2 = false ∨ ((r.2.1 k).2.2.2 = true ∧ M.1.name = "<init>" ∧ (r.2.1 k).1 = M.1.cls)) (hn : narrow (tyOf c k) (cv v) = cv v) (hfit : fits (tyOf c k) (cv v) = true) (hp : Pd G G1 a) (hv : ∀ j, vAt G1 c a j = if j = k then cv v else vAt G c a j)
    (kk : wp E d M (pc + 3) lv st G1 Q) : wp E d M pc lv (v :: vr a :: st) G Q := by
  have ht : gT G1 = gT G := by unfold gT; rw [hp.1]
  have hu : gU G1 = gU G := by unfold gU; rw [hp.1]
  refine wp_mv (by omega) (by omega) (fun p e R s m args below meth c' H locs ls cells slots Z C hW hS hl hrc hrs kk => ?_) kk
  rw [ht, hu, Nat.sub_self, Nat.sub_self, Nat.add_zero, Nat.add_zero] at kk
  obtain ⟨hx, hb, hml, hrt, hlk, hown, hts, hK, hR, hnm⟩ := C
  show W p E.1 e R s m args below meth c' H locs cells slots Z (F0 m pc ls (cv v :: rv a :: st.map cv))
  rw [rv_ne (ha.ne hR)]
  obtain ⟨hc, hk, hlink⟩ := hf
  obtain ⟨hok1, hok2, hin⟩ := cls_ok hc
  have hap := va_apart (own := M.1.cls) hts hin (tyOf c) hok1 hok2 hK hc
  obtain ⟨cell, q1, q2, q3, q4⟩ := wd_ob hW ha hc
  obtain ⟨hSl, hfc, kC, hkC, hkind⟩ := hK.1 c _ hc
  obtain ⟨cf, kf, fi, f, hi, hsl⟩ := hSl k hk
  have hlay := hts _ (hin _ (u_in_lay hk))
  have hst := (u_facts hfc hkC (u_lays hts hin hk) hi).1
  have hdn := hok1 k hk
  have fin : ∀ H' : Heap, H'[a]? = some (cell.setSlot f.slot (cv v)) → H'.size = H.size → (∀ q, q ≠ a → H'[q]? = H[q]?) → W p E.1 e R s m args below meth c' H' (locs ++ [⟨a, f.slot⟩]) cells slots Z (F0 m (pc + 3) ls (st.map cv)) := by
    intro H' e1 e2 e3
    rw [hsl] at e1 ⊢
    refine kk H' _ (hW.set hp e2 e3 ?_) (vaS_put hS e2 e3 ha.1)
    have hlt : c < 13 := (List.getElem?_eq_some_iff.mp hc).1
    unfold cellOk
    rw [hp.2.1, ha.2.2, if_pos hlt]
    refine ⟨r, hc, t_OB.to (V := updV (vAt G c a) k (cv v)) ⟨_, e1, q2, q3, t_set q4 hap hk (cv v)⟩ (fun j _ => ?_)⟩
    have hj := hv j
    show updV (vAt G c a) k (cv v) j = vAt G1 c a j
    rw [hj]; rfl
  rcases hfin with hfin | ⟨hfin, hini, hdecl⟩
  · unfold u_lay at hlay
    rw [if_neg (by rw [hfin]; decide)] at hlay
    have h6 := u_store hfc hkC hkind hlay hi hdn hn hfit
    exact W.putK hx hb (f := f) ⟨hown, hts _ hlink, ⟨_, _, _, hi⟩, hst⟩ (by rw [q2]; exact h6) q1 q3 (by rw [hsl]; exact k2_hasslot (q4 k hk)) rfl rfl hd fin
  · unfold u_lay at hlay
    rw [if_pos hfin] at hlay
    have hcf : m.cls = cf := by
      obtain ⟨_, _, c'', _, _, _, -, -, hf', -, -, -, hown2, -⟩ := Cond.laysFinal_spec hlay
      have e1 : c'' = cf := by have := hi.symm.trans hf'; simp at this; exact this.1.symm
      rw [hdecl] at hown2
      rw [← e1]; exact Option.some.inj (hown.symm.trans hown2)
    have h6 := u_fits hfc hkC hkind (Or.inr hlay) hi hdn hn hfit
    exact W.putFinK hx hb hown (hts _ hlink) hi hst hcf (by rw [hnm]; exact hini) (by rw [q2]; exact h6) q1 q3 (by rw [hsl]; exact k2_hasslot (q4 k hk)) rfl rfl hd fin
theorem vF_I (hty : ∀ i j r, vF c k i j r = .int i) (x : Int32) (j : Nat) : vAt (sI G a k x) c a j = if j = k then cv (vi x) else vAt G c a j := by
  by_cases hj : j = k
  · subst hj
    rw [if_pos rfl]
    show vF c j (u2 (gI G) a j x a j) _ _ = _
    rw [hty]; unfold u2; rw [if_pos ⟨rfl, rfl⟩]; rfl
  · rw [if_neg hj]
    show vF c j (u2 (gI G) a k x a j) _ _ = _
    unfold u2; rw [if_neg (fun q => hj q.2)]; rfl
theorem vF_J (hty : ∀ i j r, vF c k i j r = .long j) (x : Int64) (j : Nat) : vAt (sJ G a k x) c a j = if j = k then cv (vj x) else vAt G c a j := by
  by_cases hj : j = k
  · subst hj
    rw [if_pos rfl]
    show vF c j _ (u2 (gJ G) a j x a j) _ = _
    rw [hty]; unfold u2; rw [if_pos ⟨rfl, rfl⟩]; rfl
  · rw [if_neg hj]
    show vF c j _ (u2 (gJ G) a k x a j) _ = _
    unfold u2; rw [if_neg (fun q => hj q.2)]; rfl
theorem vF_R (hty : ∀ i j r, vF c k i j r = rv r) (x : Nat) (j : Nat) : vAt (sR G a k x) c a j = if j = k then cv (vr x) else vAt G c a j := by
  by_cases hj : j = k
  · subst hj
    rw [if_pos rfl]
    show vF c j _ _ (u2 (gR G) a j x a j) = _
    rw [hty]; unfold u2; rw [if_pos ⟨rfl, rfl⟩]; rfl
  · rw [if_neg hj]
    show vF c j _ _ (u2 (gR G) a k x a j) = _
    unfold u2; rw [if_neg (fun q => hj q.2)]; rfl
/-- what may stand in a field of ints of that type -/
def okI (t : FieldType) (x : Int32) : Prop := narrow t (.int x) = .int x ∧ fits t (.int x) = true
theorem okI_int (x : Int32) : okI .int x := ⟨rfl, rfl⟩
theorem okI_z0 : okI .boolean 0 := ⟨rfl, rfl⟩
theorem okI_z1 : okI .boolean 1 := ⟨rfl, rfl⟩
theorem wp_putI {x : Int32} (hd : decode M.2.1 pc = .ok (.putfield idx, 3)) (hf : FL M.1.cls idx c k r) (hty : ∀ i j r, vF c k i j r = .int i) (hfin : (r.2.1 k).2.2.2 = false ∨ ((r.2.1 k).2.2.2 = true ∧ M.1.name = "<init>" ∧ (r.2.1 k).1 = M.1.cls)) (ha : isO E G a c) (hok : okI (tyOf c k) x) (kk : wp E d M (pc + 3) lv st (sI G a k x) Q) : wp E d M pc lv (vi x :: vr a :: st) G Q :=
  wp_put hd hf ha hfin hok.1 hok.2 (pd_I G a k x) (vF_I hty x) kk
theorem wp_putJ {x : Int64} (hd : decode M.2.1 pc = .ok (.putfield idx, 3)) (hf : FL M.1.cls idx c k r) (hty : ∀ i j r, vF c k i j r = .long j) (htt : tyOf c k = .long) (hfin : (r.2.1 k).2.2.2 = false ∨ ((r.2.1 k).2.2.2 = true ∧ M.1.name = "<init>" ∧ (r.2.1 k).1 = M.1.cls)) (ha : isO E G a c) (kk : wp E d M (pc + 3) lv st (sJ G a k x) Q) : wp E d M pc lv (vj x :: vr a :: st) G Q :=
  wp_put hd hf ha hfin (by rw [htt]; rfl) (by rw [htt]; rfl) (pd_J G a k x) (vF_J hty x) kk
theorem fits_ref (t : FieldType) (h : (∃ n, t = .object n) ∨ ∃ q, t = .array q) (x : Nat) : narrow t (rv x) = rv x ∧ fits t (rv x) = true := by
  rcases h with ⟨n, rfl⟩ | ⟨q, rfl⟩ <;> unfold rv <;> split <;> exact ⟨rfl, rfl⟩
theorem wp_putR {x : Nat} (hd : decode M.2.1 pc = .ok (.putfield idx, 3)) (hf : FL M.1.cls idx c k r) (hty : ∀ i j r, vF c k i j r = rv r) (htt : (∃ n, tyOf c k = .object n) ∨ ∃ q, tyOf c k = .array q) (hfin : (r.2.1 k).2.2.2 = false ∨ ((r.2.1 k).2.2.2 = true ∧ M.1.name = "<init>" ∧ (r.2.1 k).1 = M.1.cls)) (ha : isO E G a c) (kk : wp E d M (pc + 3) lv st (sR G a k x) Q) : wp E d M pc lv (vr x :: vr a :: st) G Q :=
  wp_put hd hf ha hfin (fits_ref _ htt x).1 (fits_ref _ htt x).2 (pd_R G a k x) (vF_R hty x) kk
end
