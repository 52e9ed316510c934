/-! calls, entries, ends -/
def catS : List AV → Nat
  | [] => 0
  | .inr (.inl _) :: r => 2 + catS r
  | _ :: r => 1 + catS r
theorem cv_cat (v : AV) (r : List AV) : (cv v).category + catS r = catS (v :: r) := by
  rcases v with x | x | a | b
  · rfl
  · rfl
  · show (rv a).category + _ = _
    rw [rv_cat]; rfl
  · rfl
theorem catS_eq (st : List AV) : ((st.map cv).map fun v => v.category).sum = catS st := by
  induction st with
  | nil => rfl
  | cons v r ih => rw [List.map_cons, List.map_cons, List.sum_cons, ih, cv_cat]
theorem RO.pos {E : EE} {s : State} (h : RO E s) : 0 < eB E := Nat.lt_of_le_of_lt (Nat.zero_le _) h.2.1
theorem RO.at {E : EE} {s U : State} {H : Heap} {locs : List Loc} (h : RO E s) (hW : s.WarmedH U.vm) (hU : U.heap = H) (hS : va_S (eA E) s.heap H locs) : RO E U := by
  subst hU
  obtain ⟨h1, h2, h3, h4, h5, h6, h7, h8, h9, h10⟩ := h
  have hvm := hW.alike
  have hq : ∀ a : Nat, a < s.heap.size → ¬ eA E a → U.heap[a]? = s.heap[a]? := hS.2.1
  refine ⟨(h1.kept (hq _ (Nat.lt_of_lt_of_le h2 h3) (Nat.not_le.mpr h2))).moved hvm, h2, Nat.le_trans h3 hS.1, (h4.kept hq).moved hvm, (h5.kept hq).moved hvm, (h6.kept hq).moved hvm, fun i q hi => (h7 i q hi).warm hW, (h8.kept hq).moved hvm, h9.moved hvm, (h10.kept hq).moved hvm⟩
theorem RO.same {E : EE} {U V : State} (h : RO E U) (hv : V.vm = U.vm) (hh : V.heap = U.heap) : RO E V := by
  obtain ⟨h1, h2, h3, h4, h5, h6, h7, h8, h9, h10⟩ := h
  have hvm : U.vm.Alike V.vm := by rw [hv]; exact Vm.Alike.refl _
  unfold RO
  rw [hh]
  exact ⟨h1.moved hvm, h2, h3, h4.moved hvm, h5.moved hvm, h6.moved hvm, fun i q hi => vk_R.same hv (h7 i q hi), h8.moved hvm, h9.moved hvm, h10.moved hvm⟩
theorem Pc.blind (E : EE) (as : List AV) (G : AH) : FrameBlind (Pc E as G) := by
  intro a U g mk h
  obtain ⟨h1, h2, h3, h4⟩ := h
  exact ⟨h1, h2, va_K.moved (u := U) (U := U.calling g mk a) (Vm.Alike.refl U.vm) h3, h4.same rfl rfl⟩
def MK (N : MD) (n : Nat) : Prop := Cond.code N.1 N.2.1 N.2.2.1 N.2.2.2 ∈ TB ∧ Cond.initialized N.1.cls ∈ TB ∧ (N.1.cls ≠ "java/lang/invoke/MethodHandle" ∧ N.1.cls ≠ "java/lang/invoke/VarHandle" ∧ (parseMethodDescriptor N.1.desc).map (fun d => d.parameters.length) = some n) ∧ N.2.2.1 ≤ 45 ∧ plainName N.1.cls = true
def MV (N : MD) : Prop := Cond.instanceMethod N.1 ∈ TB ∧ Cond.selects N.1.cls N.1 N.1 ∈ TB
def MI (N : MD) : Prop := N.1.name = "<init>" ∧ Cond.instanceMethod N.1 ∈ TB ∧ N.2.2.2 = none
def MS (N : MD) : Prop := Cond.static N.1 ∈ TB
theorem wsM_good {N : MD} {n : Nat} (h : MK N n) : GoodIn TB (wsM N) := by
  intro w hw
  have hm : w ∈ TB := by
    rcases List.mem_cons.mp hw with rfl | hw
    · exact h.1
    · exact hw
  exact ⟨hm, good_of_word (List.mem_filter.mp hm).2⟩
section
variable {p : Program} {e : Env} {R : Room} {s : State} {m : MethodId} {args : Array Value} {below : List Frame} {meth : Method} {c : Code} {H : Heap} {locs : List Loc} {cells slots : Nat} {Z : State → Prop}
theorem call_go {E : EE} {x : Option AV} {G1 : AH} {mc ms pc : Nat} {ls : Array Slot} {st0 rest : List Value} {a : Array Value} (hr : va_Run p E.1 e R s m args below meth c H locs cells slots mc ms (F0 m pc ls st0) rest (Qc E x G1 a) (eA E)) (hS : va_S (eA E) s.heap H locs)
    (kk : ∀ (H1 : Heap) (locs1 : List Loc), Wd E G1 H1 → va_S (eA E) s.heap H1 locs1 → W p E.1 e R s m args below meth c H1 locs1 (cells + mc) (slots + ms) Z (F0 m (pc + 3) ls ((x.map cv).toList ++ rest))) : W p E.1 e R s m args below meth c H locs cells slots Z (F0 m pc ls st0) := by
  intro T hT X
  obtain ⟨v, st₀, t, T', L, h0, X', hL, e1, e2, ⟨hv, hw, hz, hk⟩, st⟩ := hr T hT X
  have hv := Outcome.returned.inj hv
  subst hv
  rw [h0] at hz hk
  obtain ⟨t2, a1, b1⟩ := kk T'.heap (locs ++ L) (by rw [e1]; exact hw)
    ⟨Nat.le_trans hS.1 (by rw [e1]; exact hz), fun q h1 h2 => by rw [e1, hk q (Nat.lt_of_lt_of_le h1 hS.1) h2]; exact hS.2.1 q h1 h2, fun q hq => by
      rcases List.mem_append.mp hq with h | h
      · exact hS.2.2 q h
      · exact hL q h⟩ T' rfl X'
  exact ⟨t2, st t2 a1, b1⟩
end
theorem call_pre {E : EE} {M : MD} {p : Program} {s : State} {m : MethodId} {args : Array Value} {meth : Method} {c : Code} {G : AH} {H : Heap} {locs : List Loc} {as : List AV} (C : Cx E M p s m args meth c) (hW : Wd E G H) (hS : va_S (eA E) s.heap H locs) : ∀ U : State, U.heap = H → s.WarmedH U.vm → Pc E as G (as.map cv).toArray U := by
  intro U hU hV
  obtain ⟨-, -, -, -, -, -, -, hK, hR, -⟩ := C
  exact ⟨rfl, by rw [hU]; exact hW, va_K.moved hV.alike hK, hR.at hV hU hS⟩
theorem isO.ne {E : EE} {G : AH} {a c : Nat} {s : State} (h : isO E G a c) (hR : RO E s) : a ≠ 0 := fun q => by have := hR.pos; have := h.1; omega
theorem wd_recv {E : EE} {G : AH} {H : Heap} {s : State} {a c : Nat} {r : vw_C} (hW : Wd E G H) (hK : va_K (eD E) cls13 (tys5 E) s) (h : isO E G a c) (hc : cls13[c]? = some r) : ∃ cell : Cell, H[a]? = some cell ∧ cell.vm.isStatics = false ∧ s.vm.findClass r.1 = some cell.cls := by
  have hk := hW.2 a h.1 h.2.1
  have hlt : c < 13 := (List.getElem?_eq_some_iff.mp hc).1
  unfold cellOk at hk
  rw [h.2.2, if_pos hlt] at hk
  obtain ⟨r', h1, cell, g1, g2, g3, -⟩ := hk
  exact ⟨cell, g1, by rw [g3]; rfl, by rw [g2]; exact (hK.1 c r hc).2.1⟩
section
variable {E : EE} {d : Nat} {M N : MD} {pc idx : Nat} {lv : List (Option AV)} {rest As : List AV} {G : AH} {Q : Option AV → AH → Prop}
theorem opt_map_list (x : Option AV) (rest : List AV) : (x.toList ++ rest).map cv = (x.map cv).toList ++ rest.map cv := by cases x <;> simp
theorem wp_invV {a c : Nat} {r : vw_C} (hd : decode M.2.1 pc = .ok (.invokevirtual idx, 3)) (hl : Cond.methodLink M.1.cls idx N.1 ∈ TB) (hm : MK N As.length) (hv : MV N) (h0 : 0 < d) (ha : isO E G a c) (hc : cls13[c]? = some r) (hrc : r.1 = N.1.cls) (hr : catS rest ≤ 8)
    (k : wpM E (d - 1) N (vr a :: As) G (fun x G1 => wp E d M (pc + 3) lv (x.toList ++ rest) G1 Q)) : wp E d M pc lv (As.reverse ++ vr a :: rest) G Q := by
  obtain ⟨x, G1, ⟨t1, u1, hM⟩, ⟨r', G', ⟨t2, u2, hX⟩, hq⟩⟩ := k
  refine ⟨r', G', ⟨Nat.le_trans t1 t2, Nat.le_trans u1 u2, fun p e s m args below meth c n0 w0 H locs ls C hn hw hW hS hlo => ?_⟩, hq⟩
  obtain ⟨hx, hb, hml, hrt, hlk, hown, hts, hK, hR, -⟩ := id C
  have hB : CallB (rmm d (gT G' - n0) (gU G' - w0)) s args M.1.cls idx N.1 N.2.1 N.2.2.1 N.2.2.2 (wsM N) (rmm (d - 1) (gT G1 - gT G) (gU G1 - gU G)) (gT G1 - gT G) (gU G1 - gU G) As.length :=
    callB_of As.length hts (wsM_good hm) rfl rfl rfl (hts _ hm.2.1) (hts _ hl) hm.2.2.1 ⟨by show d - 1 + 1 ≤ d; omega, by have := hm.2.2.2.1; show 8 + (N.2.2.1 + 11) + 64 * (d - 1) ≤ 64 * d; omega⟩
  have hst : (As.reverse ++ vr a :: rest).map cv = (As.map cv).reverse ++ Value.ref a :: rest.map cv := by
    rw [List.map_append, List.map_reverse, List.map_cons, show cv (vr a) = Value.ref a from rv_ne (ha.ne hR)]
  have hca : ∀ U : State, U.heap = H → s.WarmedH U.vm → Pc E (vr a :: As) G (Value.ref a :: As.map cv).toArray U := by
    have := call_pre (as := vr a :: As) C hW hS
    rw [List.map_cons, show cv (vr a) = Value.ref a from rv_ne (ha.ne hR)] at this
    exact this
  have hrun := va_runV (As := As.map cv) (rest := rest.map cv) (b := a) (g := F0 m pc ls ((As.reverse ++ vr a :: rest).map cv)) (meth := meth) (below := below) (locs := locs) (cells := gT G - n0) (slots := gU G - w0) (e := e) ⟨hx, hb, hml, hown, hts⟩ hM ⟨hB, hts _ hv.1, hts _ hv.2⟩ ⟨Pc.blind E _ G, by rw [← hrc]; exact wd_recv hW hK ha hc, hca⟩ rfl (by simp) hlo.1 hst (lv_room (by rw [catS_eq]; exact hr)) hd ⟨by show _ ≤ gT G' - n0; omega, by show _ ≤ gU G' - w0; omega⟩
  refine call_go hrun hS (fun H1 locs1 hW1 hS1 => ?_)
  have q := hX p e s m args below meth c n0 w0 H1 locs1 ls C (by omega) (by omega) hW1 hS1 hlo
  rw [show gT G - n0 + (gT G1 - gT G) = gT G1 - n0 by omega, show gU G - w0 + (gU G1 - gU G) = gU G1 - w0 by omega, ← opt_map_list]
  exact q
theorem wp_invI {a : Nat} {c : Nat} (hd : decode M.2.1 pc = .ok (.invokespecial idx, 3)) (hl : Cond.methodLink M.1.cls idx N.1 ∈ TB) (hm : MK N As.length) (hv : MI N) (h0 : 0 < d) (ha : isO E G a c) (hr : catS rest ≤ 8)
    (k : wpM E (d - 1) N (vr a :: As) G (fun x G1 => wp E d M (pc + 3) lv (x.toList ++ rest) G1 Q)) : wp E d M pc lv (As.reverse ++ vr a :: rest) G Q := by
  obtain ⟨x, G1, ⟨t1, u1, hM⟩, ⟨r', G', ⟨t2, u2, hX⟩, hq⟩⟩ := k
  refine ⟨r', G', ⟨Nat.le_trans t1 t2, Nat.le_trans u1 u2, fun p e s m args below meth c n0 w0 H locs ls C hn hw hW hS hlo => ?_⟩, hq⟩
  obtain ⟨hx, hb, hml, hrt, hlk, hown, hts, hK, hR, -⟩ := id C
  have hB : CallB (rmm d (gT G' - n0) (gU G' - w0)) s args M.1.cls idx N.1 N.2.1 N.2.2.1 none (wsM N) (rmm (d - 1) (gT G1 - gT G) (gU G1 - gU G)) (gT G1 - gT G) (gU G1 - gU G) As.length :=
    callB_of As.length hts (wsM_good hm) (by rw [← hv.2.2]; rfl) rfl rfl (hts _ hm.2.1) (hts _ hl) hm.2.2.1 ⟨by show d - 1 + 1 ≤ d; omega, by have := hm.2.2.2.1; show 8 + (N.2.2.1 + 11) + 64 * (d - 1) ≤ 64 * d; omega⟩
  have hst : (As.reverse ++ vr a :: rest).map cv = (As.map cv).reverse ++ Value.ref a :: rest.map cv := by
    rw [List.map_append, List.map_reverse, List.map_cons, show cv (vr a) = Value.ref a from rv_ne (ha.ne hR)]
  have hca : ∀ U : State, U.heap = H → s.WarmedH U.vm → Pc E (vr a :: As) G (Value.ref a :: As.map cv).toArray U := by
    have := call_pre (as := vr a :: As) C hW hS
    rw [List.map_cons, show cv (vr a) = Value.ref a from rv_ne (ha.ne hR)] at this
    exact this
  have hrun := va_runI (As := As.map cv) (rest := rest.map cv) (b := a) (g := F0 m pc ls ((As.reverse ++ vr a :: rest).map cv)) (meth := meth) (below := below) (locs := locs) (cells := gT G - n0) (slots := gU G - w0) (e := e) ⟨hx, hb, hml, hown, hts⟩ hM ⟨hB, hv.1, hts _ hv.2.1⟩ ⟨Pc.blind E _ G, hca⟩ rfl (by simp) hlo.1 hst (lv_room (by rw [catS_eq]; exact hr)) hd ⟨by show _ ≤ gT G' - n0; omega, by show _ ≤ gU G' - w0; omega⟩
  refine call_go hrun hS (fun H1 locs1 hW1 hS1 => ?_)
  have q := hX p e s m args below meth c n0 w0 H1 locs1 ls C (by omega) (by omega) hW1 hS1 hlo
  rw [show gT G - n0 + (gT G1 - gT G) = gT G1 - n0 by omega, show gU G - w0 + (gU G1 - gU G) = gU G1 - w0 by omega, ← opt_map_list]
  exact q
theorem wp_invS (hd : decode M.2.1 pc = .ok (.invokestatic idx, 3)) (hl : Cond.methodLink M.1.cls idx N.1 ∈ TB) (hm : MK N As.length) (hv : MS N) (h0 : 0 < d) (hr : catS rest ≤ 8)
    (k : wpM E (d - 1) N As G (fun x G1 => wp E d M (pc + 3) lv (x.toList ++ rest) G1 Q)) : wp E d M pc lv (As.reverse ++ rest) G Q := by
  obtain ⟨x, G1, ⟨t1, u1, hM⟩, ⟨r', G', ⟨t2, u2, hX⟩, hq⟩⟩ := k
  refine ⟨r', G', ⟨Nat.le_trans t1 t2, Nat.le_trans u1 u2, fun p e s m args below meth c n0 w0 H locs ls C hn hw hW hS hlo => ?_⟩, hq⟩
  obtain ⟨hx, hb, hml, hrt, hlk, hown, hts, hK, hR, -⟩ := id C
  have hB : CallB (rmm d (gT G' - n0) (gU G' - w0)) s args M.1.cls idx N.1 N.2.1 N.2.2.1 N.2.2.2 (wsM N) (rmm (d - 1) (gT G1 - gT G) (gU G1 - gU G)) (gT G1 - gT G) (gU G1 - gU G) As.length :=
    callB_of As.length hts (wsM_good hm) rfl rfl rfl (hts _ hm.2.1) (hts _ hl) hm.2.2.1 ⟨by show d - 1 + 1 ≤ d; omega, by have := hm.2.2.2.1; show 8 + (N.2.2.1 + 11) + 64 * (d - 1) ≤ 64 * d; omega⟩
  have hst : (As.reverse ++ rest).map cv = (As.map cv).reverse ++ rest.map cv := by
    rw [List.map_append, List.map_reverse]
  have hrun := va_runS (As := As.map cv) (rest := rest.map cv) (g := F0 m pc ls ((As.reverse ++ rest).map cv)) (meth := meth) (below := below) (locs := locs) (cells := gT G - n0) (slots := gU G - w0) (e := e) ⟨hx, hb, hml, hown, hts⟩ hM ⟨hB, hts _ hv⟩ ⟨Pc.blind E _ G, call_pre C hW hS⟩ rfl (by simp) hlo.1 hst (lv_room (by rw [catS_eq]; exact hr)) hd ⟨by show _ ≤ gT G' - n0; omega, by show _ ≤ gU G' - w0; omega⟩
  refine call_go hrun hS (fun H1 locs1 hW1 hS1 => ?_)
  have q := hX p e s m args below meth c n0 w0 H1 locs1 ls C (by omega) (by omega) hW1 hS1 hlo
  rw [show gT G - n0 + (gT G1 - gT G) = gT G1 - n0 by omega, show gU G - w0 + (gU G1 - gU G) = gU G1 - w0 by omega, ← opt_map_list]
  exact q
/-- the locals with which a method begins -/
def entL : List AV → List (Option AV)
  | [] => []
  | .inr (.inl x) :: r => some (vj x) :: none :: entL r
  | v :: r => some v :: entL r
theorem entL_args (as : List AV) : ∀ (o i : Nat) (v : AV), (entL as)[i]? = some (some v) → (o + i, cv v) ∈ lv_args o (as.map cv) := by
  induction as with
  | nil => intro o i v h; simp [entL] at h
  | cons w as ih =>
    intro o i v h
    rcases w with x | x | a | b
    · cases i with
      | zero => simp only [entL, List.getElem?_cons_zero, Option.some.injEq] at h; subst h; exact List.mem_cons_self
      | succ i =>
        have := ih (o + 1) i v (by simpa [entL] using h)
        rw [show o + (i + 1) = o + 1 + i by omega]
        exact List.mem_cons_of_mem _ this
    · cases i with
      | zero => simp only [entL, List.getElem?_cons_zero, Option.some.injEq] at h; subst h; exact List.mem_cons_self
      | succ i =>
        cases i with
        | zero => simp [entL] at h
        | succ i =>
          have := ih (o + 2) i v (by simpa [entL] using h)
          rw [show o + (i + 1 + 1) = o + 2 + i by omega]
          exact List.mem_cons_of_mem _ this
    · cases i with
      | zero => simp only [entL, List.getElem?_cons_zero, Option.some.injEq] at h; subst h; exact List.mem_cons_self
      | succ i =>
        have := ih (o + 1) i v (by simpa [entL] using h)
        rw [show o + (i + 1) = o + 1 + i by omega]
        refine List.mem_cons_of_mem _ ?_
        rw [if_neg (by show ¬ (rv a).category = 2; rw [rv_cat]; decide)]
        exact this
    · cases i with
      | zero => simp only [entL, List.getElem?_cons_zero, Option.some.injEq] at h; subst h; exact List.mem_cons_self
      | succ i =>
        have := ih (o + 1) i v (by simpa [entL] using h)
        rw [show o + (i + 1) = o + 1 + i by omega]
        exact List.mem_cons_of_mem _ this
theorem entL_len (as : List AV) : (lg_sl (as.map cv)).length = (entL as).length := by
  induction as with
  | nil => rfl
  | cons w as ih =>
    rcases w with x | x | a | b
    · simp [lg_sl, entL, cv, Value.category] at ih ⊢; exact ih
    · simp [lg_sl, entL, cv, Value.category] at ih ⊢; exact ih
    · have : (cv (.inr (.inr (.inl a)))).category = 1 := rv_cat a
      simp [lg_sl, entL, this] at ih ⊢; exact ih
    · simp [lg_sl, entL, cv, Value.category] at ih ⊢; exact ih
theorem lvp {lv : List (Option AV)} {n i : Nat} {v : AV} (h : (lv ++ List.replicate n none)[i]? = some (some v)) : lv[i]? = some (some v) := by
  by_cases hi : i < lv.length
  · rwa [List.getElem?_append_left hi] at h
  · rw [List.getElem?_append_right (by omega), List.getElem?_replicate] at h
    split at h <;> simp at h
theorem wpM_of {as : List AV} {n : Nat} (hm : MK N n) (hn : (entL as).length ≤ N.2.2.1) (h : wp E d N 0 (entL as ++ List.replicate (N.2.2.1 - (entL as).length) none) [] G Q) : wpM E d N as G Q := by
  obtain ⟨r, G', ⟨h1, h2, h3⟩, hq⟩ := h
  refine ⟨r, G', ⟨h1, h2, ?_⟩, hq⟩
  refine Met.ofW (cc := N.2.1) (maxL := N.2.2.1) (ret := N.2.2.2) hm.2.2.2.2 rfl ?_
  intro p e s m args below meth c s₁ B hml hv
  obtain ⟨rfl, hW, hK, hR⟩ := hv
  have hts := atoms_spec (ws := wsM N) B.pre
  have hown : s.vm.findClass N.1.cls = some m.cls := findClass_of_methodNamed B.named
  have hnm : meth.name = N.1.name := (name_of_methodNamed B.named B.method).1
  have hl := lv_entry (as.map cv) (n := N.2.2.1) (by rw [entL_len]; exact hn)
  rw [lg_entry_eq]
  have q := h3 p e s m _ below meth c (gT G) (gU G) s.heap [] _ ⟨B.exec, B.bytes, hml, B.returns, B.notSynchronized, hown, fun w hw => hts w (List.mem_cons_of_mem _ hw), hK, hR, hnm⟩ (Nat.le_refl _) (Nat.le_refl _) hW va_S.rf ⟨hl.1, hl.2.1, fun i v hi => hl.2.2 (i, cv v) (by have := entL_args as 0 i v (lvp hi); rwa [Nat.zero_add] at this)⟩
  rw [Nat.sub_self, Nat.sub_self] at q
  exact q
/-! ends -/
theorem wp_iret {x : Int32} (hd : decode M.2.1 pc = .ok (.ireturn, 1)) (hr : M.2.2.2 = some .int) (hq : Q (some (vi x)) G) : wp E d M pc lv [vi x] G Q := by
  refine ⟨_, _, ⟨Nat.le_refl _, Nat.le_refl _, fun p e s m args below meth c n0 w0 H locs ls C hn hw hW hS hlo => ?_⟩, hq⟩
  obtain ⟨hx, hb, hml, hrt, hlk, hown, hts, hK, hR, -⟩ := C
  exact W.iret hx hb (by rw [hrt]; exact hr) (fun t ht _ => ⟨rfl, by rw [ht]; exact hW, hS.F ht⟩) hS.2.2 hd
theorem wp_zret {x : Int32} {ty : FieldType} (hd : decode M.2.1 pc = .ok (.ireturn, 1)) (hr : M.2.2.2 = some ty) (hz : narrow ty (.int x) = .int x) (hq : Q (some (vi x)) G) : wp E d M pc lv [vi x] G Q := by
  refine ⟨_, _, ⟨Nat.le_refl _, Nat.le_refl _, fun p e s m args below meth c n0 w0 H locs ls C hn hw hW hS hlo => ?_⟩, hq⟩
  obtain ⟨hx, hb, hml, hrt, hlk, hown, hts, hK, hR, -⟩ := C
  exact W.zret hx hb (by rw [hrt]; exact hr) hz (fun t ht _ => ⟨rfl, by rw [ht]; exact hW, hS.F ht⟩) hS.2.2 hd
theorem wp_lret {x : Int64} (hd : decode M.2.1 pc = .ok (.lreturn, 1)) (hr : M.2.2.2 = some .long) (hq : Q (some (vj x)) G) : wp E d M pc lv [vj x] G Q := by
  refine ⟨_, _, ⟨Nat.le_refl _, Nat.le_refl _, fun p e s m args below meth c n0 w0 H locs ls C hn hw hW hS hlo => ?_⟩, hq⟩
  obtain ⟨hx, hb, hml, hrt, hlk, hown, hts, hK, hR, -⟩ := C
  exact W.lret hx hb (by rw [hrt]; exact hr) (fun t ht _ => ⟨rfl, by rw [ht]; exact hW, hS.F ht⟩) hS.2.2 hd
theorem wp_vret (hd : decode M.2.1 pc = .ok (.return_, 1)) (hr : M.2.2.2 = none) (hq : Q none G) : wp E d M pc lv [] G Q := by
  refine ⟨_, _, ⟨Nat.le_refl _, Nat.le_refl _, fun p e s m args below meth c n0 w0 H locs ls C hn hw hW hS hlo => ?_⟩, hq⟩
  obtain ⟨hx, hb, hml, hrt, hlk, hown, hts, hK, hR, -⟩ := C
  exact W.vret hx hb (by rw [hrt]; exact hr) (fun t ht _ => ⟨rfl, by rw [ht]; exact hW, hS.F ht⟩) hS.2.2 hd
theorem wp_aret {a : Nat} {rt : FieldType} (hd : decode M.2.1 pc = .ok (.areturn, 1)) (hr : M.2.2.2 = some rt) (hrt : (∃ n, rt = .object n) ∨ ∃ t, rt = .array t) (hq : Q (some (vr a)) G) : wp E d M pc lv [vr a] G Q := by
  refine ⟨_, _, ⟨Nat.le_refl _, Nat.le_refl _, fun p e s m args below meth c n0 w0 H locs ls C hn hw hW hS hlo => ?_⟩, hq⟩
  obtain ⟨hx, hb, hml, hrt', hlk, hown, hts, hK, hR, -⟩ := C
  exact W.aret (v := rv a) hx hb (by rw [hrt']; exact hr) hrt (by unfold rv; split; exact Or.inl rfl; exact Or.inr ⟨_, rfl⟩) (fun t ht _ => ⟨rfl, by rw [ht]; exact hW, hS.F ht⟩) hS.2.2 hd
end
