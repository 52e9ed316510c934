/-! rules: rows of problems, statics, texts, the script, copies -/
section
variable {E : EE} {d : Nat} {M : MD} {pc idx : Nat} {lv : List (Option AV)} {st : List AV} {G : AH} {Q : Option AV → AH → Prop} {a c k : Nat} {i : Int32}
theorem wp_anew (hd : decode M.2.1 pc = .ok (.anewarray idx, 3)) (hcl : Cond.classLink M.1.cls idx "PlanningHouse$Problem" ∈ TB) (hn : ¬ i < 0) (hN : i.toNatClampNeg ≤ 60000000) (kk : wp E d M (pc + 3) lv (vr (gT G) :: st) (nw G 17 i.toNatClampNeg i.toNatClampNeg) Q) : wp E d M pc lv (vi i :: st) G Q := by
  refine wp_mv (by show _ ≤ gT G + 1; omega) (by show _ ≤ gU G + _; omega) (fun p e R s m args below meth c' H locs ls cells slots Z C hW hS hl hrc hrs kk => ?_) kk
  have eT : gT (nw G 17 i.toNatClampNeg i.toNatClampNeg) - gT G = 1 := by show gT G + 1 - gT G = 1; omega
  have eU : gU (nw G 17 i.toNatClampNeg i.toNatClampNeg) - gU G = i.toNatClampNeg := by show gU G + _ - gU G = _; omega
  rw [eT, eU] at kk
  rw [eT] at hrc
  rw [eU] at hrs
  obtain ⟨hx, hb, hml, hrt, hlk, hown, hts, hK, hR, -⟩ := C
  refine W.anew hx hb hown (hts _ hcl) (va_AO.use hR.2.2.2.2.2.2.2.2.1) (g := F0 m pc ls (.int i :: st.map cv)) rfl hd rfl hn (by omega) hrc hrs fun cA kA comp f1 f2 f3 f4 => ?_
  generalize hH1 : H.push ({ cls := cA, slots := Array.replicate i.toNatClampNeg .null, vm := .none } : Cell) = H1
  have z1 : H1.size = gT G + 1 := by rw [← hH1, Array.size_push, hW.1]
  have e1 : H1[gT G]? = some (arrV cA i.toNatClampNeg (fun _ => .null)) := by rw [← hH1, ← hW.1, Array.getElem?_push_size, ← arrV_new]
  have o1 : ∀ q : Nat, q < gT G → H1[q]? = H[q]? := fun q hq => by rw [← hH1, Array.getElem?_push, if_neg (by rw [hW.1]; omega)]
  have hcA : cA = eC E 17 := by
    obtain ⟨kA', comp', k1, k2, k3, k4⟩ := (hK.2 4 _ rfl).2
    exact Option.some.inj (f1.symm.trans k4)
  subst hcA
  have hne : gT G ≠ 0 := by have := hR.pos; have := hR.2.2.1; have := hS.1; rw [hW.1] at this; omega
  have q := kk H1 locs (hW.new z1 o1 ?_) (vaS_new hS hW z1 o1)
  · have e : rv (gT G) = .ref (gT G) := rv_ne hne
    simp only [List.map_cons, cv, e] at q
    rw [hW.1]
    exact q
  · obtain ⟨a1, a2, a3, a4, a5⟩ := nw_at G 17 i.toNatClampNeg i.toNatClampNeg
    unfold cellOk
    rw [a1, a2, a3, a4, a5, if_neg (by omega), e1]
    rfl
theorem wp_words (hd : decode M.2.1 pc = .ok (.getstatic idx, 3)) (hl : Cond.fieldLink M.1.cls idx "PlanningHouse$Tokens" "WORDS" "[J" ∈ TB) (kk : wp E d M (pc + 3) lv (vs (eW E) :: st) G Q) : wp E d M pc lv st G Q :=
  wp_go (fun p e R s m args below meth c' H locs ls cells slots Z C hW hS hlo kk => va_gets C.1 C.2.1 C.2.2.2.2.2.2.2.2.1.2.2.2.1 hS C.2.2.2.2.2.1 (C.2.2.2.2.2.2.1 _ hl) (fun x h => h) hd (kk ls hlo)) kk
theorem wp_compact (hd : decode M.2.1 pc = .ok (.getstatic idx, 3)) (hl : Cond.fieldLink M.1.cls idx "java/lang/String" "COMPACT_STRINGS" "Z" ∈ TB) (kk : wp E d M (pc + 3) lv (vi 1 :: st) G Q) : wp E d M pc lv st G Q :=
  wp_go (fun p e R s m args below meth c' H locs ls cells slots Z C hW hS hlo kk => va_gets C.1 C.2.1 C.2.2.2.2.2.2.2.2.1.2.2.2.2.2.1 hS C.2.2.2.2.2.1 (C.2.2.2.2.2.2.1 _ hl) (fun x h => h) hd (kk ls hlo)) kk
theorem wp_sioobe (hd : decode M.2.1 pc = .ok (.getstatic idx, 3)) (hl : Cond.fieldLink M.1.cls idx "jdk/internal/util/Preconditions" "SIOOBE_FORMATTER" "Ljava/util/function/BiFunction;" ∈ TB) (kk : wp E d M (pc + 3) lv (eF E :: st) G Q) : wp E d M pc lv st G Q :=
  wp_go (fun p e R s m args below meth c' H locs ls cells slots Z C hW hS hlo kk => va_gets C.1 C.2.1 C.2.2.2.2.2.2.2.2.1.2.2.2.2.2.2.2.2.2 hS C.2.2.2.2.2.1 (C.2.2.2.2.2.2.1 _ hl) (fun x h => h) hd (kk ls hlo)) kk
theorem wp_wlen (hd : decode M.2.1 pc = .ok (.arraylength, 1)) (kk : wp E d M (pc + 1) lv (vi 17 :: st) G Q) : wp E d M pc lv (vs (eW E) :: st) G Q :=
  wp_go (fun p e R s m args below meth c' H locs ls cells slots Z C hW hS hlo kk => va_tlen C.1 C.2.1 C.2.2.2.2.2.2.2.2.1.2.2.2.2.1 hS rfl hd (kk ls hlo)) kk
theorem wp_wld (hd : decode M.2.1 pc = .ok (.laload, 1)) (hin : vp_in i 17) (kk : wp E d M (pc + 1) lv (vj (wordsF i.toNatClampNeg) :: st) G Q) : wp E d M pc lv (vi i :: vs (eW E) :: st) G Q :=
  wp_go (fun p e R s m args below meth c' H locs ls cells slots Z C hW hS hlo kk => va_tl C.1 C.2.1 C.2.2.2.2.2.2.2.2.1.2.2.2.2.1 hS hin rfl hd (kk ls hlo)) kk
theorem wp_slen (hd : decode M.2.1 pc = .ok (.arraylength, 1)) (kk : wp E d M (pc + 1) lv (vi (nI (eS E).2.1) :: st) G Q) : wp E d M pc lv (vs (eS E).1 :: st) G Q :=
  wp_go (fun p e R s m args below meth c' H locs ls cells slots Z C hW hS hlo kk => va_slen C.1 C.2.1 C.2.2.2.2.2.2.2.2.1.1 (Nat.lt_of_lt_of_le C.2.2.2.2.2.2.2.2.1.2.1 C.2.2.2.2.2.2.2.2.1.2.2.1) (Nat.not_le.mpr C.2.2.2.2.2.2.2.2.1.2.1) hS hd (kk ls hlo)) kk
theorem wp_sld (hd : decode M.2.1 pc = .ok (.iaload, 1)) (hin : vp_in i (eS E).2.1) (kk : wp E d M (pc + 1) lv (vi ((eS E).2.2 i.toNatClampNeg) :: st) G Q) : wp E d M pc lv (vi i :: vs (eS E).1 :: st) G Q :=
  wp_go (fun p e R s m args below meth c' H locs ls cells slots Z C hW hS hlo kk => va_sld C.1 C.2.1 C.2.2.2.2.2.2.2.2.1.1 (Nat.lt_of_lt_of_le C.2.2.2.2.2.2.2.2.1.2.1 C.2.2.2.2.2.2.2.2.1.2.2.1) (Nat.not_le.mpr C.2.2.2.2.2.2.2.2.1.2.1) hS hin hd (kk ls hlo)) kk
/-! texts -/
def txAt (n j : Nat) : Int32 := (txByt.getD n []).getD j 0
def txN (n : Nat) : Nat := txLen.getD n 0
theorem wp_text {n : Nat} {tx : String} (hd : decode M.2.1 pc = .ok (.ldc idx, 2)) (hn : txts[n]? = some (M.1.cls, idx, tx)) (kk : wp E d M (pc + 2) lv (vs (eK E n) :: st) G Q) : wp E d M pc lv st G Q :=
  wp_go (fun p e R s m args below meth c' H locs ls cells slots Z C hW hS hlo kk => va_ldcS C.1 C.2.1 C.2.2.2.2.2.1 (C.2.2.2.2.2.2.2.2.1.2.2.2.2.2.2.1 n _ hn) hd (kk ls hlo)) kk
theorem ldcw_go {p : Program} {l : Launch} {e : Env} {R : Room} {s : State} {m : MethodId} {args : Array Value} {below : List Frame} {meth : Method} {c : Code} {H : Heap} {locs : List Loc} {cells slots : Nat} {Z : State → Prop} {cc : ByteArray} {pc : Nat} {ls : Array Slot} {rest : List Value} (hexec : p.tables.exec = Jvm.exec) (hb : c.code = cc) {own tx : String} {index q : Nat} (hown : s.vm.findClass own = some m.cls) (hZ : vk_R own index tx q s) (hdg : decode cc pc = .ok (.ldc_w index, 3))
    (k : W p l e R s m args below meth c H locs cells slots Z (F0 m (pc + 3) ls (.ref q :: rest))) : W p l e R s m args below meth c H locs cells slots Z (F0 m pc ls rest) := by
  intro T hT X
  obtain ⟨t, a1, b1⟩ := k T hT X
  refine ⟨t, ?_, b1⟩
  obtain ⟨k, cf, i, a', hk, hcf, hcp, -, hr, hev'⟩ := Cond.stringRef_spec hown hZ.1
  cases hZ.2.symm.trans hev'
  obtain ⟨k', hk', he⟩ := X.warmed.alike.2.2 _ _ hk
  have hr' : k'.resolved[index]? = some (some (.string q)) := by
    rcases X.warmed.entry hk hk' index with h | ⟨h, -⟩
    · rw [h]; exact hr
    · rw [hr] at h; cases h
  have hdg' : decode c.code pc = .ok (.ldc_w index, 3) := by rw [hb]; exact hdg
  jvm_step X.here [hexec, hdg', ldc_w.wp_string (e := e) (s := T) (f := F0 m pc ls rest) X.here.top hk' (by rw [he]; exact hcf) hcp hr']
  exact a1
theorem wp_textw {n : Nat} {tx : String} (hd : decode M.2.1 pc = .ok (.ldc_w idx, 3)) (hn : txts[n]? = some (M.1.cls, idx, tx)) (kk : wp E d M (pc + 3) lv (vs (eK E n) :: st) G Q) : wp E d M pc lv st G Q :=
  wp_go (fun p e R s m args below meth c' H locs ls cells slots Z C hW hS hlo kk => ldcw_go C.1 C.2.1 C.2.2.2.2.2.1 (C.2.2.2.2.2.2.2.2.1.2.2.2.2.2.2.1 n _ hn) hd (kk ls hlo)) kk
theorem wp_tval {n : Nat} (hnn : n < 22) (hd : decode M.2.1 pc = .ok (.getfield idx, 3)) (hl : Cond.fieldLink M.1.cls idx "java/lang/String" "value" "[B" ∈ TB) (kk : wp E d M (pc + 3) lv (vs (eV E n) :: st) G Q) : wp E d M pc lv (vs (eK E n) :: st) G Q :=
  wp_go (fun p e R s m args below meth c' H locs ls cells slots Z C hW hS hlo kk => vk_getf C.1 C.2.1 (C.2.2.2.2.2.2.2.2.1.2.2.2.2.2.2.2.1.1 n hnn).2.2.1 hS C.2.2.2.2.2.1 (C.2.2.2.2.2.2.1 _ hl) (fun x h => h) hd (kk ls hlo)) kk
theorem wp_tcod {n : Nat} (hnn : n < 22) (hd : decode M.2.1 pc = .ok (.getfield idx, 3)) (hl : Cond.fieldLink M.1.cls idx "java/lang/String" "coder" "B" ∈ TB) (kk : wp E d M (pc + 3) lv (vi 0 :: st) G Q) : wp E d M pc lv (vs (eK E n) :: st) G Q :=
  wp_go (fun p e R s m args below meth c' H locs ls cells slots Z C hW hS hlo kk => vk_getf C.1 C.2.1 (C.2.2.2.2.2.2.2.2.1.2.2.2.2.2.2.2.1.1 n hnn).2.1 hS C.2.2.2.2.2.1 (C.2.2.2.2.2.2.1 _ hl) (fun x h => h) hd (kk ls hlo)) kk
theorem wp_tlen {n : Nat} (hnn : n < 22) (hd : decode M.2.1 pc = .ok (.arraylength, 1)) (kk : wp E d M (pc + 1) lv (vi (nI (txN n)) :: st) G Q) : wp E d M pc lv (vs (eV E n) :: st) G Q :=
  wp_go (fun p e R s m args below meth c' H locs ls cells slots Z C hW hS hlo kk => va_tlen C.1 C.2.1 (C.2.2.2.2.2.2.2.2.1.2.2.2.2.2.2.2.1.1 n hnn).2.2.2 hS rfl hd (kk ls hlo)) kk
theorem wp_tld {n : Nat} (hnn : n < 22) (hd : decode M.2.1 pc = .ok (.baload, 1)) (hin : vp_in i (txN n)) (kk : wp E d M (pc + 1) lv (vi (txAt n i.toNatClampNeg) :: st) G Q) : wp E d M pc lv (vi i :: vs (eV E n) :: st) G Q :=
  wp_go (fun p e R s m args below meth c' H locs ls cells slots Z C hW hS hlo kk => va_tb C.1 C.2.1 (C.2.2.2.2.2.2.2.2.1.2.2.2.2.2.2.2.1.1 n hnn).2.2.2 hS hin rfl hd (kk ls hlo)) kk
end
