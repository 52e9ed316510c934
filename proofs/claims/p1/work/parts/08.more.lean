/-! rules: rows of problems, statics, texts, the script, copies -/
section
variable {E : EE} {d : Nat} {M : MD} {pc idx : Nat} {lv : List (Option AV)} {st : List AV} {G : AH} {Q : Option AV → AH → Prop} {a c k : Nat} {i : Int32}
theorem wp_anew (hd : decode M.2.1 pc = .ok (.anewarray idx, 3)) (hcl : Cond.classLink M.1.cls idx "PlanningHouse$Problem" ∈ TB) (hn : ¬ i < 0) (hN : i.toNatClampNeg ≤ 60000000) (kk : wp E d M (pc + 3) lv (vr (gT G) :: st) (nw G 17 i.toNatClampNeg i.toNatClampNeg) Q) : wp E d M pc lv (vi i :: st) G Q := by
  refine wp_mv (by show _ ≤ gT G + 1; omega) (by show _ ≤ gU G + _; omega) (fun p e R s m args below meth c' H locs ls cells slots Z C hW hS hl hrc hrs kk => ?_) kk
  have eT : gT (nw G 17 i.toNatClampNeg i.toNatClampNeg) - gT G = 1 := by show gT G + 1 - gT G = 1; omega
  have eU : gU (nw G 17 i.toNatClampNeg i.toNatClampNeg) - gU G = i.toNatClampNeg := by show gU G + _ - gU G = _; omega
  rw [eT, eU] at kk
  rw [eT] at hrc
  rw [eU] at hrs
  obtain ⟨hx, hb, hml, hrt, hlk, hown, hts, hK, hR, -⟩ := C
  refine W.anew hx hb hown (hts _ hcl) (va_AO.use hR.2.2.2.2.2.2.2.2.1) (g := F0 m pc ls (.int i :: st.map cv)) rfl hd rfl hn (by omega) hrc hrs fun cA kA comp f1 f2 f3 f4 => ?_
  generalize hH1 : H.push ({ cls := cA, slots := Array.replicate i.toNatClampNeg .null, vm := .none } : Cell) = H1
  have z1 : H1.size = gT G + 1 := by rw [← hH1, Array.size_push, hW.1]
  have e1 : H1[gT G]? = some (arrV cA i.toNatClampNeg (fun _ => .null)) := by rw [← hH1, ← hW.1, Array.getElem?_push_size, ← arrV_new]
  have o1 : ∀ q : Nat, q < gT G → H1[q]? = H[q]? := fun q hq => by rw [← hH1, Array.getElem?_push, if_neg (by rw [hW.1]; omega)]
  have hcA : cA = eC E 17 := by
    obtain ⟨kA', comp', k1, k2, k3, k4⟩ := (hK.2 4 _ rfl).2
    exact Option.some.inj (f1.symm.trans k4)
  subst hcA
  have hne : gT G ≠ 0 := by have := hR.pos; have := hR.2.2.1; have := hS.1; rw [hW.1] at this; omega
  have q := kk H1 locs (hW.new z1 o1 ?_) (vaS_new hS hW z1 o1)
  · have e : rv (gT G) = .ref (gT G) := rv_ne hne
    simp only [List.map_cons, cv, e] at q
    rw [hW.1]
    exact q
  · obtain ⟨a1, a2, a3, a4, a5⟩ := nw_at G 17 i.toNatClampNeg i.toNatClampNeg
    unfold cellOk
    rw [a1, a2, a3, a4, a5, if_neg (by omega), e1]
    rfl
theorem wp_slen (hd : decode M.2.1 pc = .ok (.arraylength, 1)) (kk : wp E d M (pc + 1) lv (vi (nI (eS E).2.1) :: st) G Q) : wp E d M pc lv (vs (eS E).1 :: st) G Q :=
  wp_go (fun p e R s m args below meth c' H locs ls cells slots Z C hW hS hlo kk => va_slen C.1 C.2.1 C.2.2.2.2.2.2.2.2.1.1 (Nat.lt_of_lt_of_le C.2.2.2.2.2.2.2.2.1.2.1 C.2.2.2.2.2.2.2.2.1.2.2.1) (Nat.not_le.mpr C.2.2.2.2.2.2.2.2.1.2.1) hS hd (kk ls hlo)) kk
theorem wp_sld (hd : decode M.2.1 pc = .ok (.iaload, 1)) (hin : vp_in i (eS E).2.1) (kk : wp E d M (pc + 1) lv (vi ((eS E).2.2 i.toNatClampNeg) :: st) G Q) : wp E d M pc lv (vi i :: vs (eS E).1 :: st) G Q :=
  wp_go (fun p e R s m args below meth c' H locs ls cells slots Z C hW hS hlo kk => va_sld C.1 C.2.1 C.2.2.2.2.2.2.2.2.1.1 (Nat.lt_of_lt_of_le C.2.2.2.2.2.2.2.2.1.2.1 C.2.2.2.2.2.2.2.2.1.2.2.1) (Nat.not_le.mpr C.2.2.2.2.2.2.2.2.1.2.1) hS hin hd (kk ls hlo)) kk
end
