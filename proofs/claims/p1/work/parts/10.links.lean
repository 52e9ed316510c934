/-! typed ends; links of the pools (by program) -/
def qI (K : Int32 → AH → Prop) : Option AV → AH → Prop := fun r G => ∃ x : Int32, r = some (vi x) ∧ K x G
def qJ (K : Int64 → AH → Prop) : Option AV → AH → Prop := fun r G => ∃ x : Int64, r = some (vj x) ∧ K x G
def qR (K : Nat → AH → Prop) : Option AV → AH → Prop := fun r G => ∃ x : Nat, r = some (vr x) ∧ K x G
def qV (K : AH → Prop) : Option AV → AH → Prop := fun r G => r = none ∧ K G
abbrev wpI (E : EE) (d : Nat) (N : MD) (as : List AV) (G : AH) (K : Int32 → AH → Prop) : Prop := wpM E d N as G (qI K)
abbrev wpJ (E : EE) (d : Nat) (N : MD) (as : List AV) (G : AH) (K : Int64 → AH → Prop) : Prop := wpM E d N as G (qJ K)
abbrev wpR (E : EE) (d : Nat) (N : MD) (as : List AV) (G : AH) (K : Nat → AH → Prop) : Prop := wpM E d N as G (qR K)
abbrev wpV (E : EE) (d : Nat) (N : MD) (as : List AV) (G : AH) (K : AH → Prop) : Prop := wpM E d N as G (qV K)
theorem wpI.mono {E : EE} {d : Nat} {N : MD} {as : List AV} {G : AH} {K K' : Int32 → AH → Prop} (h : wpI E d N as G K) (hk : ∀ x G', K x G' → K' x G') : wpI E d N as G K' := wpM.mono h (fun r G' ⟨x, e, q⟩ => ⟨x, e, hk x G' q⟩)
theorem wpJ.mono {E : EE} {d : Nat} {N : MD} {as : List AV} {G : AH} {K K' : Int64 → AH → Prop} (h : wpJ E d N as G K) (hk : ∀ x G', K x G' → K' x G') : wpJ E d N as G K' := wpM.mono h (fun r G' ⟨x, e, q⟩ => ⟨x, e, hk x G' q⟩)
theorem wpR.mono {E : EE} {d : Nat} {N : MD} {as : List AV} {G : AH} {K K' : Nat → AH → Prop} (h : wpR E d N as G K) (hk : ∀ x G', K x G' → K' x G') : wpR E d N as G K' := wpM.mono h (fun r G' ⟨x, e, q⟩ => ⟨x, e, hk x G' q⟩)
theorem wpV.mono {E : EE} {d : Nat} {N : MD} {as : List AV} {G : AH} {K K' : AH → Prop} (h : wpV E d N as G K) (hk : ∀ G', K G' → K' G') : wpV E d N as G K' := wpM.mono h (fun r G' ⟨e, q⟩ => ⟨e, hk G' q⟩)
theorem isO_nw {E : EE} {G : AH} {a c kd n sz : Nat} (h : isO E G a c) : isO E (nw G kd n sz) a c := ⟨h.1, Nat.lt_succ_of_lt h.2.1, by
  have e : gK (nw G kd n sz) a = gK G a := if_neg (Nat.ne_of_lt h.2.1)
  rw [e]; exact h.2.2⟩
theorem base_nw {E : EE} {G : AH} {kd n sz : Nat} (h : eB E ≤ gT G) : eB E ≤ gT (nw G kd n sz) := Nat.le_succ_of_le h
theorem wp_nm {E : EE} {d : Nat} {M : MD} {pc : Nat} {lv : List (Option AV)} {st : List AV} {g : AH} {Q : Option AV → AH → Prop} (k : ∀ G1 : AH, G1 = g → wp E d M pc lv st G1 Q) : wp E d M pc lv st g Q := k g rfl
theorem isO_sI {E : EE} {G G1 : AH} {x c a k : Nat} {v : Int32} (e : G1 = sI G a k v) (h : isO E G x c) : isO E G1 x c := by subst e; exact h
theorem isO_sJ {E : EE} {G G1 : AH} {x c a k : Nat} {v : Int64} (e : G1 = sJ G a k v) (h : isO E G x c) : isO E G1 x c := by subst e; exact h
theorem isO_sR {E : EE} {G G1 : AH} {x c a k : Nat} {v : Nat} (e : G1 = sR G a k v) (h : isO E G x c) : isO E G1 x c := by subst e; exact h
theorem isO_cpI {E : EE} {G G1 : AH} {x c a b k l n : Nat} (e : G1 = cpI G a b k l n) (h : isO E G x c) : isO E G1 x c := by subst e; exact h
theorem isO_cpJ {E : EE} {G G1 : AH} {x c a b k l n : Nat} (e : G1 = cpJ G a b k l n) (h : isO E G x c) : isO E G1 x c := by subst e; exact h
theorem isO_nwE {E : EE} {G G1 : AH} {x c kd n sz : Nat} (e : G1 = nw G kd n sz) (h : isO E G x c) : isO E G1 x c := by subst e; exact isO_nw h
theorem base_sI {E : EE} {G G1 : AH} {a k : Nat} {v : Int32} (e : G1 = sI G a k v) (h : eB E ≤ gT G) : eB E ≤ gT G1 := by subst e; exact h
theorem base_sJ {E : EE} {G G1 : AH} {a k : Nat} {v : Int64} (e : G1 = sJ G a k v) (h : eB E ≤ gT G) : eB E ≤ gT G1 := by subst e; exact h
theorem base_sR {E : EE} {G G1 : AH} {a k : Nat} {v : Nat} (e : G1 = sR G a k v) (h : eB E ≤ gT G) : eB E ≤ gT G1 := by subst e; exact h
theorem base_nwE {E : EE} {G G1 : AH} {kd n sz : Nat} (e : G1 = nw G kd n sz) (h : eB E ≤ gT G) : eB E ≤ gT G1 := by subst e; exact base_nw h
theorem isO_new {E : EE} {G : AH} {kd n sz : Nat} (h : eB E ≤ gT G) : isO E (nw G kd n sz) (gT G) kd := ⟨h, Nat.lt_succ_self _, if_pos rfl⟩
theorem isO_newE {E : EE} {G G1 : AH} {kd n sz : Nat} (e : G1 = nw G kd n sz) (h : eB E ≤ gT G) : isO E G1 (gT G) kd := by subst e; exact isO_new h
theorem inT1 {w : Cond} (h : w ∈ tables_1_1) (hg : goodWord w = true) : w ∈ TB := inTB (in_lw (List.mem_append_left _ h)) hg
theorem inT2 {w : Cond} (h : w ∈ tables_1_2) (hg : goodWord w = true) : w ∈ TB := inTB (in_lw (List.mem_append_right _ (List.mem_append_left _ h))) hg
theorem inT3 {w : Cond} (h : w ∈ tables_1_3) (hg : goodWord w = true) : w ∈ TB := inTB (in_lw (List.mem_append_right _ (List.mem_append_right _ (List.mem_append_left _ h)))) hg
theorem inT4 {w : Cond} (h : w ∈ tables_1_4) (hg : goodWord w = true) : w ∈ TB := inTB (in_lw (List.mem_append_right _ (List.mem_append_right _ (List.mem_append_right _ (List.mem_append_left _ h))))) hg
theorem inT5 {w : Cond} (h : w ∈ tables_1_5) (hg : goodWord w = true) : w ∈ TB := inTB (in_lw (List.mem_append_right _ (List.mem_append_right _ (List.mem_append_right _ (List.mem_append_right _ (List.mem_append_left _ h)))))) hg
theorem inT6 {w : Cond} (h : w ∈ tables_1_6) (hg : goodWord w = true) : w ∈ TB := inTB (in_lw (List.mem_append_right _ (List.mem_append_right _ (List.mem_append_right _ (List.mem_append_right _ (List.mem_append_right _ (List.mem_append_left _ h))))))) hg
theorem inT7 {w : Cond} (h : w ∈ tables_1_7) (hg : goodWord w = true) : w ∈ TB := inTB (in_lw (List.mem_append_right _ (List.mem_append_right _ (List.mem_append_right _ (List.mem_append_right _ (List.mem_append_right _ (List.mem_append_right _ (List.mem_append_left _ h)))))))) hg
theorem inT8 {w : Cond} (h : w ∈ tables_1_8) (hg : goodWord w = true) : w ∈ TB := inTB (in_lw (List.mem_append_right _ (List.mem_append_right _ (List.mem_append_right _ (List.mem_append_right _ (List.mem_append_right _ (List.mem_append_right _ (List.mem_append_right _ (List.mem_append_left _ h))))))))) hg
theorem inT9 {w : Cond} (h : w ∈ tables_1_9) (hg : goodWord w = true) : w ∈ TB := inTB (in_lw (List.mem_append_right _ (List.mem_append_right _ (List.mem_append_right _ (List.mem_append_right _ (List.mem_append_right _ (List.mem_append_right _ (List.mem_append_right _ (List.mem_append_right _ (List.mem_append_left _ h)))))))))) hg
theorem inT10 {w : Cond} (h : w ∈ tables_1_10) (hg : goodWord w = true) : w ∈ TB := inTB (in_lw (List.mem_append_right _ (List.mem_append_right _ (List.mem_append_right _ (List.mem_append_right _ (List.mem_append_right _ (List.mem_append_right _ (List.mem_append_right _ (List.mem_append_right _ (List.mem_append_right _ (List.mem_append_left _ h))))))))))) hg
theorem inT11 {w : Cond} (h : w ∈ tables_1_11) (hg : goodWord w = true) : w ∈ TB := inTB (in_lw (List.mem_append_right _ (List.mem_append_right _ (List.mem_append_right _ (List.mem_append_right _ (List.mem_append_right _ (List.mem_append_right _ (List.mem_append_right _ (List.mem_append_right _ (List.mem_append_right _ (List.mem_append_right _ (List.mem_append_left _ h)))))))))))) hg
theorem inT12 {w : Cond} (h : w ∈ tables_1_12) (hg : goodWord w = true) : w ∈ TB := inTB (in_lw (List.mem_append_right _ (List.mem_append_right _ (List.mem_append_right _ (List.mem_append_right _ (List.mem_append_right _ (List.mem_append_right _ (List.mem_append_right _ (List.mem_append_right _ (List.mem_append_right _ (List.mem_append_right _ (List.mem_append_right _ (h))))))))))))) hg
theorem inP {w : Cond} (h : w ∈ k2_sels lw_privs) (hg : goodWord w = true) : w ∈ TB := inTB (List.mem_append_left _ h) hg
theorem ac_byte : Cond.arrayClass .byte ∈ TB := (inT1 (List.mem_of_getElem? (i := 48) rfl) rfl)
theorem ac_int : Cond.arrayClass .int ∈ TB := (inT1 (List.mem_of_getElem? (i := 106) rfl) rfl)
theorem ac_long : Cond.arrayClass .long ∈ TB := (inT1 (List.mem_of_getElem? (i := 107) rfl) rfl)
theorem ac_boolean : Cond.arrayClass .boolean ∈ TB := (inT1 (List.mem_of_getElem? (i := 176) rfl) rfl)
theorem it_0 : Cond.instantiable cn_0 2 ∈ TB := (inT1 (List.mem_of_getElem? (i := 32) rfl) rfl)
theorem ii_0 : Cond.initialized cn_0 ∈ TB := (inT1 (List.mem_of_getElem? (i := 2) rfl) rfl)
theorem it_1 : Cond.instantiable cn_1 6 ∈ TB := (inT1 (List.mem_of_getElem? (i := 151) rfl) rfl)
theorem ii_1 : Cond.initialized cn_1 ∈ TB := (inT1 (List.mem_of_getElem? (i := 5) rfl) rfl)
theorem it_2 : Cond.instantiable cn_2 15 ∈ TB := (inT2 (List.mem_of_getElem? (i := 189) rfl) rfl)
theorem ii_2 : Cond.initialized cn_2 ∈ TB := (inT1 (List.mem_of_getElem? (i := 15) rfl) rfl)
theorem it_3 : Cond.instantiable cn_3 19 ∈ TB := (inT2 (List.mem_of_getElem? (i := 141) rfl) rfl)
theorem ii_3 : Cond.initialized cn_3 ∈ TB := (inT1 (List.mem_of_getElem? (i := 13) rfl) rfl)
theorem it_4 : Cond.instantiable cn_4 3 ∈ TB := (inT1 (List.mem_of_getElem? (i := 231) rfl) rfl)
theorem ii_4 : Cond.initialized cn_4 ∈ TB := (inT1 (List.mem_of_getElem? (i := 7) rfl) rfl)
theorem it_5 : Cond.instantiable cn_5 11 ∈ TB := (inT1 (List.mem_of_getElem? (i := 109) rfl) rfl)
theorem ii_5 : Cond.initialized cn_5 ∈ TB := (inT1 (List.mem_of_getElem? (i := 4) rfl) rfl)
theorem it_6 : Cond.instantiable cn_6 14 ∈ TB := (inT1 (List.mem_of_getElem? (i := 178) rfl) rfl)
theorem ii_6 : Cond.initialized cn_6 ∈ TB := (inT1 (List.mem_of_getElem? (i := 6) rfl) rfl)
theorem it_7 : Cond.instantiable cn_7 5 ∈ TB := (inT2 (List.mem_of_getElem? (i := 149) rfl) rfl)
theorem ii_7 : Cond.initialized cn_7 ∈ TB := (inT1 (List.mem_of_getElem? (i := 14) rfl) rfl)
theorem it_8 : Cond.instantiable cn_8 5 ∈ TB := (inT2 (List.mem_of_getElem? (i := 7) rfl) rfl)
theorem ii_8 : Cond.initialized cn_8 ∈ TB := (inT1 (List.mem_of_getElem? (i := 8) rfl) rfl)
theorem it_9 : Cond.instantiable cn_9 8 ∈ TB := (inT3 (List.mem_of_getElem? (i := 16) rfl) rfl)
theorem ii_9 : Cond.initialized cn_9 ∈ TB := (inT1 (List.mem_of_getElem? (i := 16) rfl) rfl)
theorem it_10 : Cond.instantiable cn_10 12 ∈ TB := (inT1 (List.mem_of_getElem? (i := 50) rfl) rfl)
theorem ii_10 : Cond.initialized cn_10 ∈ TB := (inT1 (List.mem_of_getElem? (i := 3) rfl) rfl)
theorem it_11 : Cond.instantiable cn_11 12 ∈ TB := (inT1 (List.mem_of_getElem? (i := 24) rfl) rfl)
theorem ii_11 : Cond.initialized cn_11 ∈ TB := (inT1 (List.mem_of_getElem? (i := 1) rfl) rfl)
theorem it_12 : Cond.instantiable cn_12 95 ∈ TB := (inT8 (List.mem_of_getElem? (i := 101) rfl) rfl)
theorem ii_12 : Cond.initialized cn_12 ∈ TB := (inT1 (List.mem_of_getElem? (i := 9) rfl) rfl)
theorem ii_sys : Cond.initialized "java/lang/System" ∈ TB := (inT1 (List.mem_of_getElem? (i := 12) rfl) rfl)
theorem nat_cpy : Cond.native arraycopyName ∈ TB := (inT2 (List.mem_of_getElem? (i := 104) rfl) rfl)
theorem st_cpy : Cond.static arraycopyName ∈ TB := (inT2 (List.mem_of_getElem? (i := 103) rfl) rfl)
theorem ii_math : Cond.initialized "java/lang/Math" ∈ TB := (inT1 (List.mem_of_getElem? (i := 10) rfl) rfl)
theorem ms_imax : Cond.static Lib.Math.max.name ∈ TB := (inT2 (List.mem_of_getElem? (i := 87) rfl) rfl)
theorem mc_imax : Cond.code Lib.Math.max.name Lib.Math.max.code 2 (some .int) ∈ TB := (inT2 (List.mem_of_getElem? (i := 88) rfl) rfl)
theorem ms_imin : Cond.static Lib.Math.min.name ∈ TB := (inT2 (List.mem_of_getElem? (i := 100) rfl) rfl)
theorem mc_imin : Cond.code Lib.Math.min.name Lib.Math.min.code 2 (some .int) ∈ TB := (inT2 (List.mem_of_getElem? (i := 101) rfl) rfl)
theorem in_obj : Cond.instanceMethod Lib.objectInit ∈ TB := (inT1 (List.mem_of_getElem? (i := 29) rfl) rfl)
theorem mc_obj : Cond.code Lib.objectInit ⟨#[0xb1]⟩ 1 none ∈ TB := (inT1 (List.mem_of_getElem? (i := 30) rfl) rfl)
theorem ci_X11_86 : Cond.constant "PlanningHouse" 86 (-100000) ∈ TB := (inT2 (List.mem_of_getElem? (i := 73) rfl) rfl)
theorem ci_X12_23 : Cond.constant "PlanningHouseModel" 23 100000 ∈ TB := (inT8 (List.mem_of_getElem? (i := 106) rfl) rfl)
theorem ci_X12_150 : Cond.constant "PlanningHouseModel" 150 480000 ∈ TB := (inT8 (List.mem_of_getElem? (i := 107) rfl) rfl)
theorem ci_X12_154 : Cond.constant "PlanningHouseModel" 154 120000 ∈ TB := (inT8 (List.mem_of_getElem? (i := 108) rfl) rfl)
theorem ci_X12_158 : Cond.constant "PlanningHouseModel" 158 60000 ∈ TB := (inT8 (List.mem_of_getElem? (i := 109) rfl) rfl)
theorem ci_X12_174 : Cond.constant "PlanningHouseModel" 174 40000 ∈ TB := (inT8 (List.mem_of_getElem? (i := 110) rfl) rfl)
theorem ci_X12_220 : Cond.constant "PlanningHouseModel" 220 (-100000) ∈ TB := (inT9 (List.mem_of_getElem? (i := 161) rfl) rfl)
theorem cj_X11_215 : Cond.constantLong "PlanningHouse" 215 (-9223372036854775808) ∈ TB := (inT5 (List.mem_of_getElem? (i := 91) rfl) rfl)
theorem cj_X0_40 : Cond.constantLong "PlanningHouse$Bytes" 40 (-4417276706812531889) ∈ TB := (inT8 (List.mem_of_getElem? (i := 25) rfl) rfl)
theorem cj_L_13 : Cond.constantLong "PlanningHouseLaw" 13 4294967295 ∈ TB := (inT12 (List.mem_of_getElem? (i := 188) rfl) rfl)
theorem cj_X12_442 : Cond.constantLong "PlanningHouseModel" 442 20000000 ∈ TB := (inT10 (List.mem_of_getElem? (i := 130) rfl) rfl)
theorem cj_X12_466 : Cond.constantLong "PlanningHouseModel" 466 (-9223372036854775808) ∈ TB := (inT10 (List.mem_of_getElem? (i := 171) rfl) rfl)
theorem cj_X12_711 : Cond.constantLong "PlanningHouseModel" 711 (-4417276706812531889) ∈ TB := (inT12 (List.mem_of_getElem? (i := 147) rfl) rfl)
theorem cj_X12_719 : Cond.constantLong "PlanningHouseModel" 719 211 ∈ TB := (inT12 (List.mem_of_getElem? (i := 139) rfl) rfl)
theorem cx_X11_9 : Cond.classLink "PlanningHouse" 9 "PlanningHouse$Bytes" ∈ TB := (inT1 (List.mem_of_getElem? (i := 31) rfl) rfl)
theorem cx_X11_18 : Cond.classLink "PlanningHouse" 18 "PlanningHouse$Tokens" ∈ TB := (inT1 (List.mem_of_getElem? (i := 49) rfl) rfl)
theorem cx_X11_25 : Cond.classLink "PlanningHouse" 25 "PlanningHouse$Reader" ∈ TB := (inT1 (List.mem_of_getElem? (i := 108) rfl) rfl)
theorem cx_X11_34 : Cond.classLink "PlanningHouse" 34 "PlanningHouse$Problem" ∈ TB := (inT1 (List.mem_of_getElem? (i := 148) rfl) rfl)
theorem cx_X11_40 : Cond.classLink "PlanningHouse" 40 "PlanningHouse$Hard" ∈ TB := (inT1 (List.mem_of_getElem? (i := 150) rfl) rfl)
theorem cx_X11_47 : Cond.classLink "PlanningHouse" 47 "PlanningHouse$Search" ∈ TB := (inT1 (List.mem_of_getElem? (i := 177) rfl) rfl)
theorem cx_X11_54 : Cond.classLink "PlanningHouse" 54 "PlanningHouse$Proof" ∈ TB := (inT1 (List.mem_of_getElem? (i := 230) rfl) rfl)
theorem cx_X11_61 : Cond.classLink "PlanningHouse" 61 "PlanningHouse$Store" ∈ TB := (inT2 (List.mem_of_getElem? (i := 6) rfl) rfl)
theorem cx_X3_15 : Cond.classLink "PlanningHouse$Problem" 15 "PlanningHouse$Bytes" ∈ TB := (inT2 (List.mem_of_getElem? (i := 146) rfl) rfl)
theorem cx_X3_30 : Cond.classLink "PlanningHouse$Problem" 30 "PlanningHouse$Space" ∈ TB := (inT2 (List.mem_of_getElem? (i := 148) rfl) rfl)
theorem cx_X3_37 : Cond.classLink "PlanningHouse$Problem" 37 "PlanningHouse$Judge" ∈ TB := (inT2 (List.mem_of_getElem? (i := 188) rfl) rfl)
theorem cx_X3_44 : Cond.classLink "PlanningHouse$Problem" 44 "PlanningHouse$Table" ∈ TB := (inT3 (List.mem_of_getElem? (i := 15) rfl) rfl)
theorem cx_X8_11 : Cond.classLink "PlanningHouse$Store" 11 "PlanningHouse$Bytes" ∈ TB := (inT2 (List.mem_of_getElem? (i := 12) rfl) rfl)
theorem cx_L_7 : Cond.classLink "PlanningHouseLaw" 7 "PlanningHouse" ∈ TB := (inT1 (List.mem_of_getElem? (i := 23) rfl) rfl)
theorem cx_L_10 : Cond.classLink "PlanningHouseLaw" 10 "PlanningHouseModel" ∈ TB := (inT8 (List.mem_of_getElem? (i := 100) rfl) rfl)
theorem fl_X11_12 : FL "PlanningHouse" 12 11 0 (cn_11, ct_11, 12) := ⟨rfl, by decide, (inT2 (List.mem_of_getElem? (i := 32) rfl) rfl)⟩
theorem fl_X11_21 : FL "PlanningHouse" 21 11 1 (cn_11, ct_11, 12) := ⟨rfl, by decide, (inT2 (List.mem_of_getElem? (i := 33) rfl) rfl)⟩
theorem fl_X11_30 : FL "PlanningHouse" 30 11 2 (cn_11, ct_11, 12) := ⟨rfl, by decide, (inT2 (List.mem_of_getElem? (i := 34) rfl) rfl)⟩
theorem fl_X11_36 : FL "PlanningHouse" 36 11 3 (cn_11, ct_11, 12) := ⟨rfl, by decide, (inT2 (List.mem_of_getElem? (i := 35) rfl) rfl)⟩
theorem fl_X11_43 : FL "PlanningHouse" 43 11 4 (cn_11, ct_11, 12) := ⟨rfl, by decide, (inT2 (List.mem_of_getElem? (i := 36) rfl) rfl)⟩
theorem fl_X11_50 : FL "PlanningHouse" 50 11 5 (cn_11, ct_11, 12) := ⟨rfl, by decide, (inT2 (List.mem_of_getElem? (i := 37) rfl) rfl)⟩
theorem fl_X11_57 : FL "PlanningHouse" 57 11 6 (cn_11, ct_11, 12) := ⟨rfl, by decide, (inT2 (List.mem_of_getElem? (i := 38) rfl) rfl)⟩
theorem fl_X11_64 : FL "PlanningHouse" 64 11 7 (cn_11, ct_11, 12) := ⟨rfl, by decide, (inT2 (List.mem_of_getElem? (i := 39) rfl) rfl)⟩
theorem fl_X11_68 : FL "PlanningHouse" 68 11 8 (cn_11, ct_11, 12) := ⟨rfl, by decide, (inT2 (List.mem_of_getElem? (i := 40) rfl) rfl)⟩
theorem fl_X11_72 : FL "PlanningHouse" 72 11 9 (cn_11, ct_11, 12) := ⟨rfl, by decide, (inT2 (List.mem_of_getElem? (i := 41) rfl) rfl)⟩
theorem fl_X11_76 : FL "PlanningHouse" 76 11 10 (cn_11, ct_11, 12) := ⟨rfl, by decide, (inT2 (List.mem_of_getElem? (i := 42) rfl) rfl)⟩
theorem fl_X11_80 : FL "PlanningHouse" 80 11 11 (cn_11, ct_11, 12) := ⟨rfl, by decide, (inT2 (List.mem_of_getElem? (i := 43) rfl) rfl)⟩
theorem fl_X11_83 : FL "PlanningHouse" 83 0 1 (cn_0, ct_0, 2) := ⟨rfl, by decide, (inT1 (List.mem_of_getElem? (i := 39) rfl) rfl)⟩
theorem fl_X11_111 : FL "PlanningHouse" 111 3 1 (cn_3, ct_3, 19) := ⟨rfl, by decide, (inT3 (List.mem_of_getElem? (i := 59) rfl) rfl)⟩
theorem fl_X11_122 : FL "PlanningHouse" 122 3 0 (cn_3, ct_3, 19) := ⟨rfl, by decide, (inT3 (List.mem_of_getElem? (i := 55) rfl) rfl)⟩
theorem fl_X11_126 : FL "PlanningHouse" 126 10 10 (cn_10, ct_10, 12) := ⟨rfl, by decide, (inT1 (List.mem_of_getElem? (i := 78) rfl) rfl)⟩
theorem fl_X11_129 : FL "PlanningHouse" 129 10 11 (cn_10, ct_10, 12) := ⟨rfl, by decide, (inT1 (List.mem_of_getElem? (i := 80) rfl) rfl)⟩
theorem fl_X11_135 : FL "PlanningHouse" 135 3 3 (cn_3, ct_3, 19) := ⟨rfl, by decide, (inT3 (List.mem_of_getElem? (i := 66) rfl) rfl)⟩
theorem fl_X11_139 : FL "PlanningHouse" 139 3 4 (cn_3, ct_3, 19) := ⟨rfl, by decide, (inT3 (List.mem_of_getElem? (i := 74) rfl) rfl)⟩
theorem fl_X11_143 : FL "PlanningHouse" 143 7 1 (cn_7, ct_7, 5) := ⟨rfl, by decide, (inT2 (List.mem_of_getElem? (i := 167) rfl) rfl)⟩
theorem fl_X11_148 : FL "PlanningHouse" 148 3 9 (cn_3, ct_3, 19) := ⟨rfl, by decide, (inT3 (List.mem_of_getElem? (i := 105) rfl) rfl)⟩
theorem fl_X11_154 : FL "PlanningHouse" 154 3 5 (cn_3, ct_3, 19) := ⟨rfl, by decide, (inT3 (List.mem_of_getElem? (i := 80) rfl) rfl)⟩
theorem fl_X11_158 : FL "PlanningHouse" 158 2 0 (cn_2, ct_2, 15) := ⟨rfl, by decide, (inT2 (List.mem_of_getElem? (i := 199) rfl) rfl)⟩
theorem fl_X11_168 : FL "PlanningHouse" 168 3 11 (cn_3, ct_3, 19) := ⟨rfl, by decide, (inT3 (List.mem_of_getElem? (i := 110) rfl) rfl)⟩
theorem fl_X11_175 : FL "PlanningHouse" 175 10 6 (cn_10, ct_10, 12) := ⟨rfl, by decide, (inT1 (List.mem_of_getElem? (i := 66) rfl) rfl)⟩
theorem fl_X11_178 : FL "PlanningHouse" 178 10 8 (cn_10, ct_10, 12) := ⟨rfl, by decide, (inT1 (List.mem_of_getElem? (i := 74) rfl) rfl)⟩
theorem fl_X11_181 : FL "PlanningHouse" 181 10 9 (cn_10, ct_10, 12) := ⟨rfl, by decide, (inT1 (List.mem_of_getElem? (i := 76) rfl) rfl)⟩
theorem fl_X11_184 : FL "PlanningHouse" 184 10 7 (cn_10, ct_10, 12) := ⟨rfl, by decide, (inT1 (List.mem_of_getElem? (i := 70) rfl) rfl)⟩
theorem fl_X11_191 : FL "PlanningHouse" 191 3 2 (cn_3, ct_3, 19) := ⟨rfl, by decide, (inT3 (List.mem_of_getElem? (i := 62) rfl) rfl)⟩
theorem fl_X11_212 : FL "PlanningHouse" 212 7 2 (cn_7, ct_7, 5) := ⟨rfl, by decide, (inT2 (List.mem_of_getElem? (i := 173) rfl) rfl)⟩
theorem fl_X11_217 : FL "PlanningHouse" 217 7 3 (cn_7, ct_7, 5) := ⟨rfl, by decide, (inT2 (List.mem_of_getElem? (i := 175) rfl) rfl)⟩
theorem fl_X11_223 : FL "PlanningHouse" 223 2 4 (cn_2, ct_2, 15) := ⟨rfl, by decide, (inT2 (List.mem_of_getElem? (i := 208) rfl) rfl)⟩
theorem fl_X11_226 : FL "PlanningHouse" 226 2 5 (cn_2, ct_2, 15) := ⟨rfl, by decide, (inT2 (List.mem_of_getElem? (i := 212) rfl) rfl)⟩
theorem fl_X11_229 : FL "PlanningHouse" 229 2 6 (cn_2, ct_2, 15) := ⟨rfl, by decide, (inT2 (List.mem_of_getElem? (i := 215) rfl) rfl)⟩
theorem fl_X11_232 : FL "PlanningHouse" 232 3 6 (cn_3, ct_3, 19) := ⟨rfl, by decide, (inT3 (List.mem_of_getElem? (i := 85) rfl) rfl)⟩
theorem fl_X11_242 : FL "PlanningHouse" 242 9 1 (cn_9, ct_9, 8) := ⟨rfl, by decide, (inT3 (List.mem_of_getElem? (i := 25) rfl) rfl)⟩
theorem fl_X11_248 : FL "PlanningHouse" 248 3 7 (cn_3, ct_3, 19) := ⟨rfl, by decide, (inT3 (List.mem_of_getElem? (i := 91) rfl) rfl)⟩
theorem fl_X11_251 : FL "PlanningHouse" 251 9 0 (cn_9, ct_9, 8) := ⟨rfl, by decide, (inT3 (List.mem_of_getElem? (i := 23) rfl) rfl)⟩
theorem fl_X11_254 : FL "PlanningHouse" 254 3 8 (cn_3, ct_3, 19) := ⟨rfl, by decide, (inT3 (List.mem_of_getElem? (i := 98) rfl) rfl)⟩
theorem fl_X11_268 : FL "PlanningHouse" 268 3 10 (cn_3, ct_3, 19) := ⟨rfl, by decide, (inT3 (List.mem_of_getElem? (i := 108) rfl) rfl)⟩
theorem fl_X11_282 : FL "PlanningHouse" 282 3 14 (cn_3, ct_3, 19) := ⟨rfl, by decide, (inT3 (List.mem_of_getElem? (i := 116) rfl) rfl)⟩
theorem fl_X11_296 : FL "PlanningHouse" 296 1 0 (cn_1, ct_1, 6) := ⟨rfl, by decide, (inT1 (List.mem_of_getElem? (i := 157) rfl) rfl)⟩
theorem fl_X11_306 : FL "PlanningHouse" 306 9 2 (cn_9, ct_9, 8) := ⟨rfl, by decide, (inT3 (List.mem_of_getElem? (i := 28) rfl) rfl)⟩
theorem fl_X11_338 : FL "PlanningHouse" 338 9 5 (cn_9, ct_9, 8) := ⟨rfl, by decide, (inT3 (List.mem_of_getElem? (i := 34) rfl) rfl)⟩
theorem fl_X11_341 : FL "PlanningHouse" 341 9 4 (cn_9, ct_9, 8) := ⟨rfl, by decide, (inT3 (List.mem_of_getElem? (i := 32) rfl) rfl)⟩
theorem fl_X11_362 : FL "PlanningHouse" 362 3 15 (cn_3, ct_3, 19) := ⟨rfl, by decide, (inT3 (List.mem_of_getElem? (i := 118) rfl) rfl)⟩
theorem fl_X11_374 : FL "PlanningHouse" 374 3 12 (cn_3, ct_3, 19) := ⟨rfl, by decide, (inT3 (List.mem_of_getElem? (i := 112) rfl) rfl)⟩
theorem fl_X11_377 : FL "PlanningHouse" 377 3 13 (cn_3, ct_3, 19) := ⟨rfl, by decide, (inT3 (List.mem_of_getElem? (i := 114) rfl) rfl)⟩
theorem fl_X11_406 : FL "PlanningHouse" 406 6 0 (cn_6, ct_6, 14) := ⟨rfl, by decide, (inT1 (List.mem_of_getElem? (i := 184) rfl) rfl)⟩
theorem fl_X11_409 : FL "PlanningHouse" 409 6 1 (cn_6, ct_6, 14) := ⟨rfl, by decide, (inT1 (List.mem_of_getElem? (i := 186) rfl) rfl)⟩
theorem fl_X11_412 : FL "PlanningHouse" 412 6 2 (cn_6, ct_6, 14) := ⟨rfl, by decide, (inT1 (List.mem_of_getElem? (i := 188) rfl) rfl)⟩
theorem fl_X11_415 : FL "PlanningHouse" 415 6 3 (cn_6, ct_6, 14) := ⟨rfl, by decide, (inT1 (List.mem_of_getElem? (i := 190) rfl) rfl)⟩
theorem fl_X11_438 : FL "PlanningHouse" 438 8 0 (cn_8, ct_8, 5) := ⟨rfl, by decide, (inT2 (List.mem_of_getElem? (i := 15) rfl) rfl)⟩
theorem fl_X11_449 : FL "PlanningHouse" 449 8 1 (cn_8, ct_8, 5) := ⟨rfl, by decide, (inT2 (List.mem_of_getElem? (i := 17) rfl) rfl)⟩
theorem fl_X0_11 : FL "PlanningHouse$Bytes" 11 0 0 (cn_0, ct_0, 2) := ⟨rfl, by decide, (inT1 (List.mem_of_getElem? (i := 37) rfl) rfl)⟩
theorem fl_X0_15 : FL "PlanningHouse$Bytes" 15 0 1 (cn_0, ct_0, 2) := ⟨rfl, by decide, (inT1 (List.mem_of_getElem? (i := 38) rfl) rfl)⟩
theorem fl_X1_9 : FL "PlanningHouse$Hard" 9 1 0 (cn_1, ct_1, 6) := ⟨rfl, by decide, (inT1 (List.mem_of_getElem? (i := 156) rfl) rfl)⟩
theorem fl_X1_15 : FL "PlanningHouse$Hard" 15 1 1 (cn_1, ct_1, 6) := ⟨rfl, by decide, (inT1 (List.mem_of_getElem? (i := 158) rfl) rfl)⟩
theorem fl_X1_18 : FL "PlanningHouse$Hard" 18 1 2 (cn_1, ct_1, 6) := ⟨rfl, by decide, (inT1 (List.mem_of_getElem? (i := 159) rfl) rfl)⟩
theorem fl_X1_21 : FL "PlanningHouse$Hard" 21 1 3 (cn_1, ct_1, 6) := ⟨rfl, by decide, (inT1 (List.mem_of_getElem? (i := 160) rfl) rfl)⟩
theorem fl_X1_24 : FL "PlanningHouse$Hard" 24 1 4 (cn_1, ct_1, 6) := ⟨rfl, by decide, (inT1 (List.mem_of_getElem? (i := 161) rfl) rfl)⟩
theorem fl_X1_28 : FL "PlanningHouse$Hard" 28 1 5 (cn_1, ct_1, 6) := ⟨rfl, by decide, (inT1 (List.mem_of_getElem? (i := 162) rfl) rfl)⟩
theorem fl_X2_9 : FL "PlanningHouse$Judge" 9 2 0 (cn_2, ct_2, 15) := ⟨rfl, by decide, (inT2 (List.mem_of_getElem? (i := 194) rfl) rfl)⟩
theorem fl_X2_15 : FL "PlanningHouse$Judge" 15 2 1 (cn_2, ct_2, 15) := ⟨rfl, by decide, (inT2 (List.mem_of_getElem? (i := 201) rfl) rfl)⟩
theorem fl_X2_18 : FL "PlanningHouse$Judge" 18 2 2 (cn_2, ct_2, 15) := ⟨rfl, by decide, (inT2 (List.mem_of_getElem? (i := 202) rfl) rfl)⟩
theorem fl_X2_21 : FL "PlanningHouse$Judge" 21 2 3 (cn_2, ct_2, 15) := ⟨rfl, by decide, (inT2 (List.mem_of_getElem? (i := 203) rfl) rfl)⟩
theorem fl_X2_24 : FL "PlanningHouse$Judge" 24 2 4 (cn_2, ct_2, 15) := ⟨rfl, by decide, (inT2 (List.mem_of_getElem? (i := 205) rfl) rfl)⟩
theorem fl_X2_28 : FL "PlanningHouse$Judge" 28 2 5 (cn_2, ct_2, 15) := ⟨rfl, by decide, (inT2 (List.mem_of_getElem? (i := 209) rfl) rfl)⟩
theorem fl_X2_31 : FL "PlanningHouse$Judge" 31 2 6 (cn_2, ct_2, 15) := ⟨rfl, by decide, (inT2 (List.mem_of_getElem? (i := 214) rfl) rfl)⟩
theorem fl_X2_34 : FL "PlanningHouse$Judge" 34 2 7 (cn_2, ct_2, 15) := ⟨rfl, by decide, (inT2 (List.mem_of_getElem? (i := 216) rfl) rfl)⟩
theorem fl_X2_37 : FL "PlanningHouse$Judge" 37 2 8 (cn_2, ct_2, 15) := ⟨rfl, by decide, (inT2 (List.mem_of_getElem? (i := 217) rfl) rfl)⟩
theorem fl_X2_40 : FL "PlanningHouse$Judge" 40 2 9 (cn_2, ct_2, 15) := ⟨rfl, by decide, (inT2 (List.mem_of_getElem? (i := 218) rfl) rfl)⟩
theorem fl_X2_43 : FL "PlanningHouse$Judge" 43 2 10 (cn_2, ct_2, 15) := ⟨rfl, by decide, (inT2 (List.mem_of_getElem? (i := 219) rfl) rfl)⟩
theorem fl_X2_46 : FL "PlanningHouse$Judge" 46 2 11 (cn_2, ct_2, 15) := ⟨rfl, by decide, (inT2 (List.mem_of_getElem? (i := 220) rfl) rfl)⟩
theorem fl_X2_49 : FL "PlanningHouse$Judge" 49 2 12 (cn_2, ct_2, 15) := ⟨rfl, by decide, (inT2 (List.mem_of_getElem? (i := 221) rfl) rfl)⟩
theorem fl_X2_52 : FL "PlanningHouse$Judge" 52 2 13 (cn_2, ct_2, 15) := ⟨rfl, by decide, (inT2 (List.mem_of_getElem? (i := 222) rfl) rfl)⟩
theorem fl_X2_55 : FL "PlanningHouse$Judge" 55 2 14 (cn_2, ct_2, 15) := ⟨rfl, by decide, (inT2 (List.mem_of_getElem? (i := 223) rfl) rfl)⟩
theorem fl_X3_9 : FL "PlanningHouse$Problem" 9 3 0 (cn_3, ct_3, 19) := ⟨rfl, by decide, (inT3 (List.mem_of_getElem? (i := 54) rfl) rfl)⟩
theorem fl_X3_18 : FL "PlanningHouse$Problem" 18 3 1 (cn_3, ct_3, 19) := ⟨rfl, by decide, (inT3 (List.mem_of_getElem? (i := 56) rfl) rfl)⟩
theorem fl_X3_22 : FL "PlanningHouse$Problem" 22 3 2 (cn_3, ct_3, 19) := ⟨rfl, by decide, (inT3 (List.mem_of_getElem? (i := 60) rfl) rfl)⟩
theorem fl_X3_26 : FL "PlanningHouse$Problem" 26 3 3 (cn_3, ct_3, 19) := ⟨rfl, by decide, (inT3 (List.mem_of_getElem? (i := 63) rfl) rfl)⟩
theorem fl_X3_33 : FL "PlanningHouse$Problem" 33 3 4 (cn_3, ct_3, 19) := ⟨rfl, by decide, (inT3 (List.mem_of_getElem? (i := 67) rfl) rfl)⟩
theorem fl_X3_40 : FL "PlanningHouse$Problem" 40 3 5 (cn_3, ct_3, 19) := ⟨rfl, by decide, (inT3 (List.mem_of_getElem? (i := 75) rfl) rfl)⟩
theorem fl_X3_47 : FL "PlanningHouse$Problem" 47 3 6 (cn_3, ct_3, 19) := ⟨rfl, by decide, (inT3 (List.mem_of_getElem? (i := 81) rfl) rfl)⟩
theorem fl_X3_51 : FL "PlanningHouse$Problem" 51 3 7 (cn_3, ct_3, 19) := ⟨rfl, by decide, (inT3 (List.mem_of_getElem? (i := 86) rfl) rfl)⟩
theorem fl_X3_54 : FL "PlanningHouse$Problem" 54 3 8 (cn_3, ct_3, 19) := ⟨rfl, by decide, (inT3 (List.mem_of_getElem? (i := 92) rfl) rfl)⟩
theorem fl_X3_58 : FL "PlanningHouse$Problem" 58 3 9 (cn_3, ct_3, 19) := ⟨rfl, by decide, (inT3 (List.mem_of_getElem? (i := 99) rfl) rfl)⟩
theorem fl_X3_61 : FL "PlanningHouse$Problem" 61 3 10 (cn_3, ct_3, 19) := ⟨rfl, by decide, (inT3 (List.mem_of_getElem? (i := 106) rfl) rfl)⟩
theorem fl_X3_64 : FL "PlanningHouse$Problem" 64 3 11 (cn_3, ct_3, 19) := ⟨rfl, by decide, (inT3 (List.mem_of_getElem? (i := 109) rfl) rfl)⟩
theorem fl_X3_67 : FL "PlanningHouse$Problem" 67 3 12 (cn_3, ct_3, 19) := ⟨rfl, by decide, (inT3 (List.mem_of_getElem? (i := 111) rfl) rfl)⟩
theorem fl_X3_70 : FL "PlanningHouse$Problem" 70 3 13 (cn_3, ct_3, 19) := ⟨rfl, by decide, (inT3 (List.mem_of_getElem? (i := 113) rfl) rfl)⟩
theorem fl_X3_73 : FL "PlanningHouse$Problem" 73 3 14 (cn_3, ct_3, 19) := ⟨rfl, by decide, (inT3 (List.mem_of_getElem? (i := 115) rfl) rfl)⟩
theorem fl_X3_76 : FL "PlanningHouse$Problem" 76 3 15 (cn_3, ct_3, 19) := ⟨rfl, by decide, (inT3 (List.mem_of_getElem? (i := 117) rfl) rfl)⟩
theorem fl_X3_79 : FL "PlanningHouse$Problem" 79 3 16 (cn_3, ct_3, 19) := ⟨rfl, by decide, (inT3 (List.mem_of_getElem? (i := 119) rfl) rfl)⟩
theorem fl_X3_82 : FL "PlanningHouse$Problem" 82 3 17 (cn_3, ct_3, 19) := ⟨rfl, by decide, (inT3 (List.mem_of_getElem? (i := 120) rfl) rfl)⟩
theorem fl_X3_85 : FL "PlanningHouse$Problem" 85 3 18 (cn_3, ct_3, 19) := ⟨rfl, by decide, (inT3 (List.mem_of_getElem? (i := 121) rfl) rfl)⟩
theorem fl_X3_98 : FL "PlanningHouse$Problem" 98 9 0 (cn_9, ct_9, 8) := ⟨rfl, by decide, (inT3 (List.mem_of_getElem? (i := 22) rfl) rfl)⟩
theorem fl_X4_9 : FL "PlanningHouse$Proof" 9 4 1 (cn_4, ct_4, 3) := ⟨rfl, by decide, (inT1 (List.mem_of_getElem? (i := 237) rfl) rfl)⟩
theorem fl_X4_15 : FL "PlanningHouse$Proof" 15 4 2 (cn_4, ct_4, 3) := ⟨rfl, by decide, (inT1 (List.mem_of_getElem? (i := 238) rfl) rfl)⟩
theorem fl_X4_19 : FL "PlanningHouse$Proof" 19 4 0 (cn_4, ct_4, 3) := ⟨rfl, by decide, (inT1 (List.mem_of_getElem? (i := 236) rfl) rfl)⟩
theorem fl_X5_9 : FL "PlanningHouse$Reader" 9 5 1 (cn_5, ct_5, 11) := ⟨rfl, by decide, (inT1 (List.mem_of_getElem? (i := 115) rfl) rfl)⟩
theorem fl_X5_15 : FL "PlanningHouse$Reader" 15 5 2 (cn_5, ct_5, 11) := ⟨rfl, by decide, (inT1 (List.mem_of_getElem? (i := 116) rfl) rfl)⟩
theorem fl_X5_19 : FL "PlanningHouse$Reader" 19 5 3 (cn_5, ct_5, 11) := ⟨rfl, by decide, (inT1 (List.mem_of_getElem? (i := 117) rfl) rfl)⟩
theorem fl_X5_23 : FL "PlanningHouse$Reader" 23 5 4 (cn_5, ct_5, 11) := ⟨rfl, by decide, (inT1 (List.mem_of_getElem? (i := 118) rfl) rfl)⟩
theorem fl_X5_27 : FL "PlanningHouse$Reader" 27 5 5 (cn_5, ct_5, 11) := ⟨rfl, by decide, (inT1 (List.mem_of_getElem? (i := 119) rfl) rfl)⟩
theorem fl_X5_30 : FL "PlanningHouse$Reader" 30 5 6 (cn_5, ct_5, 11) := ⟨rfl, by decide, (inT1 (List.mem_of_getElem? (i := 120) rfl) rfl)⟩
theorem fl_X5_33 : FL "PlanningHouse$Reader" 33 5 7 (cn_5, ct_5, 11) := ⟨rfl, by decide, (inT1 (List.mem_of_getElem? (i := 121) rfl) rfl)⟩
theorem fl_X5_36 : FL "PlanningHouse$Reader" 36 5 8 (cn_5, ct_5, 11) := ⟨rfl, by decide, (inT1 (List.mem_of_getElem? (i := 122) rfl) rfl)⟩
theorem fl_X5_39 : FL "PlanningHouse$Reader" 39 5 9 (cn_5, ct_5, 11) := ⟨rfl, by decide, (inT1 (List.mem_of_getElem? (i := 123) rfl) rfl)⟩
theorem fl_X5_43 : FL "PlanningHouse$Reader" 43 5 10 (cn_5, ct_5, 11) := ⟨rfl, by decide, (inT1 (List.mem_of_getElem? (i := 124) rfl) rfl)⟩
theorem fl_X5_46 : FL "PlanningHouse$Reader" 46 5 0 (cn_5, ct_5, 11) := ⟨rfl, by decide, (inT1 (List.mem_of_getElem? (i := 114) rfl) rfl)⟩
theorem fl_X5_50 : FL "PlanningHouse$Reader" 50 3 5 (cn_3, ct_3, 19) := ⟨rfl, by decide, (inT3 (List.mem_of_getElem? (i := 76) rfl) rfl)⟩
theorem fl_X5_56 : FL "PlanningHouse$Reader" 56 3 1 (cn_3, ct_3, 19) := ⟨rfl, by decide, (inT3 (List.mem_of_getElem? (i := 57) rfl) rfl)⟩
theorem fl_X5_66 : FL "PlanningHouse$Reader" 66 0 1 (cn_0, ct_0, 2) := ⟨rfl, by decide, (inT1 (List.mem_of_getElem? (i := 41) rfl) rfl)⟩
theorem fl_X5_71 : FL "PlanningHouse$Reader" 71 10 6 (cn_10, ct_10, 12) := ⟨rfl, by decide, (inT1 (List.mem_of_getElem? (i := 65) rfl) rfl)⟩
theorem fl_X6_9 : FL "PlanningHouse$Search" 9 6 0 (cn_6, ct_6, 14) := ⟨rfl, by decide, (inT1 (List.mem_of_getElem? (i := 183) rfl) rfl)⟩
theorem fl_X6_15 : FL "PlanningHouse$Search" 15 6 1 (cn_6, ct_6, 14) := ⟨rfl, by decide, (inT1 (List.mem_of_getElem? (i := 185) rfl) rfl)⟩
theorem fl_X6_19 : FL "PlanningHouse$Search" 19 6 2 (cn_6, ct_6, 14) := ⟨rfl, by decide, (inT1 (List.mem_of_getElem? (i := 187) rfl) rfl)⟩
theorem fl_X6_22 : FL "PlanningHouse$Search" 22 6 3 (cn_6, ct_6, 14) := ⟨rfl, by decide, (inT1 (List.mem_of_getElem? (i := 189) rfl) rfl)⟩
theorem fl_X6_25 : FL "PlanningHouse$Search" 25 6 4 (cn_6, ct_6, 14) := ⟨rfl, by decide, (inT1 (List.mem_of_getElem? (i := 191) rfl) rfl)⟩
theorem fl_X6_29 : FL "PlanningHouse$Search" 29 6 5 (cn_6, ct_6, 14) := ⟨rfl, by decide, (inT1 (List.mem_of_getElem? (i := 192) rfl) rfl)⟩
theorem fl_X6_32 : FL "PlanningHouse$Search" 32 6 6 (cn_6, ct_6, 14) := ⟨rfl, by decide, (inT1 (List.mem_of_getElem? (i := 193) rfl) rfl)⟩
theorem fl_X6_35 : FL "PlanningHouse$Search" 35 6 7 (cn_6, ct_6, 14) := ⟨rfl, by decide, (inT1 (List.mem_of_getElem? (i := 194) rfl) rfl)⟩
theorem fl_X6_38 : FL "PlanningHouse$Search" 38 6 8 (cn_6, ct_6, 14) := ⟨rfl, by decide, (inT1 (List.mem_of_getElem? (i := 195) rfl) rfl)⟩
theorem fl_X6_41 : FL "PlanningHouse$Search" 41 6 9 (cn_6, ct_6, 14) := ⟨rfl, by decide, (inT1 (List.mem_of_getElem? (i := 196) rfl) rfl)⟩
theorem fl_X6_44 : FL "PlanningHouse$Search" 44 6 10 (cn_6, ct_6, 14) := ⟨rfl, by decide, (inT1 (List.mem_of_getElem? (i := 197) rfl) rfl)⟩
theorem fl_X6_47 : FL "PlanningHouse$Search" 47 6 11 (cn_6, ct_6, 14) := ⟨rfl, by decide, (inT1 (List.mem_of_getElem? (i := 198) rfl) rfl)⟩
theorem fl_X6_50 : FL "PlanningHouse$Search" 50 6 12 (cn_6, ct_6, 14) := ⟨rfl, by decide, (inT1 (List.mem_of_getElem? (i := 199) rfl) rfl)⟩
theorem fl_X6_53 : FL "PlanningHouse$Search" 53 6 13 (cn_6, ct_6, 14) := ⟨rfl, by decide, (inT1 (List.mem_of_getElem? (i := 200) rfl) rfl)⟩
theorem fl_X7_9 : FL "PlanningHouse$Space" 9 7 0 (cn_7, ct_7, 5) := ⟨rfl, by decide, (inT2 (List.mem_of_getElem? (i := 154) rfl) rfl)⟩
theorem fl_X7_15 : FL "PlanningHouse$Space" 15 7 1 (cn_7, ct_7, 5) := ⟨rfl, by decide, (inT2 (List.mem_of_getElem? (i := 162) rfl) rfl)⟩
theorem fl_X7_18 : FL "PlanningHouse$Space" 18 7 2 (cn_7, ct_7, 5) := ⟨rfl, by decide, (inT2 (List.mem_of_getElem? (i := 169) rfl) rfl)⟩
theorem fl_X7_22 : FL "PlanningHouse$Space" 22 7 3 (cn_7, ct_7, 5) := ⟨rfl, by decide, (inT2 (List.mem_of_getElem? (i := 174) rfl) rfl)⟩
theorem fl_X7_25 : FL "PlanningHouse$Space" 25 7 4 (cn_7, ct_7, 5) := ⟨rfl, by decide, (inT2 (List.mem_of_getElem? (i := 176) rfl) rfl)⟩
theorem fl_X8_14 : FL "PlanningHouse$Store" 14 8 0 (cn_8, ct_8, 5) := ⟨rfl, by decide, (inT2 (List.mem_of_getElem? (i := 14) rfl) rfl)⟩
theorem fl_X8_18 : FL "PlanningHouse$Store" 18 8 1 (cn_8, ct_8, 5) := ⟨rfl, by decide, (inT2 (List.mem_of_getElem? (i := 16) rfl) rfl)⟩
theorem fl_X8_22 : FL "PlanningHouse$Store" 22 8 2 (cn_8, ct_8, 5) := ⟨rfl, by decide, (inT2 (List.mem_of_getElem? (i := 18) rfl) rfl)⟩
theorem fl_X8_26 : FL "PlanningHouse$Store" 26 8 3 (cn_8, ct_8, 5) := ⟨rfl, by decide, (inT2 (List.mem_of_getElem? (i := 19) rfl) rfl)⟩
theorem fl_X8_29 : FL "PlanningHouse$Store" 29 8 4 (cn_8, ct_8, 5) := ⟨rfl, by decide, (inT2 (List.mem_of_getElem? (i := 20) rfl) rfl)⟩
theorem fl_X8_32 : FL "PlanningHouse$Store" 32 0 1 (cn_0, ct_0, 2) := ⟨rfl, by decide, (inT1 (List.mem_of_getElem? (i := 42) rfl) rfl)⟩
theorem fl_X9_9 : FL "PlanningHouse$Table" 9 9 0 (cn_9, ct_9, 8) := ⟨rfl, by decide, (inT3 (List.mem_of_getElem? (i := 21) rfl) rfl)⟩
theorem fl_X9_15 : FL "PlanningHouse$Table" 15 9 1 (cn_9, ct_9, 8) := ⟨rfl, by decide, (inT3 (List.mem_of_getElem? (i := 24) rfl) rfl)⟩
theorem fl_X9_19 : FL "PlanningHouse$Table" 19 9 2 (cn_9, ct_9, 8) := ⟨rfl, by decide, (inT3 (List.mem_of_getElem? (i := 26) rfl) rfl)⟩
theorem fl_X9_23 : FL "PlanningHouse$Table" 23 9 3 (cn_9, ct_9, 8) := ⟨rfl, by decide, (inT3 (List.mem_of_getElem? (i := 29) rfl) rfl)⟩
theorem fl_X9_26 : FL "PlanningHouse$Table" 26 9 4 (cn_9, ct_9, 8) := ⟨rfl, by decide, (inT3 (List.mem_of_getElem? (i := 31) rfl) rfl)⟩
theorem fl_X9_29 : FL "PlanningHouse$Table" 29 9 5 (cn_9, ct_9, 8) := ⟨rfl, by decide, (inT3 (List.mem_of_getElem? (i := 33) rfl) rfl)⟩
theorem fl_X9_32 : FL "PlanningHouse$Table" 32 9 6 (cn_9, ct_9, 8) := ⟨rfl, by decide, (inT3 (List.mem_of_getElem? (i := 35) rfl) rfl)⟩
theorem fl_X9_36 : FL "PlanningHouse$Table" 36 9 7 (cn_9, ct_9, 8) := ⟨rfl, by decide, (inT3 (List.mem_of_getElem? (i := 36) rfl) rfl)⟩
theorem fl_X10_11 : FL "PlanningHouse$Tokens" 11 10 0 (cn_10, ct_10, 12) := ⟨rfl, by decide, (inT1 (List.mem_of_getElem? (i := 55) rfl) rfl)⟩
theorem fl_X10_15 : FL "PlanningHouse$Tokens" 15 10 1 (cn_10, ct_10, 12) := ⟨rfl, by decide, (inT1 (List.mem_of_getElem? (i := 56) rfl) rfl)⟩
theorem fl_X10_19 : FL "PlanningHouse$Tokens" 19 10 2 (cn_10, ct_10, 12) := ⟨rfl, by decide, (inT1 (List.mem_of_getElem? (i := 57) rfl) rfl)⟩
theorem fl_X10_22 : FL "PlanningHouse$Tokens" 22 10 3 (cn_10, ct_10, 12) := ⟨rfl, by decide, (inT1 (List.mem_of_getElem? (i := 58) rfl) rfl)⟩
theorem fl_X10_25 : FL "PlanningHouse$Tokens" 25 10 4 (cn_10, ct_10, 12) := ⟨rfl, by decide, (inT1 (List.mem_of_getElem? (i := 59) rfl) rfl)⟩
theorem fl_X10_29 : FL "PlanningHouse$Tokens" 29 10 5 (cn_10, ct_10, 12) := ⟨rfl, by decide, (inT1 (List.mem_of_getElem? (i := 60) rfl) rfl)⟩
theorem fl_X10_32 : FL "PlanningHouse$Tokens" 32 10 6 (cn_10, ct_10, 12) := ⟨rfl, by decide, (inT1 (List.mem_of_getElem? (i := 63) rfl) rfl)⟩
theorem fl_X10_35 : FL "PlanningHouse$Tokens" 35 10 7 (cn_10, ct_10, 12) := ⟨rfl, by decide, (inT1 (List.mem_of_getElem? (i := 67) rfl) rfl)⟩
theorem fl_X10_39 : FL "PlanningHouse$Tokens" 39 10 8 (cn_10, ct_10, 12) := ⟨rfl, by decide, (inT1 (List.mem_of_getElem? (i := 71) rfl) rfl)⟩
theorem fl_X10_42 : FL "PlanningHouse$Tokens" 42 10 9 (cn_10, ct_10, 12) := ⟨rfl, by decide, (inT1 (List.mem_of_getElem? (i := 75) rfl) rfl)⟩
theorem fl_X10_45 : FL "PlanningHouse$Tokens" 45 10 10 (cn_10, ct_10, 12) := ⟨rfl, by decide, (inT1 (List.mem_of_getElem? (i := 77) rfl) rfl)⟩
theorem fl_X10_48 : FL "PlanningHouse$Tokens" 48 10 11 (cn_10, ct_10, 12) := ⟨rfl, by decide, (inT1 (List.mem_of_getElem? (i := 79) rfl) rfl)⟩
theorem fl_X10_51 : FL "PlanningHouse$Tokens" 51 0 1 (cn_0, ct_0, 2) := ⟨rfl, by decide, (inT1 (List.mem_of_getElem? (i := 40) rfl) rfl)⟩
theorem fl_X12_9 : FL "PlanningHouseModel" 9 12 0 (cn_12, ct_12, 95) := ⟨rfl, by decide, (inT8 (List.mem_of_getElem? (i := 111) rfl) rfl)⟩
theorem fl_X12_15 : FL "PlanningHouseModel" 15 12 3 (cn_12, ct_12, 95) := ⟨rfl, by decide, (inT8 (List.mem_of_getElem? (i := 114) rfl) rfl)⟩
theorem fl_X12_19 : FL "PlanningHouseModel" 19 12 5 (cn_12, ct_12, 95) := ⟨rfl, by decide, (inT8 (List.mem_of_getElem? (i := 116) rfl) rfl)⟩
theorem fl_X12_24 : FL "PlanningHouseModel" 24 12 6 (cn_12, ct_12, 95) := ⟨rfl, by decide, (inT8 (List.mem_of_getElem? (i := 117) rfl) rfl)⟩
theorem fl_X12_27 : FL "PlanningHouseModel" 27 12 7 (cn_12, ct_12, 95) := ⟨rfl, by decide, (inT8 (List.mem_of_getElem? (i := 118) rfl) rfl)⟩
theorem fl_X12_31 : FL "PlanningHouseModel" 31 12 8 (cn_12, ct_12, 95) := ⟨rfl, by decide, (inT8 (List.mem_of_getElem? (i := 119) rfl) rfl)⟩
theorem fl_X12_34 : FL "PlanningHouseModel" 34 12 9 (cn_12, ct_12, 95) := ⟨rfl, by decide, (inT8 (List.mem_of_getElem? (i := 120) rfl) rfl)⟩
theorem fl_X12_37 : FL "PlanningHouseModel" 37 12 10 (cn_12, ct_12, 95) := ⟨rfl, by decide, (inT8 (List.mem_of_getElem? (i := 121) rfl) rfl)⟩
theorem fl_X12_40 : FL "PlanningHouseModel" 40 12 11 (cn_12, ct_12, 95) := ⟨rfl, by decide, (inT8 (List.mem_of_getElem? (i := 122) rfl) rfl)⟩
theorem fl_X12_43 : FL "PlanningHouseModel" 43 12 12 (cn_12, ct_12, 95) := ⟨rfl, by decide, (inT8 (List.mem_of_getElem? (i := 123) rfl) rfl)⟩
theorem fl_X12_46 : FL "PlanningHouseModel" 46 12 13 (cn_12, ct_12, 95) := ⟨rfl, by decide, (inT8 (List.mem_of_getElem? (i := 124) rfl) rfl)⟩
theorem fl_X12_49 : FL "PlanningHouseModel" 49 12 14 (cn_12, ct_12, 95) := ⟨rfl, by decide, (inT8 (List.mem_of_getElem? (i := 125) rfl) rfl)⟩
theorem fl_X12_52 : FL "PlanningHouseModel" 52 12 15 (cn_12, ct_12, 95) := ⟨rfl, by decide, (inT8 (List.mem_of_getElem? (i := 126) rfl) rfl)⟩
theorem fl_X12_55 : FL "PlanningHouseModel" 55 12 16 (cn_12, ct_12, 95) := ⟨rfl, by decide, (inT8 (List.mem_of_getElem? (i := 127) rfl) rfl)⟩
theorem fl_X12_58 : FL "PlanningHouseModel" 58 12 17 (cn_12, ct_12, 95) := ⟨rfl, by decide, (inT8 (List.mem_of_getElem? (i := 128) rfl) rfl)⟩
theorem fl_X12_61 : FL "PlanningHouseModel" 61 12 18 (cn_12, ct_12, 95) := ⟨rfl, by decide, (inT8 (List.mem_of_getElem? (i := 129) rfl) rfl)⟩
theorem fl_X12_64 : FL "PlanningHouseModel" 64 12 19 (cn_12, ct_12, 95) := ⟨rfl, by decide, (inT8 (List.mem_of_getElem? (i := 130) rfl) rfl)⟩
theorem fl_X12_67 : FL "PlanningHouseModel" 67 12 20 (cn_12, ct_12, 95) := ⟨rfl, by decide, (inT8 (List.mem_of_getElem? (i := 131) rfl) rfl)⟩
theorem fl_X12_70 : FL "PlanningHouseModel" 70 12 21 (cn_12, ct_12, 95) := ⟨rfl, by decide, (inT8 (List.mem_of_getElem? (i := 132) rfl) rfl)⟩
theorem fl_X12_73 : FL "PlanningHouseModel" 73 12 22 (cn_12, ct_12, 95) := ⟨rfl, by decide, (inT8 (List.mem_of_getElem? (i := 133) rfl) rfl)⟩
theorem fl_X12_76 : FL "PlanningHouseModel" 76 12 23 (cn_12, ct_12, 95) := ⟨rfl, by decide, (inT8 (List.mem_of_getElem? (i := 134) rfl) rfl)⟩
theorem fl_X12_79 : FL "PlanningHouseModel" 79 12 24 (cn_12, ct_12, 95) := ⟨rfl, by decide, (inT8 (List.mem_of_getElem? (i := 135) rfl) rfl)⟩
theorem fl_X12_82 : FL "PlanningHouseModel" 82 12 25 (cn_12, ct_12, 95) := ⟨rfl, by decide, (inT8 (List.mem_of_getElem? (i := 136) rfl) rfl)⟩
theorem fl_X12_85 : FL "PlanningHouseModel" 85 12 26 (cn_12, ct_12, 95) := ⟨rfl, by decide, (inT8 (List.mem_of_getElem? (i := 137) rfl) rfl)⟩
theorem fl_X12_88 : FL "PlanningHouseModel" 88 12 27 (cn_12, ct_12, 95) := ⟨rfl, by decide, (inT8 (List.mem_of_getElem? (i := 138) rfl) rfl)⟩
theorem fl_X12_91 : FL "PlanningHouseModel" 91 12 28 (cn_12, ct_12, 95) := ⟨rfl, by decide, (inT8 (List.mem_of_getElem? (i := 139) rfl) rfl)⟩
theorem fl_X12_94 : FL "PlanningHouseModel" 94 12 29 (cn_12, ct_12, 95) := ⟨rfl, by decide, (inT8 (List.mem_of_getElem? (i := 140) rfl) rfl)⟩
theorem fl_X12_97 : FL "PlanningHouseModel" 97 12 30 (cn_12, ct_12, 95) := ⟨rfl, by decide, (inT8 (List.mem_of_getElem? (i := 141) rfl) rfl)⟩
theorem fl_X12_100 : FL "PlanningHouseModel" 100 12 31 (cn_12, ct_12, 95) := ⟨rfl, by decide, (inT8 (List.mem_of_getElem? (i := 142) rfl) rfl)⟩
theorem fl_X12_103 : FL "PlanningHouseModel" 103 12 32 (cn_12, ct_12, 95) := ⟨rfl, by decide, (inT8 (List.mem_of_getElem? (i := 143) rfl) rfl)⟩
theorem fl_X12_106 : FL "PlanningHouseModel" 106 12 33 (cn_12, ct_12, 95) := ⟨rfl, by decide, (inT8 (List.mem_of_getElem? (i := 144) rfl) rfl)⟩
theorem fl_X12_109 : FL "PlanningHouseModel" 109 12 34 (cn_12, ct_12, 95) := ⟨rfl, by decide, (inT8 (List.mem_of_getElem? (i := 145) rfl) rfl)⟩
theorem fl_X12_112 : FL "PlanningHouseModel" 112 12 35 (cn_12, ct_12, 95) := ⟨rfl, by decide, (inT8 (List.mem_of_getElem? (i := 146) rfl) rfl)⟩
theorem fl_X12_115 : FL "PlanningHouseModel" 115 12 36 (cn_12, ct_12, 95) := ⟨rfl, by decide, (inT8 (List.mem_of_getElem? (i := 147) rfl) rfl)⟩
theorem fl_X12_118 : FL "PlanningHouseModel" 118 12 49 (cn_12, ct_12, 95) := ⟨rfl, by decide, (inT8 (List.mem_of_getElem? (i := 160) rfl) rfl)⟩
theorem fl_X12_121 : FL "PlanningHouseModel" 121 12 52 (cn_12, ct_12, 95) := ⟨rfl, by decide, (inT8 (List.mem_of_getElem? (i := 163) rfl) rfl)⟩
theorem fl_X12_124 : FL "PlanningHouseModel" 124 12 53 (cn_12, ct_12, 95) := ⟨rfl, by decide, (inT8 (List.mem_of_getElem? (i := 164) rfl) rfl)⟩
theorem fl_X12_127 : FL "PlanningHouseModel" 127 12 55 (cn_12, ct_12, 95) := ⟨rfl, by decide, (inT8 (List.mem_of_getElem? (i := 166) rfl) rfl)⟩
theorem fl_X12_131 : FL "PlanningHouseModel" 131 12 56 (cn_12, ct_12, 95) := ⟨rfl, by decide, (inT8 (List.mem_of_getElem? (i := 167) rfl) rfl)⟩
theorem fl_X12_134 : FL "PlanningHouseModel" 134 12 58 (cn_12, ct_12, 95) := ⟨rfl, by decide, (inT8 (List.mem_of_getElem? (i := 169) rfl) rfl)⟩
theorem fl_X12_137 : FL "PlanningHouseModel" 137 12 59 (cn_12, ct_12, 95) := ⟨rfl, by decide, (inT8 (List.mem_of_getElem? (i := 170) rfl) rfl)⟩
theorem fl_X12_140 : FL "PlanningHouseModel" 140 12 60 (cn_12, ct_12, 95) := ⟨rfl, by decide, (inT8 (List.mem_of_getElem? (i := 171) rfl) rfl)⟩
theorem fl_X12_143 : FL "PlanningHouseModel" 143 12 61 (cn_12, ct_12, 95) := ⟨rfl, by decide, (inT8 (List.mem_of_getElem? (i := 172) rfl) rfl)⟩
theorem fl_X12_146 : FL "PlanningHouseModel" 146 12 62 (cn_12, ct_12, 95) := ⟨rfl, by decide, (inT8 (List.mem_of_getElem? (i := 173) rfl) rfl)⟩
theorem fl_X12_151 : FL "PlanningHouseModel" 151 12 64 (cn_12, ct_12, 95) := ⟨rfl, by decide, (inT8 (List.mem_of_getElem? (i := 175) rfl) rfl)⟩
theorem fl_X12_155 : FL "PlanningHouseModel" 155 12 65 (cn_12, ct_12, 95) := ⟨rfl, by decide, (inT8 (List.mem_of_getElem? (i := 176) rfl) rfl)⟩
theorem fl_X12_159 : FL "PlanningHouseModel" 159 12 66 (cn_12, ct_12, 95) := ⟨rfl, by decide, (inT8 (List.mem_of_getElem? (i := 177) rfl) rfl)⟩
theorem fl_X12_162 : FL "PlanningHouseModel" 162 12 67 (cn_12, ct_12, 95) := ⟨rfl, by decide, (inT8 (List.mem_of_getElem? (i := 178) rfl) rfl)⟩
theorem fl_X12_165 : FL "PlanningHouseModel" 165 12 68 (cn_12, ct_12, 95) := ⟨rfl, by decide, (inT8 (List.mem_of_getElem? (i := 179) rfl) rfl)⟩
theorem fl_X12_168 : FL "PlanningHouseModel" 168 12 71 (cn_12, ct_12, 95) := ⟨rfl, by decide, (inT8 (List.mem_of_getElem? (i := 182) rfl) rfl)⟩
theorem fl_X12_171 : FL "PlanningHouseModel" 171 12 72 (cn_12, ct_12, 95) := ⟨rfl, by decide, (inT8 (List.mem_of_getElem? (i := 183) rfl) rfl)⟩
theorem fl_X12_175 : FL "PlanningHouseModel" 175 12 74 (cn_12, ct_12, 95) := ⟨rfl, by decide, (inT8 (List.mem_of_getElem? (i := 185) rfl) rfl)⟩
theorem fl_X12_178 : FL "PlanningHouseModel" 178 12 75 (cn_12, ct_12, 95) := ⟨rfl, by decide, (inT8 (List.mem_of_getElem? (i := 186) rfl) rfl)⟩
theorem fl_X12_181 : FL "PlanningHouseModel" 181 12 78 (cn_12, ct_12, 95) := ⟨rfl, by decide, (inT8 (List.mem_of_getElem? (i := 189) rfl) rfl)⟩
theorem fl_X12_184 : FL "PlanningHouseModel" 184 12 80 (cn_12, ct_12, 95) := ⟨rfl, by decide, (inT8 (List.mem_of_getElem? (i := 191) rfl) rfl)⟩
theorem fl_X12_187 : FL "PlanningHouseModel" 187 12 81 (cn_12, ct_12, 95) := ⟨rfl, by decide, (inT8 (List.mem_of_getElem? (i := 192) rfl) rfl)⟩
theorem fl_X12_190 : FL "PlanningHouseModel" 190 12 82 (cn_12, ct_12, 95) := ⟨rfl, by decide, (inT8 (List.mem_of_getElem? (i := 193) rfl) rfl)⟩
theorem fl_X12_193 : FL "PlanningHouseModel" 193 12 83 (cn_12, ct_12, 95) := ⟨rfl, by decide, (inT8 (List.mem_of_getElem? (i := 194) rfl) rfl)⟩
theorem fl_X12_196 : FL "PlanningHouseModel" 196 12 85 (cn_12, ct_12, 95) := ⟨rfl, by decide, (inT8 (List.mem_of_getElem? (i := 196) rfl) rfl)⟩
theorem fl_X12_199 : FL "PlanningHouseModel" 199 12 86 (cn_12, ct_12, 95) := ⟨rfl, by decide, (inT8 (List.mem_of_getElem? (i := 197) rfl) rfl)⟩
theorem fl_X12_202 : FL "PlanningHouseModel" 202 12 87 (cn_12, ct_12, 95) := ⟨rfl, by decide, (inT8 (List.mem_of_getElem? (i := 198) rfl) rfl)⟩
theorem fl_X12_205 : FL "PlanningHouseModel" 205 12 88 (cn_12, ct_12, 95) := ⟨rfl, by decide, (inT8 (List.mem_of_getElem? (i := 199) rfl) rfl)⟩
theorem fl_X12_208 : FL "PlanningHouseModel" 208 12 90 (cn_12, ct_12, 95) := ⟨rfl, by decide, (inT8 (List.mem_of_getElem? (i := 201) rfl) rfl)⟩
theorem fl_X12_211 : FL "PlanningHouseModel" 211 12 92 (cn_12, ct_12, 95) := ⟨rfl, by decide, (inT8 (List.mem_of_getElem? (i := 203) rfl) rfl)⟩
theorem fl_X12_214 : FL "PlanningHouseModel" 214 12 94 (cn_12, ct_12, 95) := ⟨rfl, by decide, (inT8 (List.mem_of_getElem? (i := 205) rfl) rfl)⟩
theorem fl_X12_217 : FL "PlanningHouseModel" 217 12 1 (cn_12, ct_12, 95) := ⟨rfl, by decide, (inT8 (List.mem_of_getElem? (i := 112) rfl) rfl)⟩
theorem fl_X12_221 : FL "PlanningHouseModel" 221 12 39 (cn_12, ct_12, 95) := ⟨rfl, by decide, (inT8 (List.mem_of_getElem? (i := 150) rfl) rfl)⟩
theorem fl_X12_224 : FL "PlanningHouseModel" 224 12 37 (cn_12, ct_12, 95) := ⟨rfl, by decide, (inT8 (List.mem_of_getElem? (i := 148) rfl) rfl)⟩
theorem fl_X12_228 : FL "PlanningHouseModel" 228 12 38 (cn_12, ct_12, 95) := ⟨rfl, by decide, (inT8 (List.mem_of_getElem? (i := 149) rfl) rfl)⟩
theorem fl_X12_231 : FL "PlanningHouseModel" 231 12 40 (cn_12, ct_12, 95) := ⟨rfl, by decide, (inT8 (List.mem_of_getElem? (i := 151) rfl) rfl)⟩
theorem fl_X12_238 : FL "PlanningHouseModel" 238 12 44 (cn_12, ct_12, 95) := ⟨rfl, by decide, (inT8 (List.mem_of_getElem? (i := 155) rfl) rfl)⟩
theorem fl_X12_241 : FL "PlanningHouseModel" 241 12 43 (cn_12, ct_12, 95) := ⟨rfl, by decide, (inT8 (List.mem_of_getElem? (i := 154) rfl) rfl)⟩
theorem fl_X12_292 : FL "PlanningHouseModel" 292 12 41 (cn_12, ct_12, 95) := ⟨rfl, by decide, (inT8 (List.mem_of_getElem? (i := 152) rfl) rfl)⟩
theorem fl_X12_305 : FL "PlanningHouseModel" 305 12 42 (cn_12, ct_12, 95) := ⟨rfl, by decide, (inT8 (List.mem_of_getElem? (i := 153) rfl) rfl)⟩
theorem fl_X12_311 : FL "PlanningHouseModel" 311 12 45 (cn_12, ct_12, 95) := ⟨rfl, by decide, (inT8 (List.mem_of_getElem? (i := 156) rfl) rfl)⟩
theorem fl_X12_314 : FL "PlanningHouseModel" 314 12 46 (cn_12, ct_12, 95) := ⟨rfl, by decide, (inT8 (List.mem_of_getElem? (i := 157) rfl) rfl)⟩
theorem fl_X12_321 : FL "PlanningHouseModel" 321 12 47 (cn_12, ct_12, 95) := ⟨rfl, by decide, (inT8 (List.mem_of_getElem? (i := 158) rfl) rfl)⟩
theorem fl_X12_334 : FL "PlanningHouseModel" 334 12 48 (cn_12, ct_12, 95) := ⟨rfl, by decide, (inT8 (List.mem_of_getElem? (i := 159) rfl) rfl)⟩
theorem fl_X12_450 : FL "PlanningHouseModel" 450 12 4 (cn_12, ct_12, 95) := ⟨rfl, by decide, (inT8 (List.mem_of_getElem? (i := 115) rfl) rfl)⟩
theorem fl_X12_605 : FL "PlanningHouseModel" 605 12 2 (cn_12, ct_12, 95) := ⟨rfl, by decide, (inT8 (List.mem_of_getElem? (i := 113) rfl) rfl)⟩
theorem fl_X12_612 : FL "PlanningHouseModel" 612 12 69 (cn_12, ct_12, 95) := ⟨rfl, by decide, (inT8 (List.mem_of_getElem? (i := 180) rfl) rfl)⟩
theorem fl_X12_615 : FL "PlanningHouseModel" 615 12 70 (cn_12, ct_12, 95) := ⟨rfl, by decide, (inT8 (List.mem_of_getElem? (i := 181) rfl) rfl)⟩
theorem fl_X12_628 : FL "PlanningHouseModel" 628 12 73 (cn_12, ct_12, 95) := ⟨rfl, by decide, (inT8 (List.mem_of_getElem? (i := 184) rfl) rfl)⟩
theorem fl_X12_646 : FL "PlanningHouseModel" 646 12 76 (cn_12, ct_12, 95) := ⟨rfl, by decide, (inT8 (List.mem_of_getElem? (i := 187) rfl) rfl)⟩
theorem fl_X12_655 : FL "PlanningHouseModel" 655 12 77 (cn_12, ct_12, 95) := ⟨rfl, by decide, (inT8 (List.mem_of_getElem? (i := 188) rfl) rfl)⟩
theorem fl_X12_658 : FL "PlanningHouseModel" 658 12 79 (cn_12, ct_12, 95) := ⟨rfl, by decide, (inT8 (List.mem_of_getElem? (i := 190) rfl) rfl)⟩
theorem fl_X12_708 : FL "PlanningHouseModel" 708 12 89 (cn_12, ct_12, 95) := ⟨rfl, by decide, (inT8 (List.mem_of_getElem? (i := 200) rfl) rfl)⟩
theorem fl_X12_713 : FL "PlanningHouseModel" 713 12 91 (cn_12, ct_12, 95) := ⟨rfl, by decide, (inT8 (List.mem_of_getElem? (i := 202) rfl) rfl)⟩
theorem fl_X12_729 : FL "PlanningHouseModel" 729 12 93 (cn_12, ct_12, 95) := ⟨rfl, by decide, (inT8 (List.mem_of_getElem? (i := 204) rfl) rfl)⟩
theorem ml_X11_3 : Cond.methodLink "PlanningHouse" 3 Lib.objectInit ∈ TB := (inT1 (List.mem_of_getElem? (i := 28) rfl) rfl)
theorem ml_X11_11 : Cond.methodLink "PlanningHouse" 11 ⟨"PlanningHouse$Bytes", "<init>", "()V"⟩ ∈ TB := (inT1 (List.mem_of_getElem? (i := 33) rfl) rfl)
theorem ml_X11_20 : Cond.methodLink "PlanningHouse" 20 ⟨"PlanningHouse$Tokens", "<init>", "()V"⟩ ∈ TB := (inT1 (List.mem_of_getElem? (i := 51) rfl) rfl)
theorem ml_X11_27 : Cond.methodLink "PlanningHouse" 27 ⟨"PlanningHouse$Reader", "<init>", "(LPlanningHouse$Tokens;)V"⟩ ∈ TB := (inT1 (List.mem_of_getElem? (i := 110) rfl) rfl)
theorem ml_X11_42 : Cond.methodLink "PlanningHouse" 42 ⟨"PlanningHouse$Hard", "<init>", "()V"⟩ ∈ TB := (inT1 (List.mem_of_getElem? (i := 152) rfl) rfl)
theorem ml_X11_49 : Cond.methodLink "PlanningHouse" 49 ⟨"PlanningHouse$Search", "<init>", "()V"⟩ ∈ TB := (inT1 (List.mem_of_getElem? (i := 179) rfl) rfl)
theorem ml_X11_56 : Cond.methodLink "PlanningHouse" 56 ⟨"PlanningHouse$Proof", "<init>", "(LPlanningHouse$Tokens;)V"⟩ ∈ TB := (inT1 (List.mem_of_getElem? (i := 232) rfl) rfl)
theorem ml_X11_63 : Cond.methodLink "PlanningHouse" 63 ⟨"PlanningHouse$Store", "<init>", "()V"⟩ ∈ TB := (inT2 (List.mem_of_getElem? (i := 8) rfl) rfl)
theorem ml_X11_87 : Cond.methodLink "PlanningHouse" 87 ⟨"PlanningHouse$Bytes", "addNumber", "(JI)V"⟩ ∈ TB := (inT2 (List.mem_of_getElem? (i := 74) rfl) rfl)
theorem ml_X11_91 : Cond.methodLink "PlanningHouse" 91 ⟨"PlanningHouse$Bytes", "keep", "(I)V"⟩ ∈ TB := (inT2 (List.mem_of_getElem? (i := 109) rfl) rfl)
theorem ml_X11_95 : Cond.methodLink "PlanningHouse" 95 ⟨"PlanningHouse$Bytes", "at", "(I)I"⟩ ∈ TB := (inT2 (List.mem_of_getElem? (i := 117) rfl) rfl)
theorem ml_X11_99 : Cond.methodLink "PlanningHouse" 99 ⟨"PlanningHouse$Bytes", "exchange", "(II)V"⟩ ∈ TB := (inT2 (List.mem_of_getElem? (i := 121) rfl) rfl)
theorem ml_X11_103 : Cond.methodLink "PlanningHouse" 103 ⟨"PlanningHouse", "freeNumber", "()I"⟩ ∈ TB := (inT2 (List.mem_of_getElem? (i := 133) rfl) rfl)
theorem ml_X11_107 : Cond.methodLink "PlanningHouse" 107 ⟨"PlanningHouse", "roomFor", "(I)LPlanningHouse$Problem;"⟩ ∈ TB := (inT2 (List.mem_of_getElem? (i := 137) rfl) rfl)
theorem ml_X11_114 : Cond.methodLink "PlanningHouse" 114 ⟨"PlanningHouse$Bytes", "become", "(LPlanningHouse$Bytes;II)V"⟩ ∈ TB := (inT3 (List.mem_of_getElem? (i := 161) rfl) rfl)
theorem ml_X11_118 : Cond.methodLink "PlanningHouse" 118 ⟨"PlanningHouse$Reader", "read", "(LPlanningHouse$Problem;)Z"⟩ ∈ TB := (inT3 (List.mem_of_getElem? (i := 170) rfl) rfl)
theorem ml_X11_132 : Cond.methodLink "PlanningHouse" 132 ⟨"PlanningHouse", "known", "(I)LPlanningHouse$Problem;"⟩ ∈ TB := (inT5 (List.mem_of_getElem? (i := 48) rfl) rfl)
theorem ml_X11_151 : Cond.methodLink "PlanningHouse" 151 ⟨"PlanningHouse$Space", "agreeing", "(I)I"⟩ ∈ TB := (inT5 (List.mem_of_getElem? (i := 56) rfl) rfl)
theorem ml_X11_163 : Cond.methodLink "PlanningHouse" 163 ⟨"java/lang/Integer", "bitCount", "(I)I"⟩ ∈ TB := (inT5 (List.mem_of_getElem? (i := 60) rfl) rfl)
theorem ml_X11_171 : Cond.methodLink "PlanningHouse" 171 ⟨"PlanningHouse$Tokens", "scan", "(LPlanningHouse$Bytes;)V"⟩ ∈ TB := (inT5 (List.mem_of_getElem? (i := 65) rfl) rfl)
theorem ml_X11_187 : Cond.methodLink "PlanningHouse" 187 ⟨"PlanningHouse$Problem", "lookUp", "(J)I"⟩ ∈ TB := (inT5 (List.mem_of_getElem? (i := 66) rfl) rfl)
theorem ml_X11_195 : Cond.methodLink "PlanningHouse" 195 ⟨"PlanningHouse", "letterOf", "(JI)I"⟩ ∈ TB := (inT5 (List.mem_of_getElem? (i := 71) rfl) rfl)
theorem ml_X11_209 : Cond.methodLink "PlanningHouse" 209 ⟨"PlanningHouse$Space", "isVar", "(I)Z"⟩ ∈ TB := (inT5 (List.mem_of_getElem? (i := 87) rfl) rfl)
theorem ml_X11_220 : Cond.methodLink "PlanningHouse" 220 ⟨"PlanningHouse$Problem", "isRule", "(I)Z"⟩ ∈ TB := (inT5 (List.mem_of_getElem? (i := 96) rfl) rfl)
theorem ml_X11_236 : Cond.methodLink "PlanningHouse" 236 ⟨"PlanningHouse$Table", "renew", "(LPlanningHouse$Problem;)V"⟩ ∈ TB := (inT5 (List.mem_of_getElem? (i := 100) rfl) rfl)
theorem ml_X11_245 : Cond.methodLink "PlanningHouse" 245 ⟨"PlanningHouse$Problem", "isFact", "(I)Z"⟩ ∈ TB := (inT5 (List.mem_of_getElem? (i := 208) rfl) rfl)
theorem ml_X11_257 : Cond.methodLink "PlanningHouse" 257 ⟨"PlanningHouse$Space", "valueOf", "(II)I"⟩ ∈ TB := (inT5 (List.mem_of_getElem? (i := 220) rfl) rfl)
theorem ml_X11_261 : Cond.methodLink "PlanningHouse" 261 ⟨"PlanningHouse$Space", "placeOfValue", "(II)I"⟩ ∈ TB := (inT5 (List.mem_of_getElem? (i := 225) rfl) rfl)
theorem ml_X11_264 : Cond.methodLink "PlanningHouse" 264 ⟨"PlanningHouse$Space", "moved", "(III)I"⟩ ∈ TB := (inT5 (List.mem_of_getElem? (i := 229) rfl) rfl)
theorem ml_X11_271 : Cond.methodLink "PlanningHouse" 271 ⟨"PlanningHouse$Judge", "look", "(LPlanningHouse$Space;I)V"⟩ ∈ TB := (inT6 (List.mem_of_getElem? (i := 9) rfl) rfl)
theorem ml_X11_275 : Cond.methodLink "PlanningHouse" 275 ⟨"PlanningHouse$Judge", "run", "(I[I)I"⟩ ∈ TB := (inT6 (List.mem_of_getElem? (i := 10) rfl) rfl)
theorem ml_X11_279 : Cond.methodLink "PlanningHouse" 279 ⟨"PlanningHouse", "isLevel", "(I)Z"⟩ ∈ TB := (inT6 (List.mem_of_getElem? (i := 19) rfl) rfl)
theorem ml_X11_285 : Cond.methodLink "PlanningHouse" 285 ⟨"PlanningHouse$Judge", "weighAll", "(LPlanningHouse$Space;I[I[JI)I"⟩ ∈ TB := (inT6 (List.mem_of_getElem? (i := 22) rfl) rfl)
theorem ml_X11_289 : Cond.methodLink "PlanningHouse" 289 ⟨"PlanningHouse", "scored", "(I)LPlanningHouse$Problem;"⟩ ∈ TB := (inT6 (List.mem_of_getElem? (i := 31) rfl) rfl)
theorem ml_X11_292 : Cond.methodLink "PlanningHouse" 292 ⟨"PlanningHouse$Hard", "workOut", "(LPlanningHouse$Problem;)I"⟩ ∈ TB := (inT6 (List.mem_of_getElem? (i := 35) rfl) rfl)
theorem ml_X11_299 : Cond.methodLink "PlanningHouse" 299 ⟨"PlanningHouse$Hard", "alwaysBroken", "(LPlanningHouse$Problem;)I"⟩ ∈ TB := (inT6 (List.mem_of_getElem? (i := 78) rfl) rfl)
theorem ml_X11_302 : Cond.methodLink "PlanningHouse" 302 ⟨"PlanningHouse$Table", "gatherFor", "(LPlanningHouse$Problem;Z)I"⟩ ∈ TB := (inT6 (List.mem_of_getElem? (i := 90) rfl) rfl)
theorem ml_X11_309 : Cond.methodLink "PlanningHouse" 309 ⟨"PlanningHouse$Problem", "moveTo", "(I)Z"⟩ ∈ TB := (inT6 (List.mem_of_getElem? (i := 113) rfl) rfl)
theorem ml_X11_312 : Cond.methodLink "PlanningHouse" 312 ⟨"PlanningHouse$Table", "scoreOf", "(II)J"⟩ ∈ TB := (inT6 (List.mem_of_getElem? (i := 121) rfl) rfl)
theorem ml_X11_316 : Cond.methodLink "PlanningHouse" 316 ⟨"PlanningHouse$Table", "keepValue", "(LPlanningHouse$Space;II)I"⟩ ∈ TB := (inT6 (List.mem_of_getElem? (i := 142) rfl) rfl)
theorem ml_X11_320 : Cond.methodLink "PlanningHouse" 320 ⟨"PlanningHouse", "show", "(JJ)V"⟩ ∈ TB := (inT6 (List.mem_of_getElem? (i := 147) rfl) rfl)
theorem ml_X11_324 : Cond.methodLink "PlanningHouse" 324 ⟨"PlanningHouse$Table", "differentValues", "(LPlanningHouse$Space;I)I"⟩ ∈ TB := (inT6 (List.mem_of_getElem? (i := 156) rfl) rfl)
theorem ml_X11_328 : Cond.methodLink "PlanningHouse" 328 ⟨"PlanningHouse$Table", "gather", "(LPlanningHouse$Problem;I)I"⟩ ∈ TB := (inT6 (List.mem_of_getElem? (i := 165) rfl) rfl)
theorem ml_X11_332 : Cond.methodLink "PlanningHouse" 332 ⟨"PlanningHouse$Table", "keepBest", "()I"⟩ ∈ TB := (inT6 (List.mem_of_getElem? (i := 166) rfl) rfl)
theorem ml_X11_335 : Cond.methodLink "PlanningHouse" 335 ⟨"PlanningHouse$Table", "walkFront", "(LPlanningHouse$Problem;I)I"⟩ ∈ TB := (inT6 (List.mem_of_getElem? (i := 171) rfl) rfl)
theorem ml_X11_344 : Cond.methodLink "PlanningHouse" 344 ⟨"PlanningHouse$Problem", "costTo", "(I)I"⟩ ∈ TB := (inT6 (List.mem_of_getElem? (i := 204) rfl) rfl)
theorem ml_X11_350 : Cond.methodLink "PlanningHouse" 350 ⟨"PlanningHouse$Hard", "narrowed", "(LPlanningHouse$Problem;)I"⟩ ∈ TB := (inT6 (List.mem_of_getElem? (i := 213) rfl) rfl)
theorem ml_X11_353 : Cond.methodLink "PlanningHouse" 353 ⟨"PlanningHouse$Hard", "smallest", "(LPlanningHouse$Problem;)I"⟩ ∈ TB := (inT6 (List.mem_of_getElem? (i := 237) rfl) rfl)
theorem ml_X11_356 : Cond.methodLink "PlanningHouse" 356 ⟨"PlanningHouse$Hard", "cheapest", "(LPlanningHouse$Problem;)I"⟩ ∈ TB := (inT7 (List.mem_of_getElem? (i := 5) rfl) rfl)
theorem ml_X11_359 : Cond.methodLink "PlanningHouse" 359 ⟨"PlanningHouse$Problem", "bestLacking", "(I)Z"⟩ ∈ TB := (inT7 (List.mem_of_getElem? (i := 18) rfl) rfl)
theorem ml_X11_365 : Cond.methodLink "PlanningHouse" 365 ⟨"PlanningHouse$Problem", "firstBestWith", "(II)I"⟩ ∈ TB := (inT7 (List.mem_of_getElem? (i := 36) rfl) rfl)
theorem ml_X11_368 : Cond.methodLink "PlanningHouse" 368 ⟨"PlanningHouse$Problem", "firstWorseRule", "(II)I"⟩ ∈ TB := (inT7 (List.mem_of_getElem? (i := 48) rfl) rfl)
theorem ml_X11_371 : Cond.methodLink "PlanningHouse" 371 ⟨"PlanningHouse$Problem", "addFuture", "(I)I"⟩ ∈ TB := (inT7 (List.mem_of_getElem? (i := 56) rfl) rfl)
theorem ml_X11_380 : Cond.methodLink "PlanningHouse" 380 ⟨"PlanningHouse$Problem", "mostRobust", "()I"⟩ ∈ TB := (inT7 (List.mem_of_getElem? (i := 73) rfl) rfl)
theorem ml_X11_383 : Cond.methodLink "PlanningHouse" 383 ⟨"PlanningHouse$Problem", "sumOverFutures", "(I)Z"⟩ ∈ TB := (inT7 (List.mem_of_getElem? (i := 93) rfl) rfl)
theorem ml_X11_386 : Cond.methodLink "PlanningHouse" 386 ⟨"PlanningHouse$Problem", "allOdds", "()I"⟩ ∈ TB := (inT7 (List.mem_of_getElem? (i := 94) rfl) rfl)
theorem ml_X11_398 : Cond.methodLink "PlanningHouse" 398 ⟨"PlanningHouse$Search", "mayBe", "(II)Z"⟩ ∈ TB := (inT7 (List.mem_of_getElem? (i := 112) rfl) rfl)
theorem ml_X11_402 : Cond.methodLink "PlanningHouse" 402 ⟨"PlanningHouse$Search", "seek", "(LPlanningHouse$Problem;IIII)I"⟩ ∈ TB := (inT7 (List.mem_of_getElem? (i := 115) rfl) rfl)
theorem ml_X11_418 : Cond.methodLink "PlanningHouse" 418 ⟨"PlanningHouse$Proof", "isRight", "(LPlanningHouse$Problem;LPlanningHouse$Bytes;)Z"⟩ ∈ TB := (inT7 (List.mem_of_getElem? (i := 163) rfl) rfl)
theorem ml_X11_422 : Cond.methodLink "PlanningHouse" 422 ⟨"PlanningHouse$Table", "beatsHand", "(LPlanningHouse$Problem;)Z"⟩ ∈ TB := (inT7 (List.mem_of_getElem? (i := 213) rfl) rfl)
theorem ml_X11_425 : Cond.methodLink "PlanningHouse" 425 ⟨"PlanningHouse$Proof", "fits", "(LPlanningHouse$Problem;)Z"⟩ ∈ TB := (inT7 (List.mem_of_getElem? (i := 217) rfl) rfl)
theorem ml_X11_428 : Cond.methodLink "PlanningHouse" 428 ⟨"PlanningHouse$Proof", "write", "(LPlanningHouse$Problem;LPlanningHouse$Bytes;)V"⟩ ∈ TB := (inT7 (List.mem_of_getElem? (i := 222) rfl) rfl)
theorem ml_X11_432 : Cond.methodLink "PlanningHouse" 432 ⟨"PlanningHouse$Store", "add", "(LPlanningHouse$Problem;)I"⟩ ∈ TB := (inT8 (List.mem_of_getElem? (i := 4) rfl) rfl)
theorem ml_X11_435 : Cond.methodLink "PlanningHouse" 435 ⟨"PlanningHouse$Store", "start", "(I)I"⟩ ∈ TB := (inT8 (List.mem_of_getElem? (i := 30) rfl) rfl)
theorem ml_X11_441 : Cond.methodLink "PlanningHouse" 441 ⟨"PlanningHouse$Store", "textLength", "(LPlanningHouse$Bytes;I)I"⟩ ∈ TB := (inT8 (List.mem_of_getElem? (i := 34) rfl) rfl)
theorem ml_X11_445 : Cond.methodLink "PlanningHouse" 445 ⟨"PlanningHouse$Store", "restore", "(LPlanningHouse$Bytes;ILPlanningHouse$Problem;)Z"⟩ ∈ TB := (inT8 (List.mem_of_getElem? (i := 43) rfl) rfl)
theorem ml_X11_450 : Cond.methodLink "PlanningHouse" 450 ⟨"PlanningHouse$Store", "lose", "(I)I"⟩ ∈ TB := (inT8 (List.mem_of_getElem? (i := 65) rfl) rfl)
theorem ml_X11_453 : Cond.methodLink "PlanningHouse" 453 ⟨"PlanningHouse$Store", "export", "(LPlanningHouse$Bytes;)V"⟩ ∈ TB := (inT8 (List.mem_of_getElem? (i := 74) rfl) rfl)
theorem ml_X11_456 : Cond.methodLink "PlanningHouse" 456 ⟨"PlanningHouse$Store", "announced", "(LPlanningHouse$Bytes;)I"⟩ ∈ TB := (inT8 (List.mem_of_getElem? (i := 82) rfl) rfl)
theorem ml_X11_460 : Cond.methodLink "PlanningHouse" 460 ⟨"PlanningHouse$Problem", "<init>", "()V"⟩ ∈ TB := (inT2 (List.mem_of_getElem? (i := 142) rfl) rfl)
theorem ml_X0_3 : Cond.methodLink "PlanningHouse$Bytes" 3 Lib.objectInit ∈ TB := (inT1 (List.mem_of_getElem? (i := 36) rfl) rfl)
theorem ml_X0_19 : Cond.methodLink "PlanningHouse$Bytes" 19 ⟨"PlanningHouse$Bytes", "makeRoom", "(I)V"⟩ ∈ TB := (inT2 (List.mem_of_getElem? (i := 82) rfl) rfl)
theorem ml_X0_23 : Cond.methodLink "PlanningHouse$Bytes" 23 ⟨"PlanningHouse$Bytes", "add", "(I)V"⟩ ∈ TB := (inT2 (List.mem_of_getElem? (i := 78) rfl) rfl)
theorem ml_X0_26 : Cond.methodLink "PlanningHouse$Bytes" 26 arraycopyName ∈ TB := (inT3 (List.mem_of_getElem? (i := 169) rfl) rfl)
theorem ml_X0_32 : Cond.methodLink "PlanningHouse$Bytes" 32 ⟨"PlanningHouse$Bytes", "addAll", "(LPlanningHouse$Bytes;II)V"⟩ ∈ TB := (inT3 (List.mem_of_getElem? (i := 165) rfl) rfl)
theorem ml_X0_36 : Cond.methodLink "PlanningHouse$Bytes" 36 ⟨"PlanningHouse$Bytes", "at", "(I)I"⟩ ∈ TB := (inT8 (List.mem_of_getElem? (i := 24) rfl) rfl)
theorem ml_X0_42 : Cond.methodLink "PlanningHouse$Bytes" 42 Lib.Math.max.name ∈ TB := (inT2 (List.mem_of_getElem? (i := 86) rfl) rfl)
theorem ml_X0_48 : Cond.methodLink "PlanningHouse$Bytes" 48 ⟨"java/util/Arrays", "copyOf", "([BI)[B"⟩ ∈ TB := (inT2 (List.mem_of_getElem? (i := 89) rfl) rfl)
theorem ml_X1_3 : Cond.methodLink "PlanningHouse$Hard" 3 Lib.objectInit ∈ TB := (inT1 (List.mem_of_getElem? (i := 155) rfl) rfl)
theorem ml_X2_3 : Cond.methodLink "PlanningHouse$Judge" 3 Lib.objectInit ∈ TB := (inT2 (List.mem_of_getElem? (i := 193) rfl) rfl)
theorem ml_X3_3 : Cond.methodLink "PlanningHouse$Problem" 3 Lib.objectInit ∈ TB := (inT2 (List.mem_of_getElem? (i := 145) rfl) rfl)
theorem ml_X3_17 : Cond.methodLink "PlanningHouse$Problem" 17 ⟨"PlanningHouse$Bytes", "<init>", "()V"⟩ ∈ TB := (inT2 (List.mem_of_getElem? (i := 147) rfl) rfl)
theorem ml_X3_32 : Cond.methodLink "PlanningHouse$Problem" 32 ⟨"PlanningHouse$Space", "<init>", "()V"⟩ ∈ TB := (inT2 (List.mem_of_getElem? (i := 150) rfl) rfl)
theorem ml_X3_39 : Cond.methodLink "PlanningHouse$Problem" 39 ⟨"PlanningHouse$Judge", "<init>", "()V"⟩ ∈ TB := (inT2 (List.mem_of_getElem? (i := 190) rfl) rfl)
theorem ml_X3_46 : Cond.methodLink "PlanningHouse$Problem" 46 ⟨"PlanningHouse$Table", "<init>", "()V"⟩ ∈ TB := (inT3 (List.mem_of_getElem? (i := 17) rfl) rfl)
theorem ml_X3_88 : Cond.methodLink "PlanningHouse$Problem" 88 ⟨"java/util/Arrays", "fill", "([II)V"⟩ ∈ TB := (inT3 (List.mem_of_getElem? (i := 178) rfl) rfl)
theorem ml_X3_94 : Cond.methodLink "PlanningHouse$Problem" 94 ⟨"PlanningHouse$Space", "clear", "()V"⟩ ∈ TB := (inT3 (List.mem_of_getElem? (i := 181) rfl) rfl)
theorem ml_X3_97 : Cond.methodLink "PlanningHouse$Problem" 97 ⟨"PlanningHouse$Judge", "clear", "()V"⟩ ∈ TB := (inT3 (List.mem_of_getElem? (i := 185) rfl) rfl)
theorem ml_X4_3 : Cond.methodLink "PlanningHouse$Proof" 3 Lib.objectInit ∈ TB := (inT1 (List.mem_of_getElem? (i := 235) rfl) rfl)
theorem ml_X5_3 : Cond.methodLink "PlanningHouse$Reader" 3 Lib.objectInit ∈ TB := (inT1 (List.mem_of_getElem? (i := 113) rfl) rfl)
theorem ml_X5_53 : Cond.methodLink "PlanningHouse$Reader" 53 ⟨"PlanningHouse$Problem", "clear", "()V"⟩ ∈ TB := (inT3 (List.mem_of_getElem? (i := 174) rfl) rfl)
theorem ml_X5_60 : Cond.methodLink "PlanningHouse$Reader" 60 ⟨"PlanningHouse$Tokens", "scan", "(LPlanningHouse$Bytes;)V"⟩ ∈ TB := (inT3 (List.mem_of_getElem? (i := 189) rfl) rfl)
theorem ml_X5_74 : Cond.methodLink "PlanningHouse$Reader" 74 ⟨"PlanningHouse$Reader", "isWhole", "()Z"⟩ ∈ TB := (inT4 (List.mem_of_getElem? (i := 86) rfl) rfl)
theorem ml_X5_78 : Cond.methodLink "PlanningHouse$Reader" 78 ⟨"PlanningHouse$Tokens", "is", "(I)Z"⟩ ∈ TB := (inT4 (List.mem_of_getElem? (i := 95) rfl) rfl)
theorem ml_X5_82 : Cond.methodLink "PlanningHouse$Reader" 82 ⟨"PlanningHouse$Reader", "factStatement", "()Z"⟩ ∈ TB := (inT4 (List.mem_of_getElem? (i := 99) rfl) rfl)
theorem ml_X5_85 : Cond.methodLink "PlanningHouse$Reader" 85 ⟨"PlanningHouse$Reader", "varStatement", "()Z"⟩ ∈ TB := (inT4 (List.mem_of_getElem? (i := 129) rfl) rfl)
theorem ml_X5_88 : Cond.methodLink "PlanningHouse$Reader" 88 ⟨"PlanningHouse$Reader", "ruleStatement", "()Z"⟩ ∈ TB := (inT4 (List.mem_of_getElem? (i := 145) rfl) rfl)
theorem ml_X5_91 : Cond.methodLink "PlanningHouse$Reader" 91 ⟨"PlanningHouse$Reader", "aimStatement", "()Z"⟩ ∈ TB := (inT5 (List.mem_of_getElem? (i := 36) rfl) rfl)
theorem ml_X5_94 : Cond.methodLink "PlanningHouse$Reader" 94 ⟨"PlanningHouse$Tokens", "refuse", "()Z"⟩ ∈ TB := (inT4 (List.mem_of_getElem? (i := 108) rfl) rfl)
theorem ml_X6_3 : Cond.methodLink "PlanningHouse$Search" 3 Lib.objectInit ∈ TB := (inT1 (List.mem_of_getElem? (i := 182) rfl) rfl)
theorem ml_X7_3 : Cond.methodLink "PlanningHouse$Space" 3 Lib.objectInit ∈ TB := (inT2 (List.mem_of_getElem? (i := 153) rfl) rfl)
theorem ml_X8_5 : Cond.methodLink "PlanningHouse$Store" 5 Lib.objectInit ∈ TB := (inT2 (List.mem_of_getElem? (i := 11) rfl) rfl)
theorem ml_X8_13 : Cond.methodLink "PlanningHouse$Store" 13 ⟨"PlanningHouse$Bytes", "<init>", "()V"⟩ ∈ TB := (inT2 (List.mem_of_getElem? (i := 13) rfl) rfl)
theorem ml_X8_53 : Cond.methodLink "PlanningHouse$Store" 53 ⟨"PlanningHouse$Bytes", "addNumber", "(JI)V"⟩ ∈ TB := (inT8 (List.mem_of_getElem? (i := 17) rfl) rfl)
theorem ml_X8_57 : Cond.methodLink "PlanningHouse$Store" 57 ⟨"PlanningHouse$Bytes", "addAll", "(LPlanningHouse$Bytes;II)V"⟩ ∈ TB := (inT8 (List.mem_of_getElem? (i := 18) rfl) rfl)
theorem ml_X8_89 : Cond.methodLink "PlanningHouse$Store" 89 ⟨"PlanningHouse$Bytes", "sum", "(II)J"⟩ ∈ TB := (inT8 (List.mem_of_getElem? (i := 20) rfl) rfl)
theorem ml_X8_97 : Cond.methodLink "PlanningHouse$Store" 97 ⟨"PlanningHouse$Bytes", "number", "(II)J"⟩ ∈ TB := (inT8 (List.mem_of_getElem? (i := 39) rfl) rfl)
theorem ml_X8_111 : Cond.methodLink "PlanningHouse$Store" 111 ⟨"PlanningHouse$Bytes", "keep", "(I)V"⟩ ∈ TB := (inT8 (List.mem_of_getElem? (i := 69) rfl) rfl)
theorem ml_X9_3 : Cond.methodLink "PlanningHouse$Table" 3 Lib.objectInit ∈ TB := (inT3 (List.mem_of_getElem? (i := 20) rfl) rfl)
theorem ml_X10_3 : Cond.methodLink "PlanningHouse$Tokens" 3 Lib.objectInit ∈ TB := (inT1 (List.mem_of_getElem? (i := 54) rfl) rfl)
theorem ml_X10_56 : Cond.methodLink "PlanningHouse$Tokens" 56 ⟨"PlanningHouse$Tokens", "afterBlanks", "(LPlanningHouse$Bytes;I)I"⟩ ∈ TB := (inT3 (List.mem_of_getElem? (i := 193) rfl) rfl)
theorem ml_X10_60 : Cond.methodLink "PlanningHouse$Tokens" 60 ⟨"PlanningHouse$Bytes", "at", "(I)I"⟩ ∈ TB := (inT3 (List.mem_of_getElem? (i := 196) rfl) rfl)
theorem ml_X10_64 : Cond.methodLink "PlanningHouse$Tokens" 64 ⟨"PlanningHouse$Tokens", "isLetter", "(I)Z"⟩ ∈ TB := (inT3 (List.mem_of_getElem? (i := 197) rfl) rfl)
theorem ml_X10_68 : Cond.methodLink "PlanningHouse$Tokens" 68 ⟨"PlanningHouse$Tokens", "readName", "(LPlanningHouse$Bytes;I)I"⟩ ∈ TB := (inT3 (List.mem_of_getElem? (i := 200) rfl) rfl)
theorem ml_X10_71 : Cond.methodLink "PlanningHouse$Tokens" 71 ⟨"PlanningHouse$Tokens", "isFigure", "(I)Z"⟩ ∈ TB := (inT3 (List.mem_of_getElem? (i := 204) rfl) rfl)
theorem ml_X10_74 : Cond.methodLink "PlanningHouse$Tokens" 74 ⟨"PlanningHouse$Tokens", "readNumber", "(LPlanningHouse$Bytes;I)I"⟩ ∈ TB := (inT3 (List.mem_of_getElem? (i := 229) rfl) rfl)
theorem ml_X10_77 : Cond.methodLink "PlanningHouse$Tokens" 77 ⟨"PlanningHouse$Tokens", "readSign", "(LPlanningHouse$Bytes;I)I"⟩ ∈ TB := (inT3 (List.mem_of_getElem? (i := 235) rfl) rfl)
theorem ml_X10_80 : Cond.methodLink "PlanningHouse$Tokens" 80 ⟨"PlanningHouse$Tokens", "write", "(IJII)I"⟩ ∈ TB := (inT3 (List.mem_of_getElem? (i := 207) rfl) rfl)
theorem ml_X10_84 : Cond.methodLink "PlanningHouse$Tokens" 84 ⟨"PlanningHouse$Tokens", "step", "()V"⟩ ∈ TB := (inT4 (List.mem_of_getElem? (i := 82) rfl) rfl)
theorem ml_X10_105 : Cond.methodLink "PlanningHouse$Tokens" 105 ⟨"java/util/Arrays", "copyOf", "([II)[I"⟩ ∈ TB := (inT3 (List.mem_of_getElem? (i := 211) rfl) rfl)
theorem ml_X10_111 : Cond.methodLink "PlanningHouse$Tokens" 111 ⟨"java/util/Arrays", "copyOf", "([JI)[J"⟩ ∈ TB := (inT3 (List.mem_of_getElem? (i := 219) rfl) rfl)
theorem ml_L_9 : Cond.methodLink "PlanningHouseLaw" 9 ⟨"PlanningHouse", "<init>", "()V"⟩ ∈ TB := (inT1 (List.mem_of_getElem? (i := 25) rfl) rfl)
theorem ml_L_12 : Cond.methodLink "PlanningHouseLaw" 12 ⟨"PlanningHouseModel", "<init>", "()V"⟩ ∈ TB := (inT8 (List.mem_of_getElem? (i := 102) rfl) rfl)
theorem ml_L_15 : Cond.methodLink "PlanningHouseLaw" 15 ⟨"PlanningHouse", "type", "(JI)I"⟩ ∈ TB := (inT2 (List.mem_of_getElem? (i := 69) rfl) rfl)
theorem ml_L_19 : Cond.methodLink "PlanningHouseLaw" 19 ⟨"PlanningHouseModel", "type", "(JI)I"⟩ ∈ TB := (inT9 (List.mem_of_getElem? (i := 157) rfl) rfl)
theorem ml_L_20 : Cond.methodLink "PlanningHouseLaw" 20 ⟨"PlanningHouse", "cut", "(I)I"⟩ ∈ TB := (inT2 (List.mem_of_getElem? (i := 105) rfl) rfl)
theorem ml_L_24 : Cond.methodLink "PlanningHouseLaw" 24 ⟨"PlanningHouseModel", "cut", "(I)I"⟩ ∈ TB := (inT9 (List.mem_of_getElem? (i := 162) rfl) rfl)
theorem ml_L_25 : Cond.methodLink "PlanningHouseLaw" 25 ⟨"PlanningHouse", "spoil", "(II)I"⟩ ∈ TB := (inT2 (List.mem_of_getElem? (i := 113) rfl) rfl)
theorem ml_L_29 : Cond.methodLink "PlanningHouseLaw" 29 ⟨"PlanningHouseModel", "spoil", "(II)I"⟩ ∈ TB := (inT9 (List.mem_of_getElem? (i := 166) rfl) rfl)
theorem ml_L_30 : Cond.methodLink "PlanningHouseLaw" 30 ⟨"PlanningHouse", "tapeAt", "(I)I"⟩ ∈ TB := (inT2 (List.mem_of_getElem? (i := 125) rfl) rfl)
theorem ml_L_33 : Cond.methodLink "PlanningHouseLaw" 33 ⟨"PlanningHouseModel", "tapeAt", "(I)I"⟩ ∈ TB := (inT9 (List.mem_of_getElem? (i := 170) rfl) rfl)
theorem ml_L_34 : Cond.methodLink "PlanningHouseLaw" 34 ⟨"PlanningHouse", "problem", "()I"⟩ ∈ TB := (inT2 (List.mem_of_getElem? (i := 129) rfl) rfl)
theorem ml_L_38 : Cond.methodLink "PlanningHouseLaw" 38 ⟨"PlanningHouseModel", "problem", "()I"⟩ ∈ TB := (inT9 (List.mem_of_getElem? (i := 174) rfl) rfl)
theorem ml_L_39 : Cond.methodLink "PlanningHouseLaw" 39 ⟨"PlanningHouse", "fault", "()I"⟩ ∈ TB := (inT5 (List.mem_of_getElem? (i := 40) rfl) rfl)
theorem ml_L_42 : Cond.methodLink "PlanningHouseLaw" 42 ⟨"PlanningHouseModel", "fault", "()I"⟩ ∈ TB := (inT10 (List.mem_of_getElem? (i := 131) rfl) rfl)
theorem ml_L_43 : Cond.methodLink "PlanningHouseLaw" 43 ⟨"PlanningHouse", "drop", "(I)Z"⟩ ∈ TB := (inT5 (List.mem_of_getElem? (i := 44) rfl) rfl)
theorem ml_L_47 : Cond.methodLink "PlanningHouseLaw" 47 ⟨"PlanningHouseModel", "drop", "(I)Z"⟩ ∈ TB := (inT10 (List.mem_of_getElem? (i := 135) rfl) rfl)
theorem ml_L_48 : Cond.methodLink "PlanningHouseLaw" 48 ⟨"PlanningHouse", "count", "(II)I"⟩ ∈ TB := (inT5 (List.mem_of_getElem? (i := 52) rfl) rfl)
theorem ml_L_51 : Cond.methodLink "PlanningHouseLaw" 51 ⟨"PlanningHouseModel", "count", "(II)I"⟩ ∈ TB := (inT10 (List.mem_of_getElem? (i := 143) rfl) rfl)
theorem ml_L_52 : Cond.methodLink "PlanningHouseLaw" 52 ⟨"PlanningHouse", "find", "(I)I"⟩ ∈ TB := (inT5 (List.mem_of_getElem? (i := 61) rfl) rfl)
theorem ml_L_55 : Cond.methodLink "PlanningHouseLaw" 55 ⟨"PlanningHouseModel", "find", "(I)I"⟩ ∈ TB := (inT10 (List.mem_of_getElem? (i := 151) rfl) rfl)
theorem ml_L_56 : Cond.methodLink "PlanningHouseLaw" 56 ⟨"PlanningHouse", "letter", "(IIII)I"⟩ ∈ TB := (inT5 (List.mem_of_getElem? (i := 67) rfl) rfl)
theorem ml_L_60 : Cond.methodLink "PlanningHouseLaw" 60 ⟨"PlanningHouseModel", "letter", "(IIII)I"⟩ ∈ TB := (inT10 (List.mem_of_getElem? (i := 155) rfl) rfl)
theorem ml_L_61 : Cond.methodLink "PlanningHouseLaw" 61 ⟨"PlanningHouse", "shown", "(III)I"⟩ ∈ TB := (inT5 (List.mem_of_getElem? (i := 77) rfl) rfl)
theorem ml_L_65 : Cond.methodLink "PlanningHouseLaw" 65 ⟨"PlanningHouseModel", "shown", "(III)I"⟩ ∈ TB := (inT10 (List.mem_of_getElem? (i := 159) rfl) rfl)
theorem ml_L_66 : Cond.methodLink "PlanningHouseLaw" 66 ⟨"PlanningHouse", "range", "(III)J"⟩ ∈ TB := (inT5 (List.mem_of_getElem? (i := 83) rfl) rfl)
theorem ml_L_70 : Cond.methodLink "PlanningHouseLaw" 70 ⟨"PlanningHouseModel", "range", "(III)J"⟩ ∈ TB := (inT10 (List.mem_of_getElem? (i := 163) rfl) rfl)
theorem ml_L_71 : Cond.methodLink "PlanningHouseLaw" 71 ⟨"PlanningHouse", "rule", "(III)I"⟩ ∈ TB := (inT5 (List.mem_of_getElem? (i := 92) rfl) rfl)
theorem ml_L_74 : Cond.methodLink "PlanningHouseLaw" 74 ⟨"PlanningHouseModel", "rule", "(III)I"⟩ ∈ TB := (inT10 (List.mem_of_getElem? (i := 172) rfl) rfl)
theorem ml_L_75 : Cond.methodLink "PlanningHouseLaw" 75 ⟨"PlanningHouse", "fact", "(II)J"⟩ ∈ TB := (inT5 (List.mem_of_getElem? (i := 204) rfl) rfl)
theorem ml_L_79 : Cond.methodLink "PlanningHouseLaw" 79 ⟨"PlanningHouseModel", "fact", "(II)J"⟩ ∈ TB := (inT11 (List.mem_of_getElem? (i := 45) rfl) rfl)
theorem ml_L_80 : Cond.methodLink "PlanningHouseLaw" 80 ⟨"PlanningHouse", "change", "(III)Z"⟩ ∈ TB := (inT5 (List.mem_of_getElem? (i := 212) rfl) rfl)
theorem ml_L_84 : Cond.methodLink "PlanningHouseLaw" 84 ⟨"PlanningHouseModel", "change", "(III)Z"⟩ ∈ TB := (inT11 (List.mem_of_getElem? (i := 53) rfl) rfl)
theorem ml_L_85 : Cond.methodLink "PlanningHouseLaw" 85 ⟨"PlanningHouse", "value", "(II)J"⟩ ∈ TB := (inT5 (List.mem_of_getElem? (i := 216) rfl) rfl)
theorem ml_L_88 : Cond.methodLink "PlanningHouseLaw" 88 ⟨"PlanningHouseModel", "value", "(II)J"⟩ ∈ TB := (inT11 (List.mem_of_getElem? (i := 57) rfl) rfl)
theorem ml_L_89 : Cond.methodLink "PlanningHouseLaw" 89 ⟨"PlanningHouse", "put", "(III)Z"⟩ ∈ TB := (inT5 (List.mem_of_getElem? (i := 221) rfl) rfl)
theorem ml_L_92 : Cond.methodLink "PlanningHouseLaw" 92 ⟨"PlanningHouseModel", "put", "(III)Z"⟩ ∈ TB := (inT11 (List.mem_of_getElem? (i := 61) rfl) rfl)
theorem ml_L_93 : Cond.methodLink "PlanningHouseLaw" 93 ⟨"PlanningHouse", "pin", "(IIZ)Z"⟩ ∈ TB := (inT5 (List.mem_of_getElem? (i := 237) rfl) rfl)
theorem ml_L_97 : Cond.methodLink "PlanningHouseLaw" 97 ⟨"PlanningHouseModel", "pin", "(IIZ)Z"⟩ ∈ TB := (inT11 (List.mem_of_getElem? (i := 69) rfl) rfl)
theorem ml_L_98 : Cond.methodLink "PlanningHouseLaw" 98 ⟨"PlanningHouse", "weigh", "(III)I"⟩ ∈ TB := (inT6 (List.mem_of_getElem? (i := 1) rfl) rfl)
theorem ml_L_101 : Cond.methodLink "PlanningHouseLaw" 101 ⟨"PlanningHouseModel", "weigh", "(III)I"⟩ ∈ TB := (inT11 (List.mem_of_getElem? (i := 73) rfl) rfl)
theorem ml_L_102 : Cond.methodLink "PlanningHouseLaw" 102 ⟨"PlanningHouse", "broken", "(II)I"⟩ ∈ TB := (inT6 (List.mem_of_getElem? (i := 5) rfl) rfl)
theorem ml_L_105 : Cond.methodLink "PlanningHouseLaw" 105 ⟨"PlanningHouseModel", "broken", "(II)I"⟩ ∈ TB := (inT11 (List.mem_of_getElem? (i := 77) rfl) rfl)
theorem ml_L_106 : Cond.methodLink "PlanningHouseLaw" 106 ⟨"PlanningHouse", "aim", "(II)J"⟩ ∈ TB := (inT6 (List.mem_of_getElem? (i := 11) rfl) rfl)
theorem ml_L_109 : Cond.methodLink "PlanningHouseLaw" 109 ⟨"PlanningHouseModel", "aim", "(II)J"⟩ ∈ TB := (inT11 (List.mem_of_getElem? (i := 85) rfl) rfl)
theorem ml_L_110 : Cond.methodLink "PlanningHouseLaw" 110 ⟨"PlanningHouse", "score", "(II)J"⟩ ∈ TB := (inT6 (List.mem_of_getElem? (i := 15) rfl) rfl)
theorem ml_L_113 : Cond.methodLink "PlanningHouseLaw" 113 ⟨"PlanningHouseModel", "score", "(II)J"⟩ ∈ TB := (inT11 (List.mem_of_getElem? (i := 89) rfl) rfl)
theorem ml_L_114 : Cond.methodLink "PlanningHouseLaw" 114 ⟨"PlanningHouse", "feasible", "(I)Z"⟩ ∈ TB := (inT6 (List.mem_of_getElem? (i := 23) rfl) rfl)
theorem ml_L_117 : Cond.methodLink "PlanningHouseLaw" 117 ⟨"PlanningHouseModel", "feasible", "(I)Z"⟩ ∈ TB := (inT11 (List.mem_of_getElem? (i := 96) rfl) rfl)
theorem ml_L_118 : Cond.methodLink "PlanningHouseLaw" 118 ⟨"PlanningHouse", "reach", "(I)I"⟩ ∈ TB := (inT6 (List.mem_of_getElem? (i := 27) rfl) rfl)
theorem ml_L_121 : Cond.methodLink "PlanningHouseLaw" 121 ⟨"PlanningHouseModel", "reach", "(I)I"⟩ ∈ TB := (inT11 (List.mem_of_getElem? (i := 104) rfl) rfl)
theorem ml_L_122 : Cond.methodLink "PlanningHouseLaw" 122 ⟨"PlanningHouse", "isLeft", "(III)Z"⟩ ∈ TB := (inT6 (List.mem_of_getElem? (i := 70) rfl) rfl)
theorem ml_L_125 : Cond.methodLink "PlanningHouseLaw" 125 ⟨"PlanningHouseModel", "isLeft", "(III)Z"⟩ ∈ TB := (inT11 (List.mem_of_getElem? (i := 116) rfl) rfl)
theorem ml_L_126 : Cond.methodLink "PlanningHouseLaw" 126 ⟨"PlanningHouse", "hopeless", "(I)I"⟩ ∈ TB := (inT6 (List.mem_of_getElem? (i := 74) rfl) rfl)
theorem ml_L_129 : Cond.methodLink "PlanningHouseLaw" 129 ⟨"PlanningHouseModel", "hopeless", "(I)I"⟩ ∈ TB := (inT11 (List.mem_of_getElem? (i := 120) rfl) rfl)
theorem ml_L_130 : Cond.methodLink "PlanningHouseLaw" 130 ⟨"PlanningHouse", "solve", "(I)I"⟩ ∈ TB := (inT6 (List.mem_of_getElem? (i := 86) rfl) rfl)
theorem ml_L_133 : Cond.methodLink "PlanningHouseLaw" 133 ⟨"PlanningHouseModel", "solve", "(I)I"⟩ ∈ TB := (inT11 (List.mem_of_getElem? (i := 128) rfl) rfl)
theorem ml_L_134 : Cond.methodLink "PlanningHouseLaw" 134 ⟨"PlanningHouse", "best", "(II)J"⟩ ∈ TB := (inT6 (List.mem_of_getElem? (i := 117) rfl) rfl)
theorem ml_L_137 : Cond.methodLink "PlanningHouseLaw" 137 ⟨"PlanningHouseModel", "best", "(II)J"⟩ ∈ TB := (inT11 (List.mem_of_getElem? (i := 148) rfl) rfl)
theorem ml_L_138 : Cond.methodLink "PlanningHouseLaw" 138 ⟨"PlanningHouse", "bests", "(I)I"⟩ ∈ TB := (inT6 (List.mem_of_getElem? (i := 122) rfl) rfl)
theorem ml_L_141 : Cond.methodLink "PlanningHouseLaw" 141 ⟨"PlanningHouseModel", "bests", "(I)I"⟩ ∈ TB := (inT11 (List.mem_of_getElem? (i := 152) rfl) rfl)
theorem ml_L_142 : Cond.methodLink "PlanningHouseLaw" 142 ⟨"PlanningHouse", "bestAt", "(II)Z"⟩ ∈ TB := (inT6 (List.mem_of_getElem? (i := 126) rfl) rfl)
theorem ml_L_146 : Cond.methodLink "PlanningHouseLaw" 146 ⟨"PlanningHouseModel", "bestAt", "(II)Z"⟩ ∈ TB := (inT11 (List.mem_of_getElem? (i := 160) rfl) rfl)
theorem ml_L_147 : Cond.methodLink "PlanningHouseLaw" 147 ⟨"PlanningHouse", "feasibles", "(I)I"⟩ ∈ TB := (inT6 (List.mem_of_getElem? (i := 130) rfl) rfl)
theorem ml_L_150 : Cond.methodLink "PlanningHouseLaw" 150 ⟨"PlanningHouseModel", "feasibles", "(I)I"⟩ ∈ TB := (inT11 (List.mem_of_getElem? (i := 168) rfl) rfl)
theorem ml_L_151 : Cond.methodLink "PlanningHouseLaw" 151 ⟨"PlanningHouse", "feasibleAt", "(II)Z"⟩ ∈ TB := (inT6 (List.mem_of_getElem? (i := 134) rfl) rfl)
theorem ml_L_154 : Cond.methodLink "PlanningHouseLaw" 154 ⟨"PlanningHouseModel", "feasibleAt", "(II)Z"⟩ ∈ TB := (inT11 (List.mem_of_getElem? (i := 172) rfl) rfl)
theorem ml_L_155 : Cond.methodLink "PlanningHouseLaw" 155 ⟨"PlanningHouse", "has", "(IIIZ)I"⟩ ∈ TB := (inT6 (List.mem_of_getElem? (i := 138) rfl) rfl)
theorem ml_L_159 : Cond.methodLink "PlanningHouseLaw" 159 ⟨"PlanningHouseModel", "has", "(IIIZ)I"⟩ ∈ TB := (inT11 (List.mem_of_getElem? (i := 176) rfl) rfl)
theorem ml_L_160 : Cond.methodLink "PlanningHouseLaw" 160 ⟨"PlanningHouse", "choices", "(II)I"⟩ ∈ TB := (inT6 (List.mem_of_getElem? (i := 152) rfl) rfl)
theorem ml_L_163 : Cond.methodLink "PlanningHouseLaw" 163 ⟨"PlanningHouseModel", "choices", "(II)I"⟩ ∈ TB := (inT11 (List.mem_of_getElem? (i := 184) rfl) rfl)
theorem ml_L_164 : Cond.methodLink "PlanningHouseLaw" 164 ⟨"PlanningHouse", "mend", "(II)I"⟩ ∈ TB := (inT6 (List.mem_of_getElem? (i := 161) rfl) rfl)
theorem ml_L_167 : Cond.methodLink "PlanningHouseLaw" 167 ⟨"PlanningHouseModel", "mend", "(II)I"⟩ ∈ TB := (inT11 (List.mem_of_getElem? (i := 188) rfl) rfl)
theorem ml_L_168 : Cond.methodLink "PlanningHouseLaw" 168 ⟨"PlanningHouse", "front", "(I)I"⟩ ∈ TB := (inT6 (List.mem_of_getElem? (i := 167) rfl) rfl)
theorem ml_L_171 : Cond.methodLink "PlanningHouseLaw" 171 ⟨"PlanningHouseModel", "front", "(I)I"⟩ ∈ TB := (inT11 (List.mem_of_getElem? (i := 192) rfl) rfl)
theorem ml_L_172 : Cond.methodLink "PlanningHouseLaw" 172 ⟨"PlanningHouse", "frontAt", "(III)J"⟩ ∈ TB := (inT6 (List.mem_of_getElem? (i := 192) rfl) rfl)
theorem ml_L_175 : Cond.methodLink "PlanningHouseLaw" 175 ⟨"PlanningHouseModel", "frontAt", "(III)J"⟩ ∈ TB := (inT11 (List.mem_of_getElem? (i := 200) rfl) rfl)
theorem ml_L_176 : Cond.methodLink "PlanningHouseLaw" 176 ⟨"PlanningHouse", "frontPlan", "(II)Z"⟩ ∈ TB := (inT6 (List.mem_of_getElem? (i := 196) rfl) rfl)
theorem ml_L_179 : Cond.methodLink "PlanningHouseLaw" 179 ⟨"PlanningHouseModel", "frontPlan", "(II)Z"⟩ ∈ TB := (inT11 (List.mem_of_getElem? (i := 212) rfl) rfl)
theorem ml_L_180 : Cond.methodLink "PlanningHouseLaw" 180 ⟨"PlanningHouse", "near", "(IZ)I"⟩ ∈ TB := (inT6 (List.mem_of_getElem? (i := 200) rfl) rfl)
theorem ml_L_184 : Cond.methodLink "PlanningHouseLaw" 184 ⟨"PlanningHouseModel", "near", "(IZ)I"⟩ ∈ TB := (inT11 (List.mem_of_getElem? (i := 216) rfl) rfl)
theorem ml_L_185 : Cond.methodLink "PlanningHouseLaw" 185 ⟨"PlanningHouse", "clash", "(I)I"⟩ ∈ TB := (inT6 (List.mem_of_getElem? (i := 209) rfl) rfl)
theorem ml_L_188 : Cond.methodLink "PlanningHouseLaw" 188 ⟨"PlanningHouseModel", "clash", "(I)I"⟩ ∈ TB := (inT11 (List.mem_of_getElem? (i := 220) rfl) rfl)
theorem ml_L_189 : Cond.methodLink "PlanningHouseLaw" 189 ⟨"PlanningHouse", "fewest", "(I)I"⟩ ∈ TB := (inT6 (List.mem_of_getElem? (i := 233) rfl) rfl)
theorem ml_L_192 : Cond.methodLink "PlanningHouseLaw" 192 ⟨"PlanningHouseModel", "fewest", "(I)I"⟩ ∈ TB := (inT11 (List.mem_of_getElem? (i := 236) rfl) rfl)
theorem ml_L_193 : Cond.methodLink "PlanningHouseLaw" 193 ⟨"PlanningHouse", "relax", "(I)I"⟩ ∈ TB := (inT7 (List.mem_of_getElem? (i := 1) rfl) rfl)
theorem ml_L_196 : Cond.methodLink "PlanningHouseLaw" 196 ⟨"PlanningHouseModel", "relax", "(I)I"⟩ ∈ TB := (inT12 (List.mem_of_getElem? (i := 3) rfl) rfl)
theorem ml_L_197 : Cond.methodLink "PlanningHouseLaw" 197 ⟨"PlanningHouse", "without", "(III)J"⟩ ∈ TB := (inT7 (List.mem_of_getElem? (i := 14) rfl) rfl)
theorem ml_L_200 : Cond.methodLink "PlanningHouseLaw" 200 ⟨"PlanningHouseModel", "without", "(III)J"⟩ ∈ TB := (inT12 (List.mem_of_getElem? (i := 7) rfl) rfl)
theorem ml_L_201 : Cond.methodLink "PlanningHouseLaw" 201 ⟨"PlanningHouse", "whyNot", "(IIII)J"⟩ ∈ TB := (inT7 (List.mem_of_getElem? (i := 32) rfl) rfl)
theorem ml_L_205 : Cond.methodLink "PlanningHouseLaw" 205 ⟨"PlanningHouseModel", "whyNot", "(IIII)J"⟩ ∈ TB := (inT12 (List.mem_of_getElem? (i := 11) rfl) rfl)
theorem ml_L_206 : Cond.methodLink "PlanningHouseLaw" 206 ⟨"PlanningHouse", "because", "(III)I"⟩ ∈ TB := (inT7 (List.mem_of_getElem? (i := 44) rfl) rfl)
theorem ml_L_209 : Cond.methodLink "PlanningHouseLaw" 209 ⟨"PlanningHouseModel", "because", "(III)I"⟩ ∈ TB := (inT12 (List.mem_of_getElem? (i := 19) rfl) rfl)
theorem ml_L_210 : Cond.methodLink "PlanningHouseLaw" 210 ⟨"PlanningHouse", "future", "(II)I"⟩ ∈ TB := (inT7 (List.mem_of_getElem? (i := 52) rfl) rfl)
theorem ml_L_213 : Cond.methodLink "PlanningHouseLaw" 213 ⟨"PlanningHouseModel", "future", "(II)I"⟩ ∈ TB := (inT12 (List.mem_of_getElem? (i := 23) rfl) rfl)
theorem ml_L_214 : Cond.methodLink "PlanningHouseLaw" 214 ⟨"PlanningHouse", "told", "(IIII)Z"⟩ ∈ TB := (inT7 (List.mem_of_getElem? (i := 61) rfl) rfl)
theorem ml_L_218 : Cond.methodLink "PlanningHouseLaw" 218 ⟨"PlanningHouseModel", "told", "(IIII)Z"⟩ ∈ TB := (inT12 (List.mem_of_getElem? (i := 27) rfl) rfl)
theorem ml_L_219 : Cond.methodLink "PlanningHouseLaw" 219 ⟨"PlanningHouse", "unfold", "(I)I"⟩ ∈ TB := (inT7 (List.mem_of_getElem? (i := 65) rfl) rfl)
theorem ml_L_222 : Cond.methodLink "PlanningHouseLaw" 222 ⟨"PlanningHouseModel", "unfold", "(I)I"⟩ ∈ TB := (inT12 (List.mem_of_getElem? (i := 31) rfl) rfl)
theorem ml_L_223 : Cond.methodLink "PlanningHouseLaw" 223 ⟨"PlanningHouse", "robust", "(I)I"⟩ ∈ TB := (inT7 (List.mem_of_getElem? (i := 69) rfl) rfl)
theorem ml_L_226 : Cond.methodLink "PlanningHouseLaw" 226 ⟨"PlanningHouseModel", "robust", "(I)I"⟩ ∈ TB := (inT12 (List.mem_of_getElem? (i := 35) rfl) rfl)
theorem ml_L_227 : Cond.methodLink "PlanningHouseLaw" 227 ⟨"PlanningHouse", "expected", "(II)J"⟩ ∈ TB := (inT7 (List.mem_of_getElem? (i := 89) rfl) rfl)
theorem ml_L_230 : Cond.methodLink "PlanningHouseLaw" 230 ⟨"PlanningHouseModel", "expected", "(II)J"⟩ ∈ TB := (inT12 (List.mem_of_getElem? (i := 39) rfl) rfl)
theorem ml_L_231 : Cond.methodLink "PlanningHouseLaw" 231 ⟨"PlanningHouse", "regret", "(II)J"⟩ ∈ TB := (inT7 (List.mem_of_getElem? (i := 98) rfl) rfl)
theorem ml_L_234 : Cond.methodLink "PlanningHouseLaw" 234 ⟨"PlanningHouseModel", "regret", "(II)J"⟩ ∈ TB := (inT12 (List.mem_of_getElem? (i := 43) rfl) rfl)
theorem ml_L_235 : Cond.methodLink "PlanningHouseLaw" 235 ⟨"PlanningHouse", "search", "(IIIII)I"⟩ ∈ TB := (inT7 (List.mem_of_getElem? (i := 108) rfl) rfl)
theorem ml_L_239 : Cond.methodLink "PlanningHouseLaw" 239 ⟨"PlanningHouseModel", "search", "(IIIII)I"⟩ ∈ TB := (inT12 (List.mem_of_getElem? (i := 47) rfl) rfl)
theorem ml_L_240 : Cond.methodLink "PlanningHouseLaw" 240 ⟨"PlanningHouse", "searched", "(I)I"⟩ ∈ TB := (inT7 (List.mem_of_getElem? (i := 155) rfl) rfl)
theorem ml_L_243 : Cond.methodLink "PlanningHouseLaw" 243 ⟨"PlanningHouseModel", "searched", "(I)I"⟩ ∈ TB := (inT12 (List.mem_of_getElem? (i := 71) rfl) rfl)
theorem ml_L_244 : Cond.methodLink "PlanningHouseLaw" 244 ⟨"PlanningHouse", "check", "(I)I"⟩ ∈ TB := (inT7 (List.mem_of_getElem? (i := 159) rfl) rfl)
theorem ml_L_247 : Cond.methodLink "PlanningHouseLaw" 247 ⟨"PlanningHouseModel", "check", "(I)I"⟩ ∈ TB := (inT12 (List.mem_of_getElem? (i := 75) rfl) rfl)
theorem ml_L_248 : Cond.methodLink "PlanningHouseLaw" 248 ⟨"PlanningHouse", "prove", "(I)I"⟩ ∈ TB := (inT7 (List.mem_of_getElem? (i := 209) rfl) rfl)
theorem ml_L_251 : Cond.methodLink "PlanningHouseLaw" 251 ⟨"PlanningHouseModel", "prove", "(I)I"⟩ ∈ TB := (inT12 (List.mem_of_getElem? (i := 111) rfl) rfl)
theorem ml_L_252 : Cond.methodLink "PlanningHouseLaw" 252 ⟨"PlanningHouse", "above", "()J"⟩ ∈ TB := (inT7 (List.mem_of_getElem? (i := 232) rfl) rfl)
theorem ml_L_256 : Cond.methodLink "PlanningHouseLaw" 256 ⟨"PlanningHouseModel", "above", "()J"⟩ ∈ TB := (inT12 (List.mem_of_getElem? (i := 123) rfl) rfl)
theorem ml_L_257 : Cond.methodLink "PlanningHouseLaw" 257 ⟨"PlanningHouse", "below", "()J"⟩ ∈ TB := (inT7 (List.mem_of_getElem? (i := 236) rfl) rfl)
theorem ml_L_260 : Cond.methodLink "PlanningHouseLaw" 260 ⟨"PlanningHouseModel", "below", "()J"⟩ ∈ TB := (inT12 (List.mem_of_getElem? (i := 127) rfl) rfl)
theorem ml_L_261 : Cond.methodLink "PlanningHouseLaw" 261 ⟨"PlanningHouse", "save", "(I)I"⟩ ∈ TB := (inT8 (List.mem_of_getElem? (i := 0) rfl) rfl)
theorem ml_L_264 : Cond.methodLink "PlanningHouseLaw" 264 ⟨"PlanningHouseModel", "save", "(I)I"⟩ ∈ TB := (inT12 (List.mem_of_getElem? (i := 131) rfl) rfl)
theorem ml_L_265 : Cond.methodLink "PlanningHouseLaw" 265 ⟨"PlanningHouse", "load", "(I)I"⟩ ∈ TB := (inT8 (List.mem_of_getElem? (i := 26) rfl) rfl)
theorem ml_L_268 : Cond.methodLink "PlanningHouseLaw" 268 ⟨"PlanningHouseModel", "load", "(I)I"⟩ ∈ TB := (inT12 (List.mem_of_getElem? (i := 148) rfl) rfl)
theorem ml_L_269 : Cond.methodLink "PlanningHouseLaw" 269 ⟨"PlanningHouse", "rows", "()I"⟩ ∈ TB := (inT8 (List.mem_of_getElem? (i := 49) rfl) rfl)
theorem ml_L_272 : Cond.methodLink "PlanningHouseLaw" 272 ⟨"PlanningHouseModel", "rows", "()I"⟩ ∈ TB := (inT12 (List.mem_of_getElem? (i := 164) rfl) rfl)
theorem ml_L_273 : Cond.methodLink "PlanningHouseLaw" 273 ⟨"PlanningHouse", "size", "()I"⟩ ∈ TB := (inT8 (List.mem_of_getElem? (i := 53) rfl) rfl)
theorem ml_L_276 : Cond.methodLink "PlanningHouseLaw" 276 ⟨"PlanningHouseModel", "size", "()I"⟩ ∈ TB := (inT12 (List.mem_of_getElem? (i := 168) rfl) rfl)
theorem ml_L_277 : Cond.methodLink "PlanningHouseLaw" 277 ⟨"PlanningHouse", "byteAt", "(I)I"⟩ ∈ TB := (inT8 (List.mem_of_getElem? (i := 57) rfl) rfl)
theorem ml_L_280 : Cond.methodLink "PlanningHouseLaw" 280 ⟨"PlanningHouseModel", "byteAt", "(I)I"⟩ ∈ TB := (inT12 (List.mem_of_getElem? (i := 172) rfl) rfl)
theorem ml_L_281 : Cond.methodLink "PlanningHouseLaw" 281 ⟨"PlanningHouse", "crash", "(I)I"⟩ ∈ TB := (inT8 (List.mem_of_getElem? (i := 61) rfl) rfl)
theorem ml_L_284 : Cond.methodLink "PlanningHouseLaw" 284 ⟨"PlanningHouseModel", "crash", "(I)I"⟩ ∈ TB := (inT12 (List.mem_of_getElem? (i := 176) rfl) rfl)
theorem ml_L_285 : Cond.methodLink "PlanningHouseLaw" 285 ⟨"PlanningHouse", "take", "()I"⟩ ∈ TB := (inT8 (List.mem_of_getElem? (i := 70) rfl) rfl)
theorem ml_L_288 : Cond.methodLink "PlanningHouseLaw" 288 ⟨"PlanningHouseModel", "take", "()I"⟩ ∈ TB := (inT12 (List.mem_of_getElem? (i := 180) rfl) rfl)
theorem ml_L_289 : Cond.methodLink "PlanningHouseLaw" 289 ⟨"PlanningHouse", "bring", "()I"⟩ ∈ TB := (inT8 (List.mem_of_getElem? (i := 78) rfl) rfl)
theorem ml_L_292 : Cond.methodLink "PlanningHouseLaw" 292 ⟨"PlanningHouseModel", "bring", "()I"⟩ ∈ TB := (inT12 (List.mem_of_getElem? (i := 184) rfl) rfl)
theorem ml_X12_3 : Cond.methodLink "PlanningHouseModel" 3 Lib.objectInit ∈ TB := (inT8 (List.mem_of_getElem? (i := 105) rfl) rfl)
theorem ml_X12_234 : Cond.methodLink "PlanningHouseModel" 234 ⟨"PlanningHouseModel", "look", "(I)I"⟩ ∈ TB := (inT9 (List.mem_of_getElem? (i := 194) rfl) rfl)
theorem ml_X12_289 : Cond.methodLink "PlanningHouseModel" 289 ⟨"PlanningHouseModel", "passBlanks", "()V"⟩ ∈ TB := (inT9 (List.mem_of_getElem? (i := 190) rfl) rfl)
theorem ml_X12_295 : Cond.methodLink "PlanningHouseModel" 295 ⟨"PlanningHouseModel", "isLetter", "(I)Z"⟩ ∈ TB := (inT9 (List.mem_of_getElem? (i := 198) rfl) rfl)
theorem ml_X12_299 : Cond.methodLink "PlanningHouseModel" 299 ⟨"PlanningHouseModel", "isFigure", "(I)Z"⟩ ∈ TB := (inT9 (List.mem_of_getElem? (i := 201) rfl) rfl)
theorem ml_X12_317 : Cond.methodLink "PlanningHouseModel" 317 ⟨"PlanningHouseModel", "fail", "(II)V"⟩ ∈ TB := (inT10 (List.mem_of_getElem? (i := 14) rfl) rfl)
theorem ml_X12_324 : Cond.methodLink "PlanningHouseModel" 324 ⟨"PlanningHouseModel", "next", "()V"⟩ ∈ TB := (inT9 (List.mem_of_getElem? (i := 186) rfl) rfl)
theorem ml_X12_327 : Cond.methodLink "PlanningHouseModel" 327 ⟨"PlanningHouseModel", "failHere", "()V"⟩ ∈ TB := (inT10 (List.mem_of_getElem? (i := 10) rfl) rfl)
theorem ml_X12_330 : Cond.methodLink "PlanningHouseModel" 330 ⟨"PlanningHouseModel", "keep", "(I)V"⟩ ∈ TB := (inT9 (List.mem_of_getElem? (i := 238) rfl) rfl)
theorem ml_X12_341 : Cond.methodLink "PlanningHouseModel" 341 ⟨"PlanningHouseModel", "meaning", "(I)I"⟩ ∈ TB := (inT10 (List.mem_of_getElem? (i := 18) rfl) rfl)
theorem ml_X12_358 : Cond.methodLink "PlanningHouseModel" 358 ⟨"PlanningHouseModel", "factStatement", "()V"⟩ ∈ TB := (inT10 (List.mem_of_getElem? (i := 2) rfl) rfl)
theorem ml_X12_361 : Cond.methodLink "PlanningHouseModel" 361 ⟨"PlanningHouseModel", "varStatement", "()V"⟩ ∈ TB := (inT10 (List.mem_of_getElem? (i := 46) rfl) rfl)
theorem ml_X12_364 : Cond.methodLink "PlanningHouseModel" 364 ⟨"PlanningHouseModel", "ruleStatement", "()V"⟩ ∈ TB := (inT10 (List.mem_of_getElem? (i := 59) rfl) rfl)
theorem ml_X12_367 : Cond.methodLink "PlanningHouseModel" 367 ⟨"PlanningHouseModel", "aimStatement", "()V"⟩ ∈ TB := (inT10 (List.mem_of_getElem? (i := 126) rfl) rfl)
theorem ml_X12_439 : Cond.methodLink "PlanningHouseModel" 439 ⟨"PlanningHouseModel", "statement", "()V"⟩ ∈ TB := (inT9 (List.mem_of_getElem? (i := 234) rfl) rfl)
theorem ml_X12_444 : Cond.methodLink "PlanningHouseModel" 444 ⟨"PlanningHouseModel", "freeSlot", "()I"⟩ ∈ TB := (inT9 (List.mem_of_getElem? (i := 178) rfl) rfl)
theorem ml_X12_447 : Cond.methodLink "PlanningHouseModel" 447 ⟨"PlanningHouseModel", "readProblem", "(I)Z"⟩ ∈ TB := (inT9 (List.mem_of_getElem? (i := 182) rfl) rfl)
theorem ml_X12_453 : Cond.methodLink "PlanningHouseModel" 453 ⟨"PlanningHouseModel", "isProblem", "(I)Z"⟩ ∈ TB := (inT10 (List.mem_of_getElem? (i := 139) rfl) rfl)
theorem ml_X12_456 : Cond.methodLink "PlanningHouseModel" 456 ⟨"PlanningHouseModel", "vars", "(I)I"⟩ ∈ TB := (inT10 (List.mem_of_getElem? (i := 147) rfl) rfl)
theorem ml_X12_459 : Cond.methodLink "PlanningHouseModel" 459 ⟨"PlanningHouseModel", "rulesOf", "(I)I"⟩ ∈ TB := (inT10 (List.mem_of_getElem? (i := 180) rfl) rfl)
theorem ml_X12_462 : Cond.methodLink "PlanningHouseModel" 462 ⟨"PlanningHouseModel", "isVar", "(II)Z"⟩ ∈ TB := (inT10 (List.mem_of_getElem? (i := 167) rfl) rfl)
theorem ml_X12_541 : Cond.methodLink "PlanningHouseModel" 541 ⟨"PlanningHouseModel", "aimsOf", "(I)I"⟩ ∈ TB := (inT11 (List.mem_of_getElem? (i := 41) rfl) rfl)
theorem ml_X12_556 : Cond.methodLink "PlanningHouseModel" 556 ⟨"PlanningHouseModel", "isFeasible", "(I)Z"⟩ ∈ TB := (inT11 (List.mem_of_getElem? (i := 100) rfl) rfl)
theorem ml_X12_568 : Cond.methodLink "PlanningHouseModel" 568 ⟨"PlanningHouseModel", "isRule", "(II)Z"⟩ ∈ TB := (inT10 (List.mem_of_getElem? (i := 176) rfl) rfl)
theorem ml_X12_571 : Cond.methodLink "PlanningHouseModel" 571 ⟨"PlanningHouseModel", "know", "(I)V"⟩ ∈ TB := (inT10 (List.mem_of_getElem? (i := 184) rfl) rfl)
theorem ml_X12_574 : Cond.methodLink "PlanningHouseModel" 574 ⟨"PlanningHouseModel", "isFact", "(II)Z"⟩ ∈ TB := (inT11 (List.mem_of_getElem? (i := 49) rfl) rfl)
theorem ml_X12_577 : Cond.methodLink "PlanningHouseModel" 577 ⟨"PlanningHouseModel", "placeOf", "(III)I"⟩ ∈ TB := (inT11 (List.mem_of_getElem? (i := 65) rfl) rfl)
theorem ml_X12_580 : Cond.methodLink "PlanningHouseModel" 580 ⟨"PlanningHouseModel", "handOf", "(I)I"⟩ ∈ TB := (inT11 (List.mem_of_getElem? (i := 81) rfl) rfl)
theorem ml_X12_583 : Cond.methodLink "PlanningHouseModel" 583 ⟨"PlanningHouseModel", "isLevel", "(I)Z"⟩ ∈ TB := (inT11 (List.mem_of_getElem? (i := 93) rfl) rfl)
theorem ml_X12_589 : Cond.methodLink "PlanningHouseModel" 589 ⟨"PlanningHouseModel", "findLeft", "(I)V"⟩ ∈ TB := (inT11 (List.mem_of_getElem? (i := 108) rfl) rfl)
theorem ml_X12_592 : Cond.methodLink "PlanningHouseModel" 592 ⟨"PlanningHouseModel", "firstBest", "(III)I"⟩ ∈ TB := (inT11 (List.mem_of_getElem? (i := 132) rfl) rfl)
theorem ml_X12_595 : Cond.methodLink "PlanningHouseModel" 595 ⟨"PlanningHouseModel", "putAtHand", "(II)V"⟩ ∈ TB := (inT11 (List.mem_of_getElem? (i := 144) rfl) rfl)
theorem ml_X12_601 : Cond.methodLink "PlanningHouseModel" 601 ⟨"PlanningHouseModel", "planAt", "(IIZ)Z"⟩ ∈ TB := (inT11 (List.mem_of_getElem? (i := 164) rfl) rfl)
theorem ml_X12_618 : Cond.methodLink "PlanningHouseModel" 618 ⟨"PlanningHouseModel", "nextPair", "(IZJ)Z"⟩ ∈ TB := (inT11 (List.mem_of_getElem? (i := 196) rfl) rfl)
theorem ml_X12_622 : Cond.methodLink "PlanningHouseModel" 622 ⟨"PlanningHouseModel", "findPair", "(II)Z"⟩ ∈ TB := (inT11 (List.mem_of_getElem? (i := 204) rfl) rfl)
theorem ml_X12_631 : Cond.methodLink "PlanningHouseModel" 631 ⟨"PlanningHouseModel", "findMasks", "(I)V"⟩ ∈ TB := (inT11 (List.mem_of_getElem? (i := 224) rfl) rfl)
theorem ml_X12_634 : Cond.methodLink "PlanningHouseModel" 634 ⟨"PlanningHouseModel", "clashes", "(I)Z"⟩ ∈ TB := (inT11 (List.mem_of_getElem? (i := 228) rfl) rfl)
theorem ml_X12_643 : Cond.methodLink "PlanningHouseModel" 643 ⟨"PlanningHouseModel", "bestWith", "(III)I"⟩ ∈ TB := (inT12 (List.mem_of_getElem? (i := 15) rfl) rfl)
theorem ml_X12_693 : Cond.methodLink "PlanningHouseModel" 693 ⟨"PlanningHouseModel", "tree", "(I)V"⟩ ∈ TB := (inT12 (List.mem_of_getElem? (i := 83) rfl) rfl)
theorem ml_X12_696 : Cond.methodLink "PlanningHouseModel" 696 ⟨"PlanningHouseModel", "giveAll", "(I)V"⟩ ∈ TB := (inT12 (List.mem_of_getElem? (i := 79) rfl) rfl)
theorem ml_X12_716 : Cond.methodLink "PlanningHouseModel" 716 ⟨"PlanningHouseModel", "needOf", "(I)I"⟩ ∈ TB := (inT12 (List.mem_of_getElem? (i := 135) rfl) rfl)
theorem ml_X12_721 : Cond.methodLink "PlanningHouseModel" 721 ⟨"PlanningHouseModel", "storeBytes", "(JI)V"⟩ ∈ TB := (inT12 (List.mem_of_getElem? (i := 140) rfl) rfl)
theorem ml_X12_725 : Cond.methodLink "PlanningHouseModel" 725 ⟨"PlanningHouseModel", "mixed", "(JI)J"⟩ ∈ TB := (inT12 (List.mem_of_getElem? (i := 144) rfl) rfl)
theorem ml_X12_735 : Cond.methodLink "PlanningHouseModel" 735 ⟨"PlanningHouseModel", "numberAt", "(II)J"⟩ ∈ TB := (inT12 (List.mem_of_getElem? (i := 160) rfl) rfl)
theorem ml_X12_739 : Cond.methodLink "PlanningHouseModel" 739 ⟨"PlanningHouseModel", "readRow", "(III)I"⟩ ∈ TB := (inT12 (List.mem_of_getElem? (i := 152) rfl) rfl)
theorem ml_J7_150 : Cond.methodLink "java/util/Arrays" 150 arraycopyName ∈ TB := (inT2 (List.mem_of_getElem? (i := 102) rfl) rfl)
theorem ml_J7_304 : Cond.methodLink "java/util/Arrays" 304 Lib.Math.min.name ∈ TB := (inT2 (List.mem_of_getElem? (i := 99) rfl) rfl)
