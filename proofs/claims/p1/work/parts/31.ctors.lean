/-! constructors that make rows alone (by program) -/
/-- a constructor under way: x the object, G0 the heap at its call; n cells of u slots are new, all of them rows of zeros; what stands in the object -/
def CF (G0 : AH) (x : Nat) (G : AH) (n u : Nat) (kd ln : Nat → Nat) (tI : Nat → Int32) (tJ : Nat → Int64) (tR : Nat → Nat) : Prop :=
  gT G = gT G0 + n ∧ gU G = gU G0 + u ∧ (∀ a, a < gT G0 → gK G a = gK G0 a ∧ gN G a = gN G0 a) ∧ (∀ a, a < gT G0 → a ≠ x → gI G a = gI G0 a ∧ gJ G a = gJ G0 a ∧ gR G a = gR G0 a) ∧
  gI G x = tI ∧ gJ G x = tJ ∧ gR G x = tR ∧ ∀ i, i < n → gK G (gT G0 + i) = kd i ∧ gN G (gT G0 + i) = ln i ∧ gI G (gT G0 + i) = (fun _ => 0) ∧ gJ G (gT G0 + i) = (fun _ => 0) ∧ gR G (gT G0 + i) = (fun _ => 0)
section
variable {G0 G G1 G2 : AH} {x n u : Nat} {kd ln : Nat → Nat} {tI : Nat → Int32} {tJ : Nat → Int64} {tR : Nat → Nat}
theorem CF_start (G : AH) (x : Nat) : CF G x G 0 0 (fun _ => 0) (fun _ => 0) (gI G x) (gJ G x) (gR G x) := ⟨rfl, rfl, fun _ _ => ⟨rfl, rfl⟩, fun _ _ _ => ⟨rfl, rfl, rfl⟩, rfl, rfl, rfl, fun i h => absurd h (Nat.not_lt_zero i)⟩
theorem u2_row {α : Type} (f : Nat → Nat → α) (a k : Nat) (v : α) : u2 f a k v a = u1 (f a) k v := by
  funext j; unfold u2 u1
  by_cases h : j = k
  · rw [if_pos ⟨rfl, h⟩, if_pos h]
  · rw [if_neg (fun q => h q.2), if_neg h]
theorem CF_sI {k : Nat} {v : Int32} (hx : x < gT G0) (f : CF G0 x G n u kd ln tI tJ tR) (e : G1 = sI G x k v) : CF G0 x G1 n u kd ln (u1 tI k v) tJ tR := by
  subst e
  obtain ⟨f1, f2, f3, f4, f5, f6, f7, f8⟩ := f
  refine ⟨f1, f2, f3, fun a h1 h2 => ?_, ?_, f6, f7, fun i hi => ?_⟩
  · have e : gI (Jvm.Pilot.CPlanningHouseLaw_law_r5151_bc7951.sI G x k v) a = gI G a := u2_ne h2
    exact ⟨e.trans (f4 a h1 h2).1, (f4 a h1 h2).2⟩
  · rw [← f5]; exact u2_row (gI G) x k v
  · have e : gI (Jvm.Pilot.CPlanningHouseLaw_law_r5151_bc7951.sI G x k v) (gT G0 + i) = gI G (gT G0 + i) := u2_ne (by omega)
    exact ⟨(f8 i hi).1, (f8 i hi).2.1, e.trans (f8 i hi).2.2.1, (f8 i hi).2.2.2⟩
theorem CF_sJ {k : Nat} {v : Int64} (hx : x < gT G0) (f : CF G0 x G n u kd ln tI tJ tR) (e : G1 = sJ G x k v) : CF G0 x G1 n u kd ln tI (u1 tJ k v) tR := by
  subst e
  obtain ⟨f1, f2, f3, f4, f5, f6, f7, f8⟩ := f
  refine ⟨f1, f2, f3, fun a h1 h2 => ?_, f5, ?_, f7, fun i hi => ?_⟩
  · have e : gJ (Jvm.Pilot.CPlanningHouseLaw_law_r5151_bc7951.sJ G x k v) a = gJ G a := u2_ne h2
    exact ⟨(f4 a h1 h2).1, e.trans (f4 a h1 h2).2.1, (f4 a h1 h2).2.2⟩
  · rw [← f6]; exact u2_row (gJ G) x k v
  · have e : gJ (Jvm.Pilot.CPlanningHouseLaw_law_r5151_bc7951.sJ G x k v) (gT G0 + i) = gJ G (gT G0 + i) := u2_ne (by omega)
    exact ⟨(f8 i hi).1, (f8 i hi).2.1, (f8 i hi).2.2.1, e.trans (f8 i hi).2.2.2.1, (f8 i hi).2.2.2.2⟩
theorem CF_sR {k : Nat} {v : Nat} (hx : x < gT G0) (f : CF G0 x G n u kd ln tI tJ tR) (e : G1 = sR G x k v) : CF G0 x G1 n u kd ln tI tJ (u1 tR k v) := by
  subst e
  obtain ⟨f1, f2, f3, f4, f5, f6, f7, f8⟩ := f
  refine ⟨f1, f2, f3, fun a h1 h2 => ?_, f5, f6, ?_, fun i hi => ?_⟩
  · have e : gR (Jvm.Pilot.CPlanningHouseLaw_law_r5151_bc7951.sR G x k v) a = gR G a := u2_ne h2
    exact ⟨(f4 a h1 h2).1, (f4 a h1 h2).2.1, e.trans (f4 a h1 h2).2.2⟩
  · rw [← f7]; exact u2_row (gR G) x k v
  · have e : gR (Jvm.Pilot.CPlanningHouseLaw_law_r5151_bc7951.sR G x k v) (gT G0 + i) = gR G (gT G0 + i) := u2_ne (by omega)
    exact ⟨(f8 i hi).1, (f8 i hi).2.1, (f8 i hi).2.2.1, (f8 i hi).2.2.2.1, e.trans (f8 i hi).2.2.2.2⟩
theorem CF_nw {k m : Nat} (hx : x < gT G0) (f : CF G0 x G n u kd ln tI tJ tR) (e : G1 = nw G k m m) : CF G0 x G1 (n + 1) (u + m) (u1 kd n k) (u1 ln n m) tI tJ tR := by
  subst e
  obtain ⟨f1, f2, f3, f4, f5, f6, f7, f8⟩ := f
  have ne : ∀ a, a ≠ gT G → gK (Jvm.Pilot.CPlanningHouseLaw_law_r5151_bc7951.nw G k m m) a = gK G a ∧ gN (Jvm.Pilot.CPlanningHouseLaw_law_r5151_bc7951.nw G k m m) a = gN G a ∧ gI (Jvm.Pilot.CPlanningHouseLaw_law_r5151_bc7951.nw G k m m) a = gI G a ∧ gJ (Jvm.Pilot.CPlanningHouseLaw_law_r5151_bc7951.nw G k m m) a = gJ G a ∧ gR (Jvm.Pilot.CPlanningHouseLaw_law_r5151_bc7951.nw G k m m) a = gR G a := fun a h => ⟨if_neg h, if_neg h, if_neg h, if_neg h, if_neg h⟩
  refine ⟨?_, ?_, fun a h => ?_, fun a h1 h2 => ?_, ?_, ?_, ?_, fun i hi => ?_⟩
  · show gT G + 1 = _; omega
  · show gU G + m = _; omega
  · have q := ne a (by omega); rw [q.1, q.2.1]; exact f3 a h
  · have q := ne a (by omega); rw [q.2.2.1, q.2.2.2.1, q.2.2.2.2]; exact f4 a h1 h2
  · have q := ne x (by omega); rw [q.2.2.1]; exact f5
  · have q := ne x (by omega); rw [q.2.2.2.1]; exact f6
  · have q := ne x (by omega); rw [q.2.2.2.2]; exact f7
  · by_cases h : i = n
    · subst h
      have eq : gT G0 + i = gT G := f1.symm
      rw [eq]
      refine ⟨?_, ?_, if_pos rfl, if_pos rfl, if_pos rfl⟩
      · have a1 : gK (Jvm.Pilot.CPlanningHouseLaw_law_r5151_bc7951.nw G k m m) (gT G) = k := if_pos rfl
        rw [a1]; exact (if_pos rfl).symm
      · have a1 : gN (Jvm.Pilot.CPlanningHouseLaw_law_r5151_bc7951.nw G k m m) (gT G) = m := if_pos rfl
        rw [a1]; exact (if_pos rfl).symm
    · have q := ne (gT G0 + i) (by omega)
      have a1 : u1 kd n k i = kd i := if_neg h
      have a2 : u1 ln n m i = ln i := if_neg h
      rw [q.1, q.2.1, q.2.2.1, q.2.2.2.1, q.2.2.2.2, a1, a2]; exact f8 i (by omega)
end
theorem c_X0_init {E : EE} {d : Nat} {x0 : Nat}  {G : AH} (h0 : 0 < d) (hx0 : isO E G x0 0) (hb : eB E ≤ gT G) : wpV E d M_X0_init [vr x0] G (fun G' => CF G x0 G' 1 (0 + (Int32.toNatClampNeg 256)) (u1 (fun _ => 0) 0 13) (u1 (fun _ => 0) 0 (Int32.toNatClampNeg 256)) (u1 (gI G x0) 1 0) (gJ G x0) (u1 (gR G x0) 0 (gT G))) := by
  refine wpM_of mk_X0_init (Nat.le_of_ble_eq_true rfl) ?_
  refine v_X0_init_0 h0 ?_
  have hx := hx0.2.1
  have f := CF_start G x0
  refine ⟨hx0, ?_⟩
  refine ⟨hb, ?_⟩
  intro G6 eG6
  have f := CF_nw hx f eG6
  have hG6 := f.1
  intro G10 eG10
  have f := CF_sR hx f eG10
  have f : CF G x0 G10 _ _ _ _ _ _ _ := f
  have hG10 := f.1
  intro G13 eG13
  have f := CF_sI hx f eG13
  have hG13 := f.1
  exact ⟨rfl, f⟩
theorem c_X1_init {E : EE} {d : Nat} {x0 : Nat}  {G : AH} (h0 : 0 < d) (hx0 : isO E G x0 1) (hb : eB E ≤ gT G) : wpV E d M_X1_init [vr x0] G (fun G' => CF G x0 G' 5 (((((0 + (Int32.toNatClampNeg 12)) + (Int32.toNatClampNeg 288)) + (Int32.toNatClampNeg 12)) + (Int32.toNatClampNeg 12)) + (Int32.toNatClampNeg 0)) (u1 (u1 (u1 (u1 (u1 (fun _ => 0) 0 14) 1 14) 2 14) 3 14) 4 16) (u1 (u1 (u1 (u1 (u1 (fun _ => 0) 0 (Int32.toNatClampNeg 12)) 1 (Int32.toNatClampNeg 288)) 2 (Int32.toNatClampNeg 12)) 3 (Int32.toNatClampNeg 12)) 4 (Int32.toNatClampNeg 0)) (u1 (gI G x0) 4 0) (gJ G x0) (u1 (u1 (u1 (u1 (u1 (gR G x0) 0 (gT G)) 1 (gT G + 1)) 2 (gT G + 2)) 3 (gT G + 3)) 5 (gT G + 4))) := by
  refine wpM_of mk_X1_init (Nat.le_of_ble_eq_true rfl) ?_
  refine v_X1_init_0 h0 ?_
  have hx := hx0.2.1
  have f := CF_start G x0
  refine ⟨hx0, ?_⟩
  refine ⟨hb, ?_⟩
  intro G6 eG6
  have f := CF_nw hx f eG6
  have hG6 := f.1
  intro G10 eG10
  have f := CF_sR hx f eG10
  have f : CF G x0 G10 _ _ _ _ _ _ _ := f
  have hG10 := f.1
  intro G16 eG16
  have f := CF_nw hx f eG16
  have hG16 := f.1
  intro G20 eG20
  have f := CF_sR hx f eG20
  rw [show gT G10 = gT G + 1 from hG10] at f
  have hG20 := f.1
  intro G26 eG26
  have f := CF_nw hx f eG26
  have hG26 := f.1
  intro G30 eG30
  have f := CF_sR hx f eG30
  rw [show gT G20 = gT G + 2 from hG20] at f
  have hG30 := f.1
  intro G36 eG36
  have f := CF_nw hx f eG36
  have hG36 := f.1
  intro G40 eG40
  have f := CF_sR hx f eG40
  rw [show gT G30 = gT G + 3 from hG30] at f
  have hG40 := f.1
  intro G43 eG43
  have f := CF_sI hx f eG43
  have hG43 := f.1
  intro G49 eG49
  have f := CF_nw hx f eG49
  have hG49 := f.1
  intro G53 eG53
  have f := CF_sR hx f eG53
  rw [show gT G43 = gT G + 4 from hG43] at f
  have hG53 := f.1
  exact ⟨rfl, f⟩
theorem c_X2_init {E : EE} {d : Nat} {x0 : Nat}  {G : AH} (h0 : 0 < d) (hx0 : isO E G x0 2) (hb : eB E ≤ gT G) : wpV E d M_X2_init [vr x0] G (fun G' => CF G x0 G' 9 (((((((((0 + (Int32.toNatClampNeg 30)) + (Int32.toNatClampNeg 24)) + (Int32.toNatClampNeg 24)) + (Int32.toNatClampNeg 30)) + (Int32.toNatClampNeg 30)) + (Int32.toNatClampNeg 128)) + (Int32.toNatClampNeg 128)) + (Int32.toNatClampNeg 128)) + (Int32.toNatClampNeg 12)) (u1 (u1 (u1 (u1 (u1 (u1 (u1 (u1 (u1 (fun _ => 0) 0 14) 1 14) 2 14) 3 14) 4 14) 5 14) 6 14) 7 14) 8 14) (u1 (u1 (u1 (u1 (u1 (u1 (u1 (u1 (u1 (fun _ => 0) 0 (Int32.toNatClampNeg 30)) 1 (Int32.toNatClampNeg 24)) 2 (Int32.toNatClampNeg 24)) 3 (Int32.toNatClampNeg 30)) 4 (Int32.toNatClampNeg 30)) 5 (Int32.toNatClampNeg 128)) 6 (Int32.toNatClampNeg 128)) 7 (Int32.toNatClampNeg 128)) 8 (Int32.toNatClampNeg 12)) (u1 (u1 (u1 (u1 (u1 (u1 (gI G x0) 0 0) 1 0) 2 0) 3 0) 10 0) 13 0) (gJ G x0) (u1 (u1 (u1 (u1 (u1 (u1 (u1 (u1 (u1 (gR G x0) 4 (gT G + 0)) 5 (gT G + 1)) 6 (gT G + 2)) 7 (gT G + 3)) 8 (gT G + 4)) 9 (gT G + 5)) 11 (gT G + 6)) 12 (gT G + 7)) 14 (gT G + 8))) := by
  refine wpM_of mk_X2_init (Nat.le_of_ble_eq_true rfl) ?_
  refine v_X2_init_0 h0 ?_
  have hx := hx0.2.1
  have f := CF_start G x0
  refine ⟨hx0, ?_⟩
  intro G2 eG2
  have f := CF_sI hx f eG2
  have hG2 := f.1
  intro G4 eG4
  have f := CF_sI hx f eG4
  have hG4 := f.1
  intro G6 eG6
  have f := CF_sI hx f eG6
  have hG6 := f.1
  intro G8 eG8
  have f := CF_sI hx f eG8
  have hG8 := f.1
  refine ⟨by rw [hG8]; omega, ?_⟩
  intro G14 eG14
  have f := CF_nw hx f eG14
  have hG14 := f.1
  intro G18 eG18
  have f := CF_sR hx f eG18
  rw [show gT G8 = gT G + 0 from hG8] at f
  have hG18 := f.1
  intro G24 eG24
  have f := CF_nw hx f eG24
  have hG24 := f.1
  intro G28 eG28
  have f := CF_sR hx f eG28
  rw [show gT G18 = gT G + 1 from hG18] at f
  have hG28 := f.1
  intro G34 eG34
  have f := CF_nw hx f eG34
  have hG34 := f.1
  intro G38 eG38
  have f := CF_sR hx f eG38
  rw [show gT G28 = gT G + 2 from hG28] at f
  have hG38 := f.1
  intro G44 eG44
  have f := CF_nw hx f eG44
  have hG44 := f.1
  intro G48 eG48
  have f := CF_sR hx f eG48
  rw [show gT G38 = gT G + 3 from hG38] at f
  have hG48 := f.1
  intro G54 eG54
  have f := CF_nw hx f eG54
  have hG54 := f.1
  intro G58 eG58
  have f := CF_sR hx f eG58
  rw [show gT G48 = gT G + 4 from hG48] at f
  have hG58 := f.1
  intro G64 eG64
  have f := CF_nw hx f eG64
  have hG64 := f.1
  intro G68 eG68
  have f := CF_sR hx f eG68
  rw [show gT G58 = gT G + 5 from hG58] at f
  have hG68 := f.1
  intro G71 eG71
  have f := CF_sI hx f eG71
  have hG71 := f.1
  intro G77 eG77
  have f := CF_nw hx f eG77
  have hG77 := f.1
  intro G81 eG81
  have f := CF_sR hx f eG81
  rw [show gT G71 = gT G + 6 from hG71] at f
  have hG81 := f.1
  intro G87 eG87
  have f := CF_nw hx f eG87
  have hG87 := f.1
  intro G91 eG91
  have f := CF_sR hx f eG91
  rw [show gT G81 = gT G + 7 from hG81] at f
  have hG91 := f.1
  intro G94 eG94
  have f := CF_sI hx f eG94
  have hG94 := f.1
  intro G100 eG100
  have f := CF_nw hx f eG100
  have hG100 := f.1
  intro G104 eG104
  have f := CF_sR hx f eG104
  rw [show gT G94 = gT G + 8 from hG94] at f
  have hG104 := f.1
  exact ⟨rfl, f⟩
theorem c_X4_init {E : EE} {d : Nat} {x0 : Nat} {x1 : Nat} {G : AH} (h0 : 0 < d) (hx0 : isO E G x0 4) (hb : eB E ≤ gT G) : wpV E d M_X4_init [vr x0, vr x1] G (fun G' => CF G x0 G' 2 ((0 + (Int32.toNatClampNeg 30)) + (Int32.toNatClampNeg 3)) (u1 (u1 (fun _ => 0) 0 14) 1 15) (u1 (u1 (fun _ => 0) 0 (Int32.toNatClampNeg 30)) 1 (Int32.toNatClampNeg 3)) (gI G x0) (gJ G x0) (u1 (u1 (u1 (gR G x0) 1 (gT G)) 2 (gT G + 1)) 0 x1)) := by
  refine wpM_of mk_X4_init (Nat.le_of_ble_eq_true rfl) ?_
  refine v_X4_init_0 h0 ?_
  have hx := hx0.2.1
  have f := CF_start G x0
  refine ⟨hx0, ?_⟩
  refine ⟨hb, ?_⟩
  intro G6 eG6
  have f := CF_nw hx f eG6
  have hG6 := f.1
  intro G10 eG10
  have f := CF_sR hx f eG10
  have f : CF G x0 G10 _ _ _ _ _ _ _ := f
  have hG10 := f.1
  intro G16 eG16
  have f := CF_nw hx f eG16
  have hG16 := f.1
  intro G20 eG20
  have f := CF_sR hx f eG20
  rw [show gT G10 = gT G + 1 from hG10] at f
  have hG20 := f.1
  intro G23 eG23
  have f := CF_sR hx f eG23
  have hG23 := f.1
  exact ⟨rfl, f⟩
theorem c_X5_init {E : EE} {d : Nat} {x0 : Nat} {x1 : Nat} {G : AH} (h0 : 0 < d) (hx0 : isO E G x0 5) (hb : eB E ≤ gT G) : wpV E d M_X5_init [vr x0, vr x1] G (fun G' => CF G x0 G' 1 (0 + (Int32.toNatClampNeg 199)) (u1 (fun _ => 0) 0 14) (u1 (fun _ => 0) 0 (Int32.toNatClampNeg 199)) (u1 (u1 (u1 (u1 (u1 (u1 (gI G x0) 4 0) 5 0) 6 0) 7 0) 8 0) 10 0) (u1 (gJ G x0) 3 0) (u1 (u1 (u1 (u1 (gR G x0) 1 0) 2 0) 9 (gT G + 0)) 0 x1)) := by
  refine wpM_of mk_X5_init (Nat.le_of_ble_eq_true rfl) ?_
  refine v_X5_init_0 h0 ?_
  have hx := hx0.2.1
  have f := CF_start G x0
  refine ⟨hx0, ?_⟩
  intro G2 eG2
  have f := CF_sR hx f eG2
  have hG2 := f.1
  intro G4 eG4
  have f := CF_sR hx f eG4
  have hG4 := f.1
  intro G6 eG6
  have f := CF_sJ hx f eG6
  have hG6 := f.1
  intro G8 eG8
  have f := CF_sI hx f eG8
  have hG8 := f.1
  intro G10 eG10
  have f := CF_sI hx f eG10
  have hG10 := f.1
  intro G12 eG12
  have f := CF_sI hx f eG12
  have hG12 := f.1
  intro G14 eG14
  have f := CF_sI hx f eG14
  have hG14 := f.1
  intro G16 eG16
  have f := CF_sI hx f eG16
  have hG16 := f.1
  refine ⟨by rw [hG16]; omega, ?_⟩
  intro G22 eG22
  have f := CF_nw hx f eG22
  have hG22 := f.1
  intro G26 eG26
  have f := CF_sR hx f eG26
  rw [show gT G16 = gT G + 0 from hG16] at f
  have hG26 := f.1
  intro G29 eG29
  have f := CF_sI hx f eG29
  have hG29 := f.1
  intro G32 eG32
  have f := CF_sR hx f eG32
  have hG32 := f.1
  exact ⟨rfl, f⟩
theorem c_X6_init {E : EE} {d : Nat} {x0 : Nat}  {G : AH} (h0 : 0 < d) (hx0 : isO E G x0 6) (hb : eB E ≤ gT G) : wpV E d M_X6_init [vr x0] G (fun G' => CF G x0 G' 3 (((0 + (Int32.toNatClampNeg 12)) + (Int32.toNatClampNeg 20)) + (Int32.toNatClampNeg 12)) (u1 (u1 (u1 (fun _ => 0) 0 14) 1 14) 2 14) (u1 (u1 (u1 (fun _ => 0) 0 (Int32.toNatClampNeg 12)) 1 (Int32.toNatClampNeg 20)) 2 (Int32.toNatClampNeg 12)) (u1 (u1 (u1 (u1 (u1 (u1 (u1 (u1 (u1 (u1 (u1 (gI G x0) 0 0) 1 1) 2 0) 3 (-1)) 5 0) 8 0) 9 0) 10 0) 11 0) 12 0) 13 0) (gJ G x0) (u1 (u1 (u1 (gR G x0) 4 (gT G + 0)) 6 (gT G + 1)) 7 (gT G + 2))) := by
  refine wpM_of mk_X6_init (Nat.le_of_ble_eq_true rfl) ?_
  refine v_X6_init_0 h0 ?_
  have hx := hx0.2.1
  have f := CF_start G x0
  refine ⟨hx0, ?_⟩
  intro G2 eG2
  have f := CF_sI hx f eG2
  have hG2 := f.1
  intro G4 eG4
  have f := CF_sI hx f eG4
  have hG4 := f.1
  intro G6 eG6
  have f := CF_sI hx f eG6
  have hG6 := f.1
  intro G8 eG8
  have f := CF_sI hx f eG8
  have hG8 := f.1
  refine ⟨by rw [hG8]; omega, ?_⟩
  intro G14 eG14
  have f := CF_nw hx f eG14
  have hG14 := f.1
  intro G18 eG18
  have f := CF_sR hx f eG18
  rw [show gT G8 = gT G + 0 from hG8] at f
  have hG18 := f.1
  intro G21 eG21
  have f := CF_sI hx f eG21
  have hG21 := f.1
  intro G27 eG27
  have f := CF_nw hx f eG27
  have hG27 := f.1
  intro G31 eG31
  have f := CF_sR hx f eG31
  rw [show gT G21 = gT G + 1 from hG21] at f
  have hG31 := f.1
  intro G37 eG37
  have f := CF_nw hx f eG37
  have hG37 := f.1
  intro G41 eG41
  have f := CF_sR hx f eG41
  rw [show gT G31 = gT G + 2 from hG31] at f
  have hG41 := f.1
  intro G44 eG44
  have f := CF_sI hx f eG44
  have hG44 := f.1
  intro G47 eG47
  have f := CF_sI hx f eG47
  have hG47 := f.1
  intro G50 eG50
  have f := CF_sI hx f eG50
  have hG50 := f.1
  intro G53 eG53
  have f := CF_sI hx f eG53
  have hG53 := f.1
  intro G56 eG56
  have f := CF_sI hx f eG56
  have hG56 := f.1
  intro G59 eG59
  have f := CF_sI hx f eG59
  have hG59 := f.1
  exact ⟨rfl, f⟩
theorem c_X7_init {E : EE} {d : Nat} {x0 : Nat}  {G : AH} (h0 : 0 < d) (hx0 : isO E G x0 7) (hb : eB E ≤ gT G) : wpV E d M_X7_init [vr x0] G (fun G' => CF G x0 G' 3 (((0 + (Int32.toNatClampNeg 12)) + (Int32.toNatClampNeg 240)) + (Int32.toNatClampNeg 12)) (u1 (u1 (u1 (fun _ => 0) 0 14) 1 14) 2 14) (u1 (u1 (u1 (fun _ => 0) 0 (Int32.toNatClampNeg 12)) 1 (Int32.toNatClampNeg 240)) 2 (Int32.toNatClampNeg 12)) (u1 (u1 (gI G x0) 0 0) 1 1) (gJ G x0) (u1 (u1 (u1 (gR G x0) 2 (gT G + 0)) 3 (gT G + 1)) 4 (gT G + 2))) := by
  refine wpM_of mk_X7_init (Nat.le_of_ble_eq_true rfl) ?_
  refine v_X7_init_0 h0 ?_
  have hx := hx0.2.1
  have f := CF_start G x0
  refine ⟨hx0, ?_⟩
  intro G2 eG2
  have f := CF_sI hx f eG2
  have hG2 := f.1
  intro G4 eG4
  have f := CF_sI hx f eG4
  have hG4 := f.1
  refine ⟨by rw [hG4]; omega, ?_⟩
  intro G10 eG10
  have f := CF_nw hx f eG10
  have hG10 := f.1
  intro G14 eG14
  have f := CF_sR hx f eG14
  rw [show gT G4 = gT G + 0 from hG4] at f
  have hG14 := f.1
  intro G20 eG20
  have f := CF_nw hx f eG20
  have hG20 := f.1
  intro G24 eG24
  have f := CF_sR hx f eG24
  rw [show gT G14 = gT G + 1 from hG14] at f
  have hG24 := f.1
  intro G30 eG30
  have f := CF_nw hx f eG30
  have hG30 := f.1
  intro G34 eG34
  have f := CF_sR hx f eG34
  rw [show gT G24 = gT G + 2 from hG24] at f
  have hG34 := f.1
  exact ⟨rfl, f⟩
theorem c_X9_init {E : EE} {d : Nat} {x0 : Nat}  {G : AH} (h0 : 0 < d) (hx0 : isO E G x0 9) (hb : eB E ≤ gT G) : wpV E d M_X9_init [vr x0] G (fun G' => CF G x0 G' 3 (((0 + (Int32.toNatClampNeg 0)) + (Int32.toNatClampNeg 0)) + (Int32.toNatClampNeg 0)) (u1 (u1 (u1 (fun _ => 0) 0 14) 1 15) 2 14) (u1 (u1 (u1 (fun _ => 0) 0 (Int32.toNatClampNeg 0)) 1 (Int32.toNatClampNeg 0)) 2 (Int32.toNatClampNeg 0)) (u1 (u1 (u1 (u1 (u1 (gI G x0) 0 0) 1 0) 3 0) 4 0) 5 0) (gJ G x0) (u1 (u1 (u1 (gR G x0) 2 (gT G + 0)) 6 (gT G + 1)) 7 (gT G + 2))) := by
  refine wpM_of mk_X9_init (Nat.le_of_ble_eq_true rfl) ?_
  refine v_X9_init_0 h0 ?_
  have hx := hx0.2.1
  have f := CF_start G x0
  refine ⟨hx0, ?_⟩
  intro G2 eG2
  have f := CF_sI hx f eG2
  have hG2 := f.1
  intro G4 eG4
  have f := CF_sI hx f eG4
  have hG4 := f.1
  refine ⟨by rw [hG4]; omega, ?_⟩
  intro G10 eG10
  have f := CF_nw hx f eG10
  have hG10 := f.1
  intro G14 eG14
  have f := CF_sR hx f eG14
  rw [show gT G4 = gT G + 0 from hG4] at f
  have hG14 := f.1
  intro G17 eG17
  have f := CF_sI hx f eG17
  have hG17 := f.1
  intro G20 eG20
  have f := CF_sI hx f eG20
  have hG20 := f.1
  intro G23 eG23
  have f := CF_sI hx f eG23
  have hG23 := f.1
  intro G29 eG29
  have f := CF_nw hx f eG29
  have hG29 := f.1
  intro G33 eG33
  have f := CF_sR hx f eG33
  rw [show gT G23 = gT G + 1 from hG23] at f
  have hG33 := f.1
  intro G39 eG39
  have f := CF_nw hx f eG39
  have hG39 := f.1
  intro G43 eG43
  have f := CF_sR hx f eG43
  rw [show gT G33 = gT G + 2 from hG33] at f
  have hG43 := f.1
  exact ⟨rfl, f⟩
theorem c_X10_init {E : EE} {d : Nat} {x0 : Nat}  {G : AH} (h0 : 0 < d) (hx0 : isO E G x0 10) (hb : eB E ≤ gT G) : wpV E d M_X10_init [vr x0] G (fun G' => CF G x0 G' 4 ((((0 + (Int32.toNatClampNeg 64)) + (Int32.toNatClampNeg 64)) + (Int32.toNatClampNeg 64)) + (Int32.toNatClampNeg 64)) (u1 (u1 (u1 (u1 (fun _ => 0) 0 14) 1 15) 2 14) 3 14) (u1 (u1 (u1 (u1 (fun _ => 0) 0 (Int32.toNatClampNeg 64)) 1 (Int32.toNatClampNeg 64)) 2 (Int32.toNatClampNeg 64)) 3 (Int32.toNatClampNeg 64)) (u1 (u1 (u1 (u1 (u1 (u1 (u1 (gI G x0) 4 0) 5 0) 6 0) 8 0) 9 0) 10 0) 11 0) (u1 (gJ G x0) 7 0) (u1 (u1 (u1 (u1 (gR G x0) 0 (gT G)) 1 (gT G + 1)) 2 (gT G + 2)) 3 (gT G + 3))) := by
  refine wpM_of mk_X10_init (Nat.le_of_ble_eq_true rfl) ?_
  refine v_X10_init_0 h0 ?_
  have hx := hx0.2.1
  have f := CF_start G x0
  refine ⟨hx0, ?_⟩
  refine ⟨hb, ?_⟩
  intro G6 eG6
  have f := CF_nw hx f eG6
  have hG6 := f.1
  intro G10 eG10
  have f := CF_sR hx f eG10
  have f : CF G x0 G10 _ _ _ _ _ _ _ := f
  have hG10 := f.1
  intro G16 eG16
  have f := CF_nw hx f eG16
  have hG16 := f.1
  intro G20 eG20
  have f := CF_sR hx f eG20
  rw [show gT G10 = gT G + 1 from hG10] at f
  have hG20 := f.1
  intro G26 eG26
  have f := CF_nw hx f eG26
  have hG26 := f.1
  intro G30 eG30
  have f := CF_sR hx f eG30
  rw [show gT G20 = gT G + 2 from hG20] at f
  have hG30 := f.1
  intro G36 eG36
  have f := CF_nw hx f eG36
  have hG36 := f.1
  intro G40 eG40
  have f := CF_sR hx f eG40
  rw [show gT G30 = gT G + 3 from hG30] at f
  have hG40 := f.1
  intro G43 eG43
  have f := CF_sI hx f eG43
  have hG43 := f.1
  intro G46 eG46
  have f := CF_sI hx f eG46
  have hG46 := f.1
  intro G49 eG49
  have f := CF_sI hx f eG49
  have hG49 := f.1
  intro G52 eG52
  have f := CF_sJ hx f eG52
  have hG52 := f.1
  intro G55 eG55
  have f := CF_sI hx f eG55
  have hG55 := f.1
  intro G58 eG58
  have f := CF_sI hx f eG58
  have hG58 := f.1
  intro G61 eG61
  have f := CF_sI hx f eG61
  have hG61 := f.1
  intro G64 eG64
  have f := CF_sI hx f eG64
  have hG64 := f.1
  exact ⟨rfl, f⟩
theorem c_X12_init {E : EE} {d : Nat} {x0 : Nat}  {G : AH} (h0 : 0 < d) (hx0 : isO E G x0 12) (hb : eB E ≤ gT G) : wpV E d M_X12_init [vr x0] G (fun G' => CF G x0 G' 61 (((((((((((((((((((((((((((((((((((((((((((((((((((((((((((((0 + (Int32.toNatClampNeg 20000)) + (Int32.toNatClampNeg 5)) + (Int32.toNatClampNeg 100000)) + (Int32.toNatClampNeg 5)) + (Int32.toNatClampNeg 100000)) + (Int32.toNatClampNeg 100000)) + (Int32.toNatClampNeg 100000)) + (Int32.toNatClampNeg 100000)) + (Int32.toNatClampNeg 5)) + (Int32.toNatClampNeg 320)) + (Int32.toNatClampNeg 5)) + (Int32.toNatClampNeg 480)) + (Int32.toNatClampNeg 480)) + (Int32.toNatClampNeg 20)) + (Int32.toNatClampNeg 80)) + (Int32.toNatClampNeg 60)) + (Int32.toNatClampNeg 60)) + (Int32.toNatClampNeg 1200)) + (Int32.toNatClampNeg 60)) + (Int32.toNatClampNeg 60)) + (Int32.toNatClampNeg 60)) + (Int32.toNatClampNeg 5)) + (Int32.toNatClampNeg 5)) + (Int32.toNatClampNeg 120)) + (Int32.toNatClampNeg 120)) + (Int32.toNatClampNeg 120)) + (Int32.toNatClampNeg 30)) + (Int32.toNatClampNeg 30)) + (Int32.toNatClampNeg 5)) + (Int32.toNatClampNeg 30)) + (Int32.toNatClampNeg 480)) + (Int32.toNatClampNeg 480)) + (Int32.toNatClampNeg 5)) + (Int32.toNatClampNeg 200)) + (Int32.toNatClampNeg 12)) + (Int32.toNatClampNeg 16)) + (Int32.toNatClampNeg 12)) + (Int32.toNatClampNeg 12)) + (Int32.toNatClampNeg 40)) + (Int32.toNatClampNeg 40)) + (Int32.toNatClampNeg 40)) + (Int32.toNatClampNeg 40)) + (Int32.toNatClampNeg 480000)) + (Int32.toNatClampNeg 120000)) + (Int32.toNatClampNeg 60000)) + (Int32.toNatClampNeg 240)) + (Int32.toNatClampNeg 240)) + (Int32.toNatClampNeg 4096)) + (Int32.toNatClampNeg 12)) + (Int32.toNatClampNeg 40000)) + (Int32.toNatClampNeg 20000)) + (Int32.toNatClampNeg 12)) + (Int32.toNatClampNeg 12)) + (Int32.toNatClampNeg 20)) + (Int32.toNatClampNeg 12)) + (Int32.toNatClampNeg 3)) + (Int32.toNatClampNeg 30)) + (Int32.toNatClampNeg 20001)) + (Int32.toNatClampNeg 20000)) + (Int32.toNatClampNeg 101)) + (Int32.toNatClampNeg 2048)) (u1 (u1 (u1 (u1 (u1 (u1 (u1 (u1 (u1 (u1 (u1 (u1 (u1 (u1 (u1 (u1 (u1 (u1 (u1 (u1 (u1 (u1 (u1 (u1 (u1 (u1 (u1 (u1 (u1 (u1 (u1 (u1 (u1 (u1 (u1 (u1 (u1 (u1 (u1 (u1 (u1 (u1 (u1 (u1 (u1 (u1 (u1 (u1 (u1 (u1 (u1 (u1 (u1 (u1 (u1 (u1 (u1 (u1 (u1 (u1 (u1 (fun _ => 0) 0 13) 1 16) 2 13) 3 14) 4 14) 5 14) 6 14) 7 14) 8 14) 9 14) 10 14) 11 14) 12 14) 13 14) 14 14) 15 14) 16 14) 17 14) 18 14) 19 14) 20 16) 21 14) 22 14) 23 14) 24 14) 25 14) 26 14) 27 14) 28 14) 29 14) 30 16) 31 14) 32 14) 33 14) 34 14) 35 14) 36 15) 37 15) 38 15) 39 15) 40 15) 41 15) 42 14) 43 14) 44 15) 45 16) 46 16) 47 16) 48 14) 49 15) 50 16) 51 14) 52 14) 53 14) 54 14) 55 15) 56 15) 57 13) 58 13) 59 14) 60 14) (u1 (u1 (u1 (u1 (u1 (u1 (u1 (u1 (u1 (u1 (u1 (u1 (u1 (u1 (u1 (u1 (u1 (u1 (u1 (u1 (u1 (u1 (u1 (u1 (u1 (u1 (u1 (u1 (u1 (u1 (u1 (u1 (u1 (u1 (u1 (u1 (u1 (u1 (u1 (u1 (u1 (u1 (u1 (u1 (u1 (u1 (u1 (u1 (u1 (u1 (u1 (u1 (u1 (u1 (u1 (u1 (u1 (u1 (u1 (u1 (u1 (fun _ => 0) 0 (Int32.toNatClampNeg 20000)) 1 (Int32.toNatClampNeg 5)) 2 (Int32.toNatClampNeg 100000)) 3 (Int32.toNatClampNeg 5)) 4 (Int32.toNatClampNeg 100000)) 5 (Int32.toNatClampNeg 100000)) 6 (Int32.toNatClampNeg 100000)) 7 (Int32.toNatClampNeg 100000)) 8 (Int32.toNatClampNeg 5)) 9 (Int32.toNatClampNeg 320)) 10 (Int32.toNatClampNeg 5)) 11 (Int32.toNatClampNeg 480)) 12 (Int32.toNatClampNeg 480)) 13 (Int32.toNatClampNeg 20)) 14 (Int32.toNatClampNeg 80)) 15 (Int32.toNatClampNeg 60)) 16 (Int32.toNatClampNeg 60)) 17 (Int32.toNatClampNeg 1200)) 18 (Int32.toNatClampNeg 60)) 19 (Int32.toNatClampNeg 60)) 20 (Int32.toNatClampNeg 60)) 21 (Int32.toNatClampNeg 5)) 22 (Int32.toNatClampNeg 5)) 23 (Int32.toNatClampNeg 120)) 24 (Int32.toNatClampNeg 120)) 25 (Int32.toNatClampNeg 120)) 26 (Int32.toNatClampNeg 30)) 27 (Int32.toNatClampNeg 30)) 28 (Int32.toNatClampNeg 5)) 29 (Int32.toNatClampNeg 30)) 30 (Int32.toNatClampNeg 480)) 31 (Int32.toNatClampNeg 480)) 32 (Int32.toNatClampNeg 5)) 33 (Int32.toNatClampNeg 200)) 34 (Int32.toNatClampNeg 12)) 35 (Int32.toNatClampNeg 16)) 36 (Int32.toNatClampNeg 12)) 37 (Int32.toNatClampNeg 12)) 38 (Int32.toNatClampNeg 40)) 39 (Int32.toNatClampNeg 40)) 40 (Int32.toNatClampNeg 40)) 41 (Int32.toNatClampNeg 40)) 42 (Int32.toNatClampNeg 480000)) 43 (Int32.toNatClampNeg 120000)) 44 (Int32.toNatClampNeg 60000)) 45 (Int32.toNatClampNeg 240)) 46 (Int32.toNatClampNeg 240)) 47 (Int32.toNatClampNeg 4096)) 48 (Int32.toNatClampNeg 12)) 49 (Int32.toNatClampNeg 40000)) 50 (Int32.toNatClampNeg 20000)) 51 (Int32.toNatClampNeg 12)) 52 (Int32.toNatClampNeg 12)) 53 (Int32.toNatClampNeg 20)) 54 (Int32.toNatClampNeg 12)) 55 (Int32.toNatClampNeg 3)) 56 (Int32.toNatClampNeg 30)) 57 (Int32.toNatClampNeg 20001)) 58 (Int32.toNatClampNeg 20000)) 59 (Int32.toNatClampNeg 101)) 60 (Int32.toNatClampNeg 2048)) (u1 (u1 (u1 (gI G x0) 62 (-1)) 78 (-1)) 92 (-1)) (u1 (gJ G x0) 3 1) (u1 (u1 (u1 (u1 (u1 (u1 (u1 (u1 (u1 (u1 (u1 (u1 (u1 (u1 (u1 (u1 (u1 (u1 (u1 (u1 (u1 (u1 (u1 (u1 (u1 (u1 (u1 (u1 (u1 (u1 (u1 (u1 (u1 (u1 (u1 (u1 (u1 (u1 (u1 (u1 (u1 (u1 (u1 (u1 (u1 (u1 (u1 (u1 (u1 (u1 (u1 (u1 (u1 (u1 (u1 (u1 (u1 (u1 (u1 (u1 (u1 (gR G x0) 0 (gT G)) 5 (gT G + 1)) 6 (gT G + 2)) 7 (gT G + 3)) 8 (gT G + 4)) 9 (gT G + 5)) 10 (gT G + 6)) 11 (gT G + 7)) 12 (gT G + 8)) 13 (gT G + 9)) 14 (gT G + 10)) 15 (gT G + 11)) 16 (gT G + 12)) 17 (gT G + 13)) 18 (gT G + 14)) 19 (gT G + 15)) 20 (gT G + 16)) 21 (gT G + 17)) 22 (gT G + 18)) 23 (gT G + 19)) 24 (gT G + 20)) 25 (gT G + 21)) 26 (gT G + 22)) 27 (gT G + 23)) 28 (gT G + 24)) 29 (gT G + 25)) 30 (gT G + 26)) 31 (gT G + 27)) 32 (gT G + 28)) 33 (gT G + 29)) 34 (gT G + 30)) 35 (gT G + 31)) 36 (gT G + 32)) 49 (gT G + 33)) 52 (gT G + 34)) 53 (gT G + 35)) 55 (gT G + 36)) 56 (gT G + 37)) 58 (gT G + 38)) 59 (gT G + 39)) 60 (gT G + 40)) 61 (gT G + 41)) 64 (gT G + 42)) 65 (gT G + 43)) 66 (gT G + 44)) 67 (gT G + 45)) 68 (gT G + 46)) 71 (gT G + 47)) 72 (gT G + 48)) 74 (gT G + 49)) 75 (gT G + 50)) 80 (gT G + 51)) 81 (gT G + 52)) 82 (gT G + 53)) 83 (gT G + 54)) 85 (gT G + 55)) 86 (gT G + 56)) 87 (gT G + 57)) 88 (gT G + 58)) 90 (gT G + 59)) 94 (gT G + 60))) := by
  refine wpM_of mk_X12_init (Nat.le_of_ble_eq_true rfl) ?_
  refine v_X12_init_0 h0 ?_
  have hx := hx0.2.1
  have f := CF_start G x0
  refine ⟨hx0, ?_⟩
  refine ⟨hb, ?_⟩
  intro G6 eG6
  have f := CF_nw hx f eG6
  have hG6 := f.1
  intro G10 eG10
  have f := CF_sR hx f eG10
  have f : CF G x0 G10 _ _ _ _ _ _ _ := f
  have hG10 := f.1
  intro G13 eG13
  have f := CF_sJ hx f eG13
  have hG13 := f.1
  intro G19 eG19
  have f := CF_nw hx f eG19
  have hG19 := f.1
  intro G23 eG23
  have f := CF_sR hx f eG23
  rw [show gT G13 = gT G + 1 from hG13] at f
  have hG23 := f.1
  intro G29 eG29
  have f := CF_nw hx f eG29
  have hG29 := f.1
  intro G33 eG33
  have f := CF_sR hx f eG33
  rw [show gT G23 = gT G + 2 from hG23] at f
  have hG33 := f.1
  intro G39 eG39
  have f := CF_nw hx f eG39
  have hG39 := f.1
  intro G43 eG43
  have f := CF_sR hx f eG43
  rw [show gT G33 = gT G + 3 from hG33] at f
  have hG43 := f.1
  intro G49 eG49
  have f := CF_nw hx f eG49
  have hG49 := f.1
  intro G53 eG53
  have f := CF_sR hx f eG53
  rw [show gT G43 = gT G + 4 from hG43] at f
  have hG53 := f.1
  intro G59 eG59
  have f := CF_nw hx f eG59
  have hG59 := f.1
  intro G63 eG63
  have f := CF_sR hx f eG63
  rw [show gT G53 = gT G + 5 from hG53] at f
  have hG63 := f.1
  intro G69 eG69
  have f := CF_nw hx f eG69
  have hG69 := f.1
  intro G73 eG73
  have f := CF_sR hx f eG73
  rw [show gT G63 = gT G + 6 from hG63] at f
  have hG73 := f.1
  intro G79 eG79
  have f := CF_nw hx f eG79
  have hG79 := f.1
  intro G83 eG83
  have f := CF_sR hx f eG83
  rw [show gT G73 = gT G + 7 from hG73] at f
  have hG83 := f.1
  intro G89 eG89
  have f := CF_nw hx f eG89
  have hG89 := f.1
  intro G93 eG93
  have f := CF_sR hx f eG93
  rw [show gT G83 = gT G + 8 from hG83] at f
  have hG93 := f.1
  intro G99 eG99
  have f := CF_nw hx f eG99
  have hG99 := f.1
  intro G103 eG103
  have f := CF_sR hx f eG103
  rw [show gT G93 = gT G + 9 from hG93] at f
  have hG103 := f.1
  intro G109 eG109
  have f := CF_nw hx f eG109
  have hG109 := f.1
  intro G113 eG113
  have f := CF_sR hx f eG113
  rw [show gT G103 = gT G + 10 from hG103] at f
  have hG113 := f.1
  intro G119 eG119
  have f := CF_nw hx f eG119
  have hG119 := f.1
  intro G123 eG123
  have f := CF_sR hx f eG123
  rw [show gT G113 = gT G + 11 from hG113] at f
  have hG123 := f.1
  intro G129 eG129
  have f := CF_nw hx f eG129
  have hG129 := f.1
  intro G133 eG133
  have f := CF_sR hx f eG133
  rw [show gT G123 = gT G + 12 from hG123] at f
  have hG133 := f.1
  intro G139 eG139
  have f := CF_nw hx f eG139
  have hG139 := f.1
  intro G143 eG143
  have f := CF_sR hx f eG143
  rw [show gT G133 = gT G + 13 from hG133] at f
  have hG143 := f.1
  intro G149 eG149
  have f := CF_nw hx f eG149
  have hG149 := f.1
  intro G153 eG153
  have f := CF_sR hx f eG153
  rw [show gT G143 = gT G + 14 from hG143] at f
  have hG153 := f.1
  intro G159 eG159
  have f := CF_nw hx f eG159
  have hG159 := f.1
  intro G163 eG163
  have f := CF_sR hx f eG163
  rw [show gT G153 = gT G + 15 from hG153] at f
  have hG163 := f.1
  intro G169 eG169
  have f := CF_nw hx f eG169
  have hG169 := f.1
  intro G173 eG173
  have f := CF_sR hx f eG173
  rw [show gT G163 = gT G + 16 from hG163] at f
  have hG173 := f.1
  intro G179 eG179
  have f := CF_nw hx f eG179
  have hG179 := f.1
  intro G183 eG183
  have f := CF_sR hx f eG183
  rw [show gT G173 = gT G + 17 from hG173] at f
  have hG183 := f.1
  intro G189 eG189
  have f := CF_nw hx f eG189
  have hG189 := f.1
  intro G193 eG193
  have f := CF_sR hx f eG193
  rw [show gT G183 = gT G + 18 from hG183] at f
  have hG193 := f.1
  intro G199 eG199
  have f := CF_nw hx f eG199
  have hG199 := f.1
  intro G203 eG203
  have f := CF_sR hx f eG203
  rw [show gT G193 = gT G + 19 from hG193] at f
  have hG203 := f.1
  intro G209 eG209
  have f := CF_nw hx f eG209
  have hG209 := f.1
  intro G213 eG213
  have f := CF_sR hx f eG213
  rw [show gT G203 = gT G + 20 from hG203] at f
  have hG213 := f.1
  intro G219 eG219
  have f := CF_nw hx f eG219
  have hG219 := f.1
  intro G223 eG223
  have f := CF_sR hx f eG223
  rw [show gT G213 = gT G + 21 from hG213] at f
  have hG223 := f.1
  intro G229 eG229
  have f := CF_nw hx f eG229
  have hG229 := f.1
  intro G233 eG233
  have f := CF_sR hx f eG233
  rw [show gT G223 = gT G + 22 from hG223] at f
  have hG233 := f.1
  intro G239 eG239
  have f := CF_nw hx f eG239
  have hG239 := f.1
  intro G243 eG243
  have f := CF_sR hx f eG243
  rw [show gT G233 = gT G + 23 from hG233] at f
  have hG243 := f.1
  intro G249 eG249
  have f := CF_nw hx f eG249
  have hG249 := f.1
  intro G253 eG253
  have f := CF_sR hx f eG253
  rw [show gT G243 = gT G + 24 from hG243] at f
  have hG253 := f.1
  intro G259 eG259
  have f := CF_nw hx f eG259
  have hG259 := f.1
  intro G263 eG263
  have f := CF_sR hx f eG263
  rw [show gT G253 = gT G + 25 from hG253] at f
  have hG263 := f.1
  intro G269 eG269
  have f := CF_nw hx f eG269
  have hG269 := f.1
  intro G273 eG273
  have f := CF_sR hx f eG273
  rw [show gT G263 = gT G + 26 from hG263] at f
  have hG273 := f.1
  intro G279 eG279
  have f := CF_nw hx f eG279
  have hG279 := f.1
  intro G283 eG283
  have f := CF_sR hx f eG283
  rw [show gT G273 = gT G + 27 from hG273] at f
  have hG283 := f.1
  intro G289 eG289
  have f := CF_nw hx f eG289
  have hG289 := f.1
  intro G293 eG293
  have f := CF_sR hx f eG293
  rw [show gT G283 = gT G + 28 from hG283] at f
  have hG293 := f.1
  intro G299 eG299
  have f := CF_nw hx f eG299
  have hG299 := f.1
  intro G303 eG303
  have f := CF_sR hx f eG303
  rw [show gT G293 = gT G + 29 from hG293] at f
  have hG303 := f.1
  intro G309 eG309
  have f := CF_nw hx f eG309
  have hG309 := f.1
  intro G313 eG313
  have f := CF_sR hx f eG313
  rw [show gT G303 = gT G + 30 from hG303] at f
  have hG313 := f.1
  intro G319 eG319
  have f := CF_nw hx f eG319
  have hG319 := f.1
  intro G323 eG323
  have f := CF_sR hx f eG323
  rw [show gT G313 = gT G + 31 from hG313] at f
  have hG323 := f.1
  intro G329 eG329
  have f := CF_nw hx f eG329
  have hG329 := f.1
  intro G333 eG333
  have f := CF_sR hx f eG333
  rw [show gT G323 = gT G + 32 from hG323] at f
  have hG333 := f.1
  intro G339 eG339
  have f := CF_nw hx f eG339
  have hG339 := f.1
  intro G343 eG343
  have f := CF_sR hx f eG343
  rw [show gT G333 = gT G + 33 from hG333] at f
  have hG343 := f.1
  intro G349 eG349
  have f := CF_nw hx f eG349
  have hG349 := f.1
  intro G353 eG353
  have f := CF_sR hx f eG353
  rw [show gT G343 = gT G + 34 from hG343] at f
  have hG353 := f.1
  intro G359 eG359
  have f := CF_nw hx f eG359
  have hG359 := f.1
  intro G363 eG363
  have f := CF_sR hx f eG363
  rw [show gT G353 = gT G + 35 from hG353] at f
  have hG363 := f.1
  intro G369 eG369
  have f := CF_nw hx f eG369
  have hG369 := f.1
  intro G373 eG373
  have f := CF_sR hx f eG373
  rw [show gT G363 = gT G + 36 from hG363] at f
  have hG373 := f.1
  intro G379 eG379
  have f := CF_nw hx f eG379
  have hG379 := f.1
  intro G383 eG383
  have f := CF_sR hx f eG383
  rw [show gT G373 = gT G + 37 from hG373] at f
  have hG383 := f.1
  intro G389 eG389
  have f := CF_nw hx f eG389
  have hG389 := f.1
  intro G393 eG393
  have f := CF_sR hx f eG393
  rw [show gT G383 = gT G + 38 from hG383] at f
  have hG393 := f.1
  intro G399 eG399
  have f := CF_nw hx f eG399
  have hG399 := f.1
  intro G403 eG403
  have f := CF_sR hx f eG403
  rw [show gT G393 = gT G + 39 from hG393] at f
  have hG403 := f.1
  intro G409 eG409
  have f := CF_nw hx f eG409
  have hG409 := f.1
  intro G413 eG413
  have f := CF_sR hx f eG413
  rw [show gT G403 = gT G + 40 from hG403] at f
  have hG413 := f.1
  intro G419 eG419
  have f := CF_nw hx f eG419
  have hG419 := f.1
  intro G423 eG423
  have f := CF_sR hx f eG423
  rw [show gT G413 = gT G + 41 from hG413] at f
  have hG423 := f.1
  intro G426 eG426
  have f := CF_sI hx f eG426
  have hG426 := f.1
  intro G432 eG432
  have f := CF_nw hx f eG432
  have hG432 := f.1
  intro G436 eG436
  have f := CF_sR hx f eG436
  rw [show gT G426 = gT G + 42 from hG426] at f
  have hG436 := f.1
  intro G442 eG442
  have f := CF_nw hx f eG442
  have hG442 := f.1
  intro G446 eG446
  have f := CF_sR hx f eG446
  rw [show gT G436 = gT G + 43 from hG436] at f
  have hG446 := f.1
  intro G452 eG452
  have f := CF_nw hx f eG452
  have hG452 := f.1
  intro G456 eG456
  have f := CF_sR hx f eG456
  rw [show gT G446 = gT G + 44 from hG446] at f
  have hG456 := f.1
  intro G462 eG462
  have f := CF_nw hx f eG462
  have hG462 := f.1
  intro G466 eG466
  have f := CF_sR hx f eG466
  rw [show gT G456 = gT G + 45 from hG456] at f
  have hG466 := f.1
  intro G472 eG472
  have f := CF_nw hx f eG472
  have hG472 := f.1
  intro G476 eG476
  have f := CF_sR hx f eG476
  rw [show gT G466 = gT G + 46 from hG466] at f
  have hG476 := f.1
  intro G482 eG482
  have f := CF_nw hx f eG482
  have hG482 := f.1
  intro G486 eG486
  have f := CF_sR hx f eG486
  rw [show gT G476 = gT G + 47 from hG476] at f
  have hG486 := f.1
  intro G492 eG492
  have f := CF_nw hx f eG492
  have hG492 := f.1
  intro G496 eG496
  have f := CF_sR hx f eG496
  rw [show gT G486 = gT G + 48 from hG486] at f
  have hG496 := f.1
  intro G502 eG502
  have f := CF_nw hx f eG502
  have hG502 := f.1
  intro G506 eG506
  have f := CF_sR hx f eG506
  rw [show gT G496 = gT G + 49 from hG496] at f
  have hG506 := f.1
  intro G512 eG512
  have f := CF_nw hx f eG512
  have hG512 := f.1
  intro G516 eG516
  have f := CF_sR hx f eG516
  rw [show gT G506 = gT G + 50 from hG506] at f
  have hG516 := f.1
  intro G519 eG519
  have f := CF_sI hx f eG519
  have hG519 := f.1
  intro G525 eG525
  have f := CF_nw hx f eG525
  have hG525 := f.1
  intro G529 eG529
  have f := CF_sR hx f eG529
  rw [show gT G519 = gT G + 51 from hG519] at f
  have hG529 := f.1
  intro G535 eG535
  have f := CF_nw hx f eG535
  have hG535 := f.1
  intro G539 eG539
  have f := CF_sR hx f eG539
  rw [show gT G529 = gT G + 52 from hG529] at f
  have hG539 := f.1
  intro G545 eG545
  have f := CF_nw hx f eG545
  have hG545 := f.1
  intro G549 eG549
  have f := CF_sR hx f eG549
  rw [show gT G539 = gT G + 53 from hG539] at f
  have hG549 := f.1
  intro G555 eG555
  have f := CF_nw hx f eG555
  have hG555 := f.1
  intro G559 eG559
  have f := CF_sR hx f eG559
  rw [show gT G549 = gT G + 54 from hG549] at f
  have hG559 := f.1
  intro G565 eG565
  have f := CF_nw hx f eG565
  have hG565 := f.1
  intro G569 eG569
  have f := CF_sR hx f eG569
  rw [show gT G559 = gT G + 55 from hG559] at f
  have hG569 := f.1
  intro G575 eG575
  have f := CF_nw hx f eG575
  have hG575 := f.1
  intro G579 eG579
  have f := CF_sR hx f eG579
  rw [show gT G569 = gT G + 56 from hG569] at f
  have hG579 := f.1
  intro G585 eG585
  have f := CF_nw hx f eG585
  have hG585 := f.1
  intro G589 eG589
  have f := CF_sR hx f eG589
  rw [show gT G579 = gT G + 57 from hG579] at f
  have hG589 := f.1
  intro G595 eG595
  have f := CF_nw hx f eG595
  have hG595 := f.1
  intro G599 eG599
  have f := CF_sR hx f eG599
  rw [show gT G589 = gT G + 58 from hG589] at f
  have hG599 := f.1
  intro G605 eG605
  have f := CF_nw hx f eG605
  have hG605 := f.1
  intro G609 eG609
  have f := CF_sR hx f eG609
  rw [show gT G599 = gT G + 59 from hG599] at f
  have hG609 := f.1
  intro G612 eG612
  have f := CF_sI hx f eG612
  have hG612 := f.1
  intro G618 eG618
  have f := CF_nw hx f eG618
  have hG618 := f.1
  intro G622 eG622
  have f := CF_sR hx f eG622
  rw [show gT G612 = gT G + 60 from hG612] at f
  have hG622 := f.1
  exact ⟨rfl, f⟩

