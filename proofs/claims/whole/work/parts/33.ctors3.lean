/-! the constructor of the class itself (by program) -/
def cs_X11_init (T : Nat) (u : Nat) (kd ln : Nat → Nat) (cI : Nat → Nat → Int32) (cJ : Nat → Nat → Int64) (cR : Nat → Nat → Nat) (tI : Nat → Int32) (tJ : Nat → Int64) (tR : Nat → Nat) : Prop := u = 1627 ∧ tI 9 = 0 ∧ tJ 10 = 0 ∧ tJ 11 = 1 ∧ tR 0 = T + 0 ∧ tR 1 = T + 2 ∧ tR 2 = T + 7 ∧ tR 3 = T + 9 ∧ tR 4 = T + 10 ∧ tR 5 = T + 16 ∧ tR 6 = T + 20 ∧ tR 7 = T + 23 ∧ tR 8 = 0 ∧ kd 0 = 0 ∧ cI 0 1 = 0 ∧ cR 0 0 = T + 1 ∧ kd 1 = 13 ∧ ln 1 = 256 ∧ cI 1 = (fun _ => 0) ∧ cJ 1 = (fun _ => 0) ∧ cR 1 = (fun _ => 0) ∧ kd 2 = 10 ∧ cI 2 4 = 0 ∧ cI 2 5 = 0 ∧ cI 2 6 = 0 ∧ cI 2 8 = 0 ∧ cI 2 9 = 0 ∧ cI 2 10 = 0 ∧ cI 2 11 = 0 ∧ cJ 2 7 = 0 ∧ cR 2 0 = T + 3 ∧ cR 2 1 = T + 4 ∧ cR 2 2 = T + 5 ∧ cR 2 3 = T + 6 ∧ kd 3 = 14 ∧ ln 3 = 64 ∧ cI 3 = (fun _ => 0) ∧ cJ 3 = (fun _ => 0) ∧ cR 3 = (fun _ => 0) ∧ kd 4 = 15 ∧ ln 4 = 64 ∧ cI 4 = (fun _ => 0) ∧ cJ 4 = (fun _ => 0) ∧ cR 4 = (fun _ => 0) ∧ kd 5 = 14 ∧ ln 5 = 64 ∧ cI 5 = (fun _ => 0) ∧ cJ 5 = (fun _ => 0) ∧ cR 5 = (fun _ => 0) ∧ kd 6 = 14 ∧ ln 6 = 64 ∧ cI 6 = (fun _ => 0) ∧ cJ 6 = (fun _ => 0) ∧ cR 6 = (fun _ => 0) ∧ kd 7 = 5 ∧ cI 7 4 = 0 ∧ cI 7 5 = 0 ∧ cI 7 6 = 0 ∧ cI 7 7 = 0 ∧ cI 7 8 = 0 ∧ cI 7 10 = 0 ∧ cJ 7 3 = 0 ∧ cR 7 0 = T + 2 ∧ cR 7 1 = 0 ∧ cR 7 2 = 0 ∧ cR 7 9 = T + 8 ∧ kd 8 = 14 ∧ ln 8 = 199 ∧ cI 8 = (fun _ => 0) ∧ cJ 8 = (fun _ => 0) ∧ cR 8 = (fun _ => 0) ∧ kd 9 = 17 ∧ ln 9 = 4 ∧ cI 9 = (fun _ => 0) ∧ cJ 9 = (fun _ => 0) ∧ cR 9 = (fun _ => 0) ∧ kd 10 = 1 ∧ cI 10 4 = 0 ∧ cR 10 0 = T + 11 ∧ cR 10 1 = T + 12 ∧ cR 10 2 = T + 13 ∧ cR 10 3 = T + 14 ∧ cR 10 5 = T + 15 ∧ kd 11 = 14 ∧ ln 11 = 12 ∧ cI 11 = (fun _ => 0) ∧ cJ 11 = (fun _ => 0) ∧ cR 11 = (fun _ => 0) ∧ kd 12 = 14 ∧ ln 12 = 288 ∧ cI 12 = (fun _ => 0) ∧ cJ 12 = (fun _ => 0) ∧ cR 12 = (fun _ => 0) ∧ kd 13 = 14 ∧ ln 13 = 12 ∧ cI 13 = (fun _ => 0) ∧ cJ 13 = (fun _ => 0) ∧ cR 13 = (fun _ => 0) ∧ kd 14 = 14 ∧ ln 14 = 12 ∧ cI 14 = (fun _ => 0) ∧ cJ 14 = (fun _ => 0) ∧ cR 14 = (fun _ => 0) ∧ kd 15 = 16 ∧ ln 15 = 0 ∧ cI 15 = (fun _ => 0) ∧ cJ 15 = (fun _ => 0) ∧ cR 15 = (fun _ => 0) ∧ kd 16 = 6 ∧ cI 16 0 = 0 ∧ cI 16 1 = 1 ∧ cI 16 2 = 0 ∧ cI 16 3 = (-1) ∧ cI 16 5 = 0 ∧ cI 16 8 = 0 ∧ cI 16 9 = 0 ∧ cI 16 10 = 0 ∧ cI 16 11 = 0 ∧ cI 16 12 = 0 ∧ cI 16 13 = 0 ∧ cR 16 4 = T + 17 ∧ cR 16 6 = T + 18 ∧ cR 16 7 = T + 19 ∧ kd 17 = 14 ∧ ln 17 = 12 ∧ cI 17 = (fun _ => 0) ∧ cJ 17 = (fun _ => 0) ∧ cR 17 = (fun _ => 0) ∧ kd 18 = 14 ∧ ln 18 = 20 ∧ cI 18 = (fun _ => 0) ∧ cJ 18 = (fun _ => 0) ∧ cR 18 = (fun _ => 0) ∧ kd 19 = 14 ∧ ln 19 = 12 ∧ cI 19 = (fun _ => 0) ∧ cJ 19 = (fun _ => 0) ∧ cR 19 = (fun _ => 0) ∧ kd 20 = 4 ∧ cR 20 0 = T + 2 ∧ cR 20 1 = T + 21 ∧ cR 20 2 = T + 22 ∧ kd 21 = 14 ∧ ln 21 = 30 ∧ cI 21 = (fun _ => 0) ∧ cJ 21 = (fun _ => 0) ∧ cR 21 = (fun _ => 0) ∧ kd 22 = 15 ∧ ln 22 = 3 ∧ cI 22 = (fun _ => 0) ∧ cJ 22 = (fun _ => 0) ∧ cR 22 = (fun _ => 0) ∧ kd 23 = 8 ∧ cI 23 1 = 0 ∧ cI 23 4 = (-1) ∧ cR 23 0 = T + 24 ∧ cR 23 2 = T + 26 ∧ cR 23 3 = T + 27 ∧ kd 24 = 0 ∧ cI 24 1 = 0 ∧ cR 24 0 = T + 25 ∧ kd 25 = 13 ∧ ln 25 = 256 ∧ cI 25 = (fun _ => 0) ∧ cJ 25 = (fun _ => 0) ∧ cR 25 = (fun _ => 0) ∧ kd 26 = 14 ∧ ln 26 = 100 ∧ cI 26 = (fun _ => 0) ∧ cJ 26 = (fun _ => 0) ∧ cR 26 = (fun _ => 0) ∧ kd 27 = 14 ∧ ln 27 = 100 ∧ cI 27 = (fun _ => 0) ∧ cJ 27 = (fun _ => 0) ∧ cR 27 = (fun _ => 0)
set_option maxHeartbeats 40000000 in
theorem c_X11_init {E : EE} {d : Nat} {x0 : Nat} {G : AH} (h0 : 3 < d) (hx0 : isO E G x0 11) (hb : eB E ≤ gT G) : wpV E d M_X11_init [vr x0] G (fun G' => ∃ (u : Nat) (kd ln : Nat → Nat) (cI : Nat → Nat → Int32) (cJ : Nat → Nat → Int64) (cR : Nat → Nat → Nat) (tI : Nat → Int32) (tJ : Nat → Int64) (tR : Nat → Nat), CG G x0 G' 28 u kd ln cI cJ cR tI tJ tR ∧ cs_X11_init (gT G) u kd ln cI cJ cR tI tJ tR) := by
  refine wpM_of mk_X11_init (Nat.le_of_ble_eq_true rfl) ?_
  refine v_X11_init_0 (by omega) ?_
  have hx := hx0.2.1
  have f := CG_start G x0
  refine ⟨hx0, ?_⟩
  refine ⟨hb, ?_⟩
  intro G6 eG6
  refine wpV.mono (c_X0_init (by omega) (isO_newE eG6 (by exact hb)) (base_nwE eG6 (by exact hb))) (fun G10 qG10 => ?_)
  rw [show gT G6 = _ from (CG_nw hx f eG6).1] at qG10
  have f := CG_call hx f eG6 (CG_of qG10)
  have hG10 := f.1
  refine ⟨⟨hx0.1, by rw [hG10]; omega, ((f.2.2.1 x0 hx).1).trans hx0.2.2⟩, ?_⟩
  intro G12 eG12
  have f := CG_sR hx f eG12
  have hG12 := f.1
  refine ⟨by rw [hG12]; omega, ?_⟩
  intro G18 eG18
  refine wpV.mono (c_X10_init (by omega) (isO_newE eG18 (by rw [hG12]; omega)) (base_nwE eG18 (by rw [hG12]; omega))) (fun G22 qG22 => ?_)
  rw [show gT G18 = _ from (CG_nw hx f eG18).1] at qG22
  have f := CG_call hx f eG18 (CG_of qG22)
  have hG22 := f.1
  refine ⟨⟨hx0.1, by rw [hG22]; omega, ((f.2.2.1 x0 hx).1).trans hx0.2.2⟩, ?_⟩
  intro G24 eG24
  have f := CG_sR hx f eG24
  rw [hG12] at f
  have hG24 := f.1
  refine ⟨by rw [hG24]; omega, ?_⟩
  intro G30 eG30
  have hv : gR G30 x0 1 = gT G + 2 := by have q := (CG_nw hx f eG30).2.2.2.2.2.2.1; rw [q]; rfl
  rw [hv]
  refine wpV.mono (c_X5_init (by omega) (isO_newE eG30 (by rw [hG24]; omega)) (base_nwE eG30 (by rw [hG24]; omega))) (fun G34 qG34 => ?_)
  rw [show gT G30 = _ from (CG_nw hx f eG30).1] at qG34
  have f := CG_call hx f eG30 (CG_of qG34)
  have hG34 := f.1
  refine ⟨⟨hx0.1, by rw [hG34]; omega, ((f.2.2.1 x0 hx).1).trans hx0.2.2⟩, ?_⟩
  intro G36 eG36
  have f := CG_sR hx f eG36
  rw [hG24] at f
  have hG36 := f.1
  refine ⟨by rw [hG36]; omega, ?_⟩
  intro G42 eG42
  have f := CG_nw hx f eG42
  have hG42 := f.1
  intro G46 eG46
  have f := CG_sR hx f eG46
  rw [hG36] at f
  have hG46 := f.1
  intro G52 eG52
  refine wpV.mono (c_X1_init (by omega) (isO_newE eG52 (by rw [hG46]; omega)) (base_nwE eG52 (by rw [hG46]; omega))) (fun G56 qG56 => ?_)
  rw [show gT G52 = _ from (CG_nw hx f eG52).1] at qG56
  have f := CG_call hx f eG52 (CG_of qG56)
  have hG56 := f.1
  refine ⟨⟨hx0.1, by rw [hG56]; omega, ((f.2.2.1 x0 hx).1).trans hx0.2.2⟩, ?_⟩
  intro G58 eG58
  have f := CG_sR hx f eG58
  rw [hG46] at f
  have hG58 := f.1
  refine ⟨by rw [hG58]; omega, ?_⟩
  intro G64 eG64
  refine wpV.mono (c_X6_init (by omega) (isO_newE eG64 (by rw [hG58]; omega)) (base_nwE eG64 (by rw [hG58]; omega))) (fun G68 qG68 => ?_)
  rw [show gT G64 = _ from (CG_nw hx f eG64).1] at qG68
  have f := CG_call hx f eG64 (CG_of qG68)
  have hG68 := f.1
  refine ⟨⟨hx0.1, by rw [hG68]; omega, ((f.2.2.1 x0 hx).1).trans hx0.2.2⟩, ?_⟩
  intro G70 eG70
  have f := CG_sR hx f eG70
  rw [hG58] at f
  have hG70 := f.1
  refine ⟨by rw [hG70]; omega, ?_⟩
  intro G76 eG76
  have hv : gR G76 x0 1 = gT G + 2 := by have q := (CG_nw hx f eG76).2.2.2.2.2.2.1; rw [q]; rfl
  rw [hv]
  refine wpV.mono (c_X4_init (by omega) (isO_newE eG76 (by rw [hG70]; omega)) (base_nwE eG76 (by rw [hG70]; omega))) (fun G80 qG80 => ?_)
  rw [show gT G76 = _ from (CG_nw hx f eG76).1] at qG80
  have f := CG_call hx f eG76 (CG_of qG80)
  have hG80 := f.1
  refine ⟨⟨hx0.1, by rw [hG80]; omega, ((f.2.2.1 x0 hx).1).trans hx0.2.2⟩, ?_⟩
  intro G82 eG82
  have f := CG_sR hx f eG82
  rw [hG70] at f
  have hG82 := f.1
  refine ⟨by rw [hG82]; omega, ?_⟩
  intro G88 eG88
  refine wpV.mono (c_X8_init (by omega) (isO_newE eG88 (by rw [hG82]; omega)) (base_nwE eG88 (by rw [hG82]; omega))) (fun G92 qG92 => ?_)
  rw [show gT G88 = _ from (CG_nw hx f eG88).1] at qG92
  obtain ⟨u8, kd8, ln8, cI8, cJ8, cR8, tI8, tJ8, tR8, q8, s8⟩ := qG92
  unfold cs_X8_init at s8
  obtain ⟨rfl, a0, a1, a2, a3, a4, a5, a6, a7, a8, a9, a10, a11, a12, a13, a14, a15, a16, a17, a18, a19, a20, a21, a22⟩ := s8
  have f := CG_call hx f eG88 q8
  have hG92 := f.1
  refine ⟨⟨hx0.1, by rw [hG92]; omega, ((f.2.2.1 x0 hx).1).trans hx0.2.2⟩, ?_⟩
  intro G94 eG94
  have f := CG_sR hx f eG94
  rw [hG82] at f
  have hG94 := f.1
  intro G96 eG96
  have f := CG_sR hx f eG96
  have hG96 := f.1
  intro G98 eG98
  have f := CG_sI hx f eG98
  have hG98 := f.1
  intro G100 eG100
  have f := CG_sJ hx f eG100
  have hG100 := f.1
  intro G102 eG102
  have f := CG_sJ hx f eG102
  have hG102 := f.1
  exact ⟨rfl, _, _, _, _, _, _, _, _, _, f, rfl, rfl, rfl, rfl, rfl, rfl, rfl, rfl, rfl, rfl, rfl, rfl, rfl, rfl, rfl, rfl, rfl, rfl, rfl, rfl, rfl, rfl, rfl, rfl, rfl, rfl, rfl, rfl, rfl, rfl, rfl, rfl, rfl, rfl, rfl, rfl, rfl, rfl, rfl, rfl, rfl, rfl, rfl, rfl, rfl, rfl, rfl, rfl, rfl, rfl, rfl, rfl, rfl, rfl, rfl, rfl, rfl, rfl, rfl, rfl, rfl, rfl, rfl, rfl, rfl, rfl, rfl, rfl, rfl, rfl, rfl, rfl, rfl, rfl, rfl, rfl, rfl, rfl, rfl, rfl, rfl, rfl, rfl, rfl, rfl, rfl, rfl, rfl, rfl, rfl, rfl, rfl, rfl, rfl, rfl, rfl, rfl, rfl, rfl, rfl, rfl, rfl, rfl, rfl, rfl, rfl, rfl, rfl, rfl, rfl, rfl, rfl, rfl, rfl, rfl, rfl, rfl, rfl, rfl, rfl, rfl, rfl, rfl, rfl, rfl, rfl, rfl, rfl, rfl, rfl, rfl, rfl, rfl, rfl, rfl, rfl, rfl, rfl, rfl, rfl, rfl, rfl, rfl, rfl, rfl, rfl, rfl, rfl, rfl, rfl, rfl, rfl, rfl, a0, a1, a2, a3, a4, a5, a6, a7, a8, a9, a10, a11, a12, a13, a14, a15, a16, a17, a18, a19, a20, a21, a22⟩
