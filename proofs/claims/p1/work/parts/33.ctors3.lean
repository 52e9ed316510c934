/-! the constructor of the class itself (by program) -/
/-- cell a is in G' as it was in G -/
def Sm (G G' : AH) (a : Nat) : Prop := gK G' a = gK G a ∧ gN G' a = gN G a ∧ gI G' a = gI G a ∧ gJ G' a = gJ G a ∧ gR G' a = gR G a
theorem Sm.trans {G G' G2 : AH} {a : Nat} (h : Sm G G' a) (k : Sm G' G2 a) : Sm G G2 a := ⟨k.1.trans h.1, k.2.1.trans h.2.1, k.2.2.1.trans h.2.2.1, k.2.2.2.1.trans h.2.2.2.1, k.2.2.2.2.trans h.2.2.2.2⟩
theorem ne_add {x T k : Nat} (h : x < T) : T + k ≠ x := by omega
/-- all cells but x are as they were -/
def Pv (x : Nat) (G G' : AH) : Prop := gT G ≤ gT G' ∧ ∀ a, a < gT G → a ≠ x → Sm G G' a
theorem Pv.rf (x : Nat) (G : AH) : Pv x G G := ⟨Nat.le_refl _, fun _ _ _ => ⟨rfl, rfl, rfl, rfl, rfl⟩⟩
theorem Pv.trans {x : Nat} {G G' G2 : AH} (h : Pv x G G') (k : Pv x G' G2) : Pv x G G2 := ⟨Nat.le_trans h.1 k.1, fun a h1 h2 => (h.2 a h1 h2).trans (k.2 a (Nat.lt_of_lt_of_le h1 h.1) h2)⟩
theorem Pv_sI {x k : Nat} {v : Int32} {G G1 : AH} (e : G1 = sI G x k v) : Pv x G G1 := by subst e; exact ⟨Nat.le_refl _, fun a _ h => ⟨rfl, rfl, u2_ne h, rfl, rfl⟩⟩
theorem Pv_sJ {x k : Nat} {v : Int64} {G G1 : AH} (e : G1 = sJ G x k v) : Pv x G G1 := by subst e; exact ⟨Nat.le_refl _, fun a _ h => ⟨rfl, rfl, rfl, u2_ne h, rfl⟩⟩
theorem Pv_sR {x k : Nat} {v : Nat} {G G1 : AH} (e : G1 = sR G x k v) : Pv x G G1 := by subst e; exact ⟨Nat.le_refl _, fun a _ h => ⟨rfl, rfl, rfl, rfl, u2_ne h⟩⟩
theorem Pv_nw {x k m w : Nat} {G G1 : AH} (e : G1 = nw G k m w) : Pv x G G1 := by subst e; exact ⟨Nat.le_succ _, fun a h _ => nw_ne (Nat.ne_of_lt h)⟩
theorem Pv_cg {x y n u : Nat} {G G1 : AH} {kd ln : Nat → Nat} {cI : Nat → Nat → Int32} {cJ : Nat → Nat → Int64} {cR : Nat → Nat → Nat} {tI : Nat → Int32} {tJ : Nat → Int64} {tR : Nat → Nat} (f : CG G y G1 n u kd ln cI cJ cR tI tJ tR) (hy : ∀ a, a < gT G → a ≠ x → a ≠ y → True) : gT G ≤ gT G1 ∧ ∀ a, a < gT G → a ≠ y → Sm G G1 a := ⟨by rw [f.1]; omega, fun a h1 h2 => ⟨(f.2.2.1 a h1).1, (f.2.2.1 a h1).2, (f.2.2.2.1 a h1 h2).1, (f.2.2.2.1 a h1 h2).2.1, (f.2.2.2.1 a h1 h2).2.2⟩⟩
theorem Pv_call {x c w n u : Nat} {G G1 G2 : AH} {kd ln : Nat → Nat} {cI : Nat → Nat → Int32} {cJ : Nat → Nat → Int64} {cR : Nat → Nat → Nat} {tI : Nat → Int32} {tJ : Nat → Int64} {tR : Nat → Nat} (e : G1 = nw G c 0 w) (f : CG G1 (gT G) G2 n u kd ln cI cJ cR tI tJ tR) : Pv x G G2 := by
  have p1 := Pv_nw (x := x) e
  have p2 := Pv_cg (x := x) f (fun _ _ _ _ => trivial)
  exact ⟨Nat.le_trans p1.1 p2.1, fun a h1 h2 => (p1.2 a h1 h2).trans (p2.2 a (Nat.lt_of_lt_of_le h1 p1.1) (Nat.ne_of_lt h1))⟩
/-- the object alone -/
def CH (G0 : AH) (x : Nat) (G : AH) (n u : Nat) (tI : Nat → Int32) (tJ : Nat → Int64) (tR : Nat → Nat) : Prop := ∃ kd ln cI cJ cR, CG G0 x G n u kd ln cI cJ cR tI tJ tR
section
variable {G0 G G1 G2 : AH} {x n u : Nat} {tI : Nat → Int32} {tJ : Nat → Int64} {tR : Nat → Nat}
theorem CH.T (f : CH G0 x G n u tI tJ tR) : gT G = gT G0 + n := by obtain ⟨_, _, _, _, _, f⟩ := f; exact f.1
theorem CH.U (f : CH G0 x G n u tI tJ tR) : gU G = gU G0 + u := by obtain ⟨_, _, _, _, _, f⟩ := f; exact f.2.1
theorem CH.K (f : CH G0 x G n u tI tJ tR) (hx : x < gT G0) : gK G x = gK G0 x := by obtain ⟨_, _, _, _, _, f⟩ := f; exact (f.2.2.1 x hx).1
theorem CH.R (f : CH G0 x G n u tI tJ tR) : gR G x = tR := by obtain ⟨_, _, _, _, _, f⟩ := f; exact f.2.2.2.2.2.2.1
theorem CH.I (f : CH G0 x G n u tI tJ tR) : gI G x = tI := by obtain ⟨_, _, _, _, _, f⟩ := f; exact f.2.2.2.2.1
theorem CH.J (f : CH G0 x G n u tI tJ tR) : gJ G x = tJ := by obtain ⟨_, _, _, _, _, f⟩ := f; exact f.2.2.2.2.2.1
theorem CH_start (G : AH) (x : Nat) : CH G x G 0 0 (gI G x) (gJ G x) (gR G x) := ⟨_, _, _, _, _, CG_start G x⟩
theorem CH_sI {k : Nat} {v : Int32} (hx : x < gT G0) (f : CH G0 x G n u tI tJ tR) (e : G1 = sI G x k v) : CH G0 x G1 n u (u1 tI k v) tJ tR := by obtain ⟨_, _, _, _, _, f⟩ := f; exact ⟨_, _, _, _, _, CG_sI hx f e⟩
theorem CH_sJ {k : Nat} {v : Int64} (hx : x < gT G0) (f : CH G0 x G n u tI tJ tR) (e : G1 = sJ G x k v) : CH G0 x G1 n u tI (u1 tJ k v) tR := by obtain ⟨_, _, _, _, _, f⟩ := f; exact ⟨_, _, _, _, _, CG_sJ hx f e⟩
theorem CH_sR {k : Nat} {v : Nat} (hx : x < gT G0) (f : CH G0 x G n u tI tJ tR) (e : G1 = sR G x k v) : CH G0 x G1 n u tI tJ (u1 tR k v) := by obtain ⟨_, _, _, _, _, f⟩ := f; exact ⟨_, _, _, _, _, CG_sR hx f e⟩
theorem CH_nw {k m w : Nat} (hx : x < gT G0) (f : CH G0 x G n u tI tJ tR) (e : G1 = nw G k m w) : CH G0 x G1 (n + 1) (u + w) tI tJ tR := by obtain ⟨_, _, _, _, _, f⟩ := f; exact ⟨_, _, _, _, _, CG_nw hx f e⟩
theorem CH_call {c w n' u' : Nat} {kd' ln' : Nat → Nat} {cI' : Nat → Nat → Int32} {cJ' : Nat → Nat → Int64} {cR' : Nat → Nat → Nat} {tI' : Nat → Int32} {tJ' : Nat → Int64} {tR' : Nat → Nat} (hx : x < gT G0) (f : CH G0 x G n u tI tJ tR) (e : G1 = nw G c 0 w) (g : CG G1 (gT G) G2 n' u' kd' ln' cI' cJ' cR' tI' tJ' tR') : CH G0 x G2 (n + 1 + n') (u + w + u') tI tJ tR := by obtain ⟨_, _, _, _, _, f⟩ := f; exact ⟨_, _, _, _, _, CG_call hx f e g⟩
end
def cs_X11_init (x T : Nat) (G' : AH) : Prop := gI G' x 9 = 0 ∧ gJ G' x 10 = 0 ∧ gJ G' x 11 = 1 ∧ gR G' x 0 = T + 0 ∧ gR G' x 1 = T + 2 ∧ gR G' x 2 = T + 7 ∧ gR G' x 3 = T + 9 ∧ gR G' x 4 = T + 10 ∧ gR G' x 5 = T + 16 ∧ gR G' x 6 = T + 20 ∧ gR G' x 7 = T + 23 ∧ gR G' x 8 = 0 ∧ gK G' (T + 0) = 0 ∧ gI G' (T + 0) 1 = 0 ∧ gR G' (T + 0) 0 = T + 1 ∧ gK G' (T + 1) = 13 ∧ gN G' (T + 1) = 256 ∧ gI G' (T + 1) = (fun _ => 0) ∧ gJ G' (T + 1) = (fun _ => 0) ∧ gR G' (T + 1) = (fun _ => 0) ∧ gK G' (T + 2) = 10 ∧ gI G' (T + 2) 4 = 0 ∧ gI G' (T + 2) 5 = 0 ∧ gI G' (T + 2) 6 = 0 ∧ gI G' (T + 2) 8 = 0 ∧ gI G' (T + 2) 9 = 0 ∧ gI G' (T + 2) 10 = 0 ∧ gI G' (T + 2) 11 = 0 ∧ gJ G' (T + 2) 7 = 0 ∧ gR G' (T + 2) 0 = T + 3 ∧ gR G' (T + 2) 1 = T + 4 ∧ gR G' (T + 2) 2 = T + 5 ∧ gR G' (T + 2) 3 = T + 6 ∧ gK G' (T + 3) = 14 ∧ gN G' (T + 3) = 64 ∧ gI G' (T + 3) = (fun _ => 0) ∧ gJ G' (T + 3) = (fun _ => 0) ∧ gR G' (T + 3) = (fun _ => 0) ∧ gK G' (T + 4) = 15 ∧ gN G' (T + 4) = 64 ∧ gI G' (T + 4) = (fun _ => 0) ∧ gJ G' (T + 4) = (fun _ => 0) ∧ gR G' (T + 4) = (fun _ => 0) ∧ gK G' (T + 5) = 14 ∧ gN G' (T + 5) = 64 ∧ gI G' (T + 5) = (fun _ => 0) ∧ gJ G' (T + 5) = (fun _ => 0) ∧ gR G' (T + 5) = (fun _ => 0) ∧ gK G' (T + 6) = 14 ∧ gN G' (T + 6) = 64 ∧ gI G' (T + 6) = (fun _ => 0) ∧ gJ G' (T + 6) = (fun _ => 0) ∧ gR G' (T + 6) = (fun _ => 0) ∧ gK G' (T + 7) = 5 ∧ gI G' (T + 7) 4 = 0 ∧ gI G' (T + 7) 5 = 0 ∧ gI G' (T + 7) 6 = 0 ∧ gI G' (T + 7) 7 = 0 ∧ gI G' (T + 7) 8 = 0 ∧ gI G' (T + 7) 10 = 0 ∧ gJ G' (T + 7) 3 = 0 ∧ gR G' (T + 7) 0 = T + 2 ∧ gR G' (T + 7) 1 = 0 ∧ gR G' (T + 7) 2 = 0 ∧ gR G' (T + 7) 9 = T + 8 ∧ gK G' (T + 8) = 14 ∧ gN G' (T + 8) = 199 ∧ gI G' (T + 8) = (fun _ => 0) ∧ gJ G' (T + 8) = (fun _ => 0) ∧ gR G' (T + 8) = (fun _ => 0) ∧ gK G' (T + 10) = 1 ∧ gI G' (T + 10) 4 = 0 ∧ gR G' (T + 10) 0 = T + 11 ∧ gR G' (T + 10) 1 = T + 12 ∧ gR G' (T + 10) 2 = T + 13 ∧ gR G' (T + 10) 3 = T + 14 ∧ gR G' (T + 10) 5 = T + 15 ∧ gK G' (T + 11) = 14 ∧ gN G' (T + 11) = 12 ∧ gI G' (T + 11) = (fun _ => 0) ∧ gJ G' (T + 11) = (fun _ => 0) ∧ gR G' (T + 11) = (fun _ => 0) ∧ gK G' (T + 12) = 14 ∧ gN G' (T + 12) = 288 ∧ gI G' (T + 12) = (fun _ => 0) ∧ gJ G' (T + 12) = (fun _ => 0) ∧ gR G' (T + 12) = (fun _ => 0) ∧ gK G' (T + 13) = 14 ∧ gN G' (T + 13) = 12 ∧ gI G' (T + 13) = (fun _ => 0) ∧ gJ G' (T + 13) = (fun _ => 0) ∧ gR G' (T + 13) = (fun _ => 0) ∧ gK G' (T + 14) = 14 ∧ gN G' (T + 14) = 12 ∧ gI G' (T + 14) = (fun _ => 0) ∧ gJ G' (T + 14) = (fun _ => 0) ∧ gR G' (T + 14) = (fun _ => 0) ∧ gK G' (T + 15) = 16 ∧ gN G' (T + 15) = 0 ∧ gI G' (T + 15) = (fun _ => 0) ∧ gJ G' (T + 15) = (fun _ => 0) ∧ gR G' (T + 15) = (fun _ => 0) ∧ gK G' (T + 16) = 6 ∧ gI G' (T + 16) 0 = 0 ∧ gI G' (T + 16) 1 = 1 ∧ gI G' (T + 16) 2 = 0 ∧ gI G' (T + 16) 3 = (-1) ∧ gI G' (T + 16) 5 = 0 ∧ gI G' (T + 16) 8 = 0 ∧ gI G' (T + 16) 9 = 0 ∧ gI G' (T + 16) 10 = 0 ∧ gI G' (T + 16) 11 = 0 ∧ gI G' (T + 16) 12 = 0 ∧ gI G' (T + 16) 13 = 0 ∧ gR G' (T + 16) 4 = T + 17 ∧ gR G' (T + 16) 6 = T + 18 ∧ gR G' (T + 16) 7 = T + 19 ∧ gK G' (T + 17) = 14 ∧ gN G' (T + 17) = 12 ∧ gI G' (T + 17) = (fun _ => 0) ∧ gJ G' (T + 17) = (fun _ => 0) ∧ gR G' (T + 17) = (fun _ => 0) ∧ gK G' (T + 18) = 14 ∧ gN G' (T + 18) = 20 ∧ gI G' (T + 18) = (fun _ => 0) ∧ gJ G' (T + 18) = (fun _ => 0) ∧ gR G' (T + 18) = (fun _ => 0) ∧ gK G' (T + 19) = 14 ∧ gN G' (T + 19) = 12 ∧ gI G' (T + 19) = (fun _ => 0) ∧ gJ G' (T + 19) = (fun _ => 0) ∧ gR G' (T + 19) = (fun _ => 0) ∧ gK G' (T + 20) = 4 ∧ gR G' (T + 20) 0 = T + 2 ∧ gR G' (T + 20) 1 = T + 21 ∧ gR G' (T + 20) 2 = T + 22 ∧ gK G' (T + 21) = 14 ∧ gN G' (T + 21) = 30 ∧ gI G' (T + 21) = (fun _ => 0) ∧ gJ G' (T + 21) = (fun _ => 0) ∧ gR G' (T + 21) = (fun _ => 0) ∧ gK G' (T + 22) = 15 ∧ gN G' (T + 22) = 3 ∧ gI G' (T + 22) = (fun _ => 0) ∧ gJ G' (T + 22) = (fun _ => 0) ∧ gR G' (T + 22) = (fun _ => 0) ∧ gK G' (T + 23) = 8 ∧ gI G' (T + 23) 1 = 0 ∧ gI G' (T + 23) 4 = (-1) ∧ gR G' (T + 23) 0 = T + 24 ∧ gR G' (T + 23) 2 = T + 26 ∧ gR G' (T + 23) 3 = T + 27 ∧ gK G' (T + 24) = 0 ∧ gI G' (T + 24) 1 = 0 ∧ gR G' (T + 24) 0 = T + 25 ∧ gK G' (T + 25) = 13 ∧ gN G' (T + 25) = 256 ∧ gI G' (T + 25) = (fun _ => 0) ∧ gJ G' (T + 25) = (fun _ => 0) ∧ gR G' (T + 25) = (fun _ => 0) ∧ gK G' (T + 26) = 14 ∧ gN G' (T + 26) = 100 ∧ gI G' (T + 26) = (fun _ => 0) ∧ gJ G' (T + 26) = (fun _ => 0) ∧ gR G' (T + 26) = (fun _ => 0) ∧ gK G' (T + 27) = 14 ∧ gN G' (T + 27) = 100 ∧ gI G' (T + 27) = (fun _ => 0) ∧ gJ G' (T + 27) = (fun _ => 0) ∧ gR G' (T + 27) = (fun _ => 0) ∧ gK G' (T + 9) = 17 ∧ gN G' (T + 9) = 4 ∧ gI G' (T + 9) = (fun _ => 0) ∧ gJ G' (T + 9) = (fun _ => 0) ∧ gR G' (T + 9) = (fun _ => 0)
set_option maxHeartbeats 20000000 in
theorem c_X11_init {E : EE} {d : Nat} {x0 : Nat} {G : AH} (h0 : 3 < d) (hx0 : isO E G x0 11) (hb : eB E ≤ gT G) : wpV E d M_X11_init [vr x0] G (fun G' => gT G' = gT G + 28 ∧ gU G' = gU G + 1627 ∧ gK G' x0 = 11 ∧ Pv x0 G G' ∧ cs_X11_init x0 (gT G) G') := by
  refine wpM_of mk_X11_init (Nat.le_of_ble_eq_true rfl) ?_
  refine v_X11_init_0 (by omega) ?_
  have hd1 : 0 < d - 1 := by omega
  have hd2 : 1 < d - 1 := by omega
  have hx := hx0.2.1
  have f := CH_start G x0
  have pvG := Pv.rf x0 G
  refine ⟨hx0, ?_⟩
  refine ⟨hb, ?_⟩
  intro G6 eG6
  refine wpV.mono (c_X0_init hd1 (isO_newE eG6 (by exact hb)) (base_nwE eG6 (by exact hb))) (fun G10 qG10 => ?_)
  rw [show gT G6 = _ from (CH_nw hx f eG6).T] at qG10
  have qG10 := CG_of qG10
  have hTG6 : gT G6 = gT G + 1 := (CH_nw hx f eG6).T
  have sG10 : Pv x0 _ G10 := Pv_call eG6 qG10
  have pvG := pvG.trans sG10
  have f := CH_call hx f eG6 qG10
  have hG10 := f.T
  have pvG10 := Pv.rf x0 G10
  refine ⟨⟨hx0.1, by rw [hG10]; exact Nat.lt_add_right _ hx, (f.K hx).trans hx0.2.2⟩, ?_⟩
  intro G12 eG12
  have sG12 : Pv x0 _ G12 := Pv_sR eG12
  have pvG := pvG.trans sG12
  have pvG10 := pvG10.trans sG12
  have f := CH_sR hx f eG12
  have hG12 := f.T
  refine ⟨by rw [hG12]; exact Nat.le_add_right_of_le hb, ?_⟩
  intro G18 eG18
  refine wpV.mono (c_X10_init hd1 (isO_newE eG18 (by rw [hG12]; exact Nat.le_add_right_of_le hb)) (base_nwE eG18 (by rw [hG12]; exact Nat.le_add_right_of_le hb))) (fun G22 qG22 => ?_)
  rw [show gT G18 = _ from (CH_nw hx f eG18).T] at qG22
  have qG22 := CG_of qG22
  have hTG18 : gT G18 = gT G + 3 := (CH_nw hx f eG18).T
  have hCG18 : gT G12 = gT G + 2 := hG12
  have sG22 : Pv x0 _ G22 := Pv_call eG18 qG22
  have pvG := pvG.trans sG22
  have pvG10 := pvG10.trans sG22
  have f := CH_call hx f eG18 qG22
  have hG22 := f.T
  have pvG22 := Pv.rf x0 G22
  refine ⟨⟨hx0.1, by rw [hG22]; exact Nat.lt_add_right _ hx, (f.K hx).trans hx0.2.2⟩, ?_⟩
  intro G24 eG24
  have sG24 : Pv x0 _ G24 := Pv_sR eG24
  have pvG := pvG.trans sG24
  have pvG10 := pvG10.trans sG24
  have pvG22 := pvG22.trans sG24
  have f := CH_sR hx f eG24
  rw [hG12] at f
  have hG24 := f.T
  refine ⟨by rw [hG24]; exact Nat.le_add_right_of_le hb, ?_⟩
  intro G30 eG30
  have hv : gR G30 x0 1 = gT G + 2 := by rw [(CH_nw hx f eG30).R]; rfl
  rw [hv]
  refine wpV.mono (c_X5_init hd1 (isO_newE eG30 (by rw [hG24]; exact Nat.le_add_right_of_le hb)) (base_nwE eG30 (by rw [hG24]; exact Nat.le_add_right_of_le hb))) (fun G34 qG34 => ?_)
  rw [show gT G30 = _ from (CH_nw hx f eG30).T] at qG34
  have qG34 := CG_of qG34
  have hTG30 : gT G30 = gT G + 8 := (CH_nw hx f eG30).T
  have hCG30 : gT G24 = gT G + 7 := hG24
  have sG34 : Pv x0 _ G34 := Pv_call eG30 qG34
  have pvG := pvG.trans sG34
  have pvG10 := pvG10.trans sG34
  have pvG22 := pvG22.trans sG34
  have f := CH_call hx f eG30 qG34
  have hG34 := f.T
  have pvG34 := Pv.rf x0 G34
  refine ⟨⟨hx0.1, by rw [hG34]; exact Nat.lt_add_right _ hx, (f.K hx).trans hx0.2.2⟩, ?_⟩
  intro G36 eG36
  have sG36 : Pv x0 _ G36 := Pv_sR eG36
  have pvG := pvG.trans sG36
  have pvG10 := pvG10.trans sG36
  have pvG22 := pvG22.trans sG36
  have pvG34 := pvG34.trans sG36
  have f := CH_sR hx f eG36
  rw [hG24] at f
  have hG36 := f.T
  refine ⟨by rw [hG36]; exact Nat.le_add_right_of_le hb, ?_⟩
  intro G42 eG42
  have sG42 : Pv x0 _ G42 := Pv_nw eG42
  have pvG := pvG.trans sG42
  have pvG10 := pvG10.trans sG42
  have pvG22 := pvG22.trans sG42
  have pvG34 := pvG34.trans sG42
  have f := CH_nw hx f eG42
  have hCG42 : gT G36 = gT G + 9 := hG36
  have pvG42 := Pv.rf x0 G42
  have hG42 := f.T
  intro G46 eG46
  have sG46 : Pv x0 _ G46 := Pv_sR eG46
  have pvG := pvG.trans sG46
  have pvG10 := pvG10.trans sG46
  have pvG22 := pvG22.trans sG46
  have pvG34 := pvG34.trans sG46
  have pvG42 := pvG42.trans sG46
  have f := CH_sR hx f eG46
  rw [hG36] at f
  have hG46 := f.T
  intro G52 eG52
  refine wpV.mono (c_X1_init hd1 (isO_newE eG52 (by rw [hG46]; exact Nat.le_add_right_of_le hb)) (base_nwE eG52 (by rw [hG46]; exact Nat.le_add_right_of_le hb))) (fun G56 qG56 => ?_)
  rw [show gT G52 = _ from (CH_nw hx f eG52).T] at qG56
  have qG56 := CG_of qG56
  have hTG52 : gT G52 = gT G + 11 := (CH_nw hx f eG52).T
  have hCG52 : gT G46 = gT G + 10 := hG46
  have sG56 : Pv x0 _ G56 := Pv_call eG52 qG56
  have pvG := pvG.trans sG56
  have pvG10 := pvG10.trans sG56
  have pvG22 := pvG22.trans sG56
  have pvG34 := pvG34.trans sG56
  have pvG42 := pvG42.trans sG56
  have f := CH_call hx f eG52 qG56
  have hG56 := f.T
  have pvG56 := Pv.rf x0 G56
  refine ⟨⟨hx0.1, by rw [hG56]; exact Nat.lt_add_right _ hx, (f.K hx).trans hx0.2.2⟩, ?_⟩
  intro G58 eG58
  have sG58 : Pv x0 _ G58 := Pv_sR eG58
  have pvG := pvG.trans sG58
  have pvG10 := pvG10.trans sG58
  have pvG22 := pvG22.trans sG58
  have pvG34 := pvG34.trans sG58
  have pvG56 := pvG56.trans sG58
  have pvG42 := pvG42.trans sG58
  have f := CH_sR hx f eG58
  rw [hG46] at f
  have hG58 := f.T
  refine ⟨by rw [hG58]; exact Nat.le_add_right_of_le hb, ?_⟩
  intro G64 eG64
  refine wpV.mono (c_X6_init hd1 (isO_newE eG64 (by rw [hG58]; exact Nat.le_add_right_of_le hb)) (base_nwE eG64 (by rw [hG58]; exact Nat.le_add_right_of_le hb))) (fun G68 qG68 => ?_)
  rw [show gT G64 = _ from (CH_nw hx f eG64).T] at qG68
  have qG68 := CG_of qG68
  have hTG64 : gT G64 = gT G + 17 := (CH_nw hx f eG64).T
  have hCG64 : gT G58 = gT G + 16 := hG58
  have sG68 : Pv x0 _ G68 := Pv_call eG64 qG68
  have pvG := pvG.trans sG68
  have pvG10 := pvG10.trans sG68
  have pvG22 := pvG22.trans sG68
  have pvG34 := pvG34.trans sG68
  have pvG56 := pvG56.trans sG68
  have pvG42 := pvG42.trans sG68
  have f := CH_call hx f eG64 qG68
  have hG68 := f.T
  have pvG68 := Pv.rf x0 G68
  refine ⟨⟨hx0.1, by rw [hG68]; exact Nat.lt_add_right _ hx, (f.K hx).trans hx0.2.2⟩, ?_⟩
  intro G70 eG70
  have sG70 : Pv x0 _ G70 := Pv_sR eG70
  have pvG := pvG.trans sG70
  have pvG10 := pvG10.trans sG70
  have pvG22 := pvG22.trans sG70
  have pvG34 := pvG34.trans sG70
  have pvG56 := pvG56.trans sG70
  have pvG68 := pvG68.trans sG70
  have pvG42 := pvG42.trans sG70
  have f := CH_sR hx f eG70
  rw [hG58] at f
  have hG70 := f.T
  refine ⟨by rw [hG70]; exact Nat.le_add_right_of_le hb, ?_⟩
  intro G76 eG76
  have hv : gR G76 x0 1 = gT G + 2 := by rw [(CH_nw hx f eG76).R]; rfl
  rw [hv]
  refine wpV.mono (c_X4_init hd1 (isO_newE eG76 (by rw [hG70]; exact Nat.le_add_right_of_le hb)) (base_nwE eG76 (by rw [hG70]; exact Nat.le_add_right_of_le hb))) (fun G80 qG80 => ?_)
  rw [show gT G76 = _ from (CH_nw hx f eG76).T] at qG80
  have qG80 := CG_of qG80
  have hTG76 : gT G76 = gT G + 21 := (CH_nw hx f eG76).T
  have hCG76 : gT G70 = gT G + 20 := hG70
  have sG80 : Pv x0 _ G80 := Pv_call eG76 qG80
  have pvG := pvG.trans sG80
  have pvG10 := pvG10.trans sG80
  have pvG22 := pvG22.trans sG80
  have pvG34 := pvG34.trans sG80
  have pvG56 := pvG56.trans sG80
  have pvG68 := pvG68.trans sG80
  have pvG42 := pvG42.trans sG80
  have f := CH_call hx f eG76 qG80
  have hG80 := f.T
  have pvG80 := Pv.rf x0 G80
  refine ⟨⟨hx0.1, by rw [hG80]; exact Nat.lt_add_right _ hx, (f.K hx).trans hx0.2.2⟩, ?_⟩
  intro G82 eG82
  have sG82 : Pv x0 _ G82 := Pv_sR eG82
  have pvG := pvG.trans sG82
  have pvG10 := pvG10.trans sG82
  have pvG22 := pvG22.trans sG82
  have pvG34 := pvG34.trans sG82
  have pvG56 := pvG56.trans sG82
  have pvG68 := pvG68.trans sG82
  have pvG80 := pvG80.trans sG82
  have pvG42 := pvG42.trans sG82
  have f := CH_sR hx f eG82
  rw [hG70] at f
  have hG82 := f.T
  refine ⟨by rw [hG82]; exact Nat.le_add_right_of_le hb, ?_⟩
  intro G88 eG88
  refine wpV.mono (c_X8_init hd2 (isO_newE eG88 (by rw [hG82]; exact Nat.le_add_right_of_le hb)) (base_nwE eG88 (by rw [hG82]; exact Nat.le_add_right_of_le hb))) (fun G92 qG92 => ?_)
  rw [show gT G88 = _ from (CH_nw hx f eG88).T] at qG92
  obtain ⟨u8, kd8, ln8, cI8, cJ8, cR8, tI8, tJ8, tR8, qG92, s8⟩ := qG92
  unfold cs_X8_init at s8
  obtain ⟨rfl, a0, a1, a2, a3, a4, a5, a6, a7, a8, a9, a10, a11, a12, a13, a14, a15, a16, a17, a18, a19, a20, a21, a22, a23⟩ := s8
  have hTG88 : gT G88 = gT G + 24 := (CH_nw hx f eG88).T
  have hCG88 : gT G82 = gT G + 23 := hG82
  have sG92 : Pv x0 _ G92 := Pv_call eG88 qG92
  have pvG := pvG.trans sG92
  have pvG10 := pvG10.trans sG92
  have pvG22 := pvG22.trans sG92
  have pvG34 := pvG34.trans sG92
  have pvG56 := pvG56.trans sG92
  have pvG68 := pvG68.trans sG92
  have pvG80 := pvG80.trans sG92
  have pvG42 := pvG42.trans sG92
  have f := CH_call hx f eG88 qG92
  have hG92 := f.T
  have pvG92 := Pv.rf x0 G92
  refine ⟨⟨hx0.1, by rw [hG92]; exact Nat.lt_add_right _ hx, (f.K hx).trans hx0.2.2⟩, ?_⟩
  intro G94 eG94
  have sG94 : Pv x0 _ G94 := Pv_sR eG94
  have pvG := pvG.trans sG94
  have pvG10 := pvG10.trans sG94
  have pvG22 := pvG22.trans sG94
  have pvG34 := pvG34.trans sG94
  have pvG56 := pvG56.trans sG94
  have pvG68 := pvG68.trans sG94
  have pvG80 := pvG80.trans sG94
  have pvG92 := pvG92.trans sG94
  have pvG42 := pvG42.trans sG94
  have f := CH_sR hx f eG94
  rw [hG82] at f
  have hG94 := f.T
  intro G96 eG96
  have sG96 : Pv x0 _ G96 := Pv_sR eG96
  have pvG := pvG.trans sG96
  have pvG10 := pvG10.trans sG96
  have pvG22 := pvG22.trans sG96
  have pvG34 := pvG34.trans sG96
  have pvG56 := pvG56.trans sG96
  have pvG68 := pvG68.trans sG96
  have pvG80 := pvG80.trans sG96
  have pvG92 := pvG92.trans sG96
  have pvG42 := pvG42.trans sG96
  have f := CH_sR hx f eG96
  have hG96 := f.T
  intro G98 eG98
  have sG98 : Pv x0 _ G98 := Pv_sI eG98
  have pvG := pvG.trans sG98
  have pvG10 := pvG10.trans sG98
  have pvG22 := pvG22.trans sG98
  have pvG34 := pvG34.trans sG98
  have pvG56 := pvG56.trans sG98
  have pvG68 := pvG68.trans sG98
  have pvG80 := pvG80.trans sG98
  have pvG92 := pvG92.trans sG98
  have pvG42 := pvG42.trans sG98
  have f := CH_sI hx f eG98
  have hG98 := f.T
  intro G100 eG100
  have sG100 : Pv x0 _ G100 := Pv_sJ eG100
  have pvG := pvG.trans sG100
  have pvG10 := pvG10.trans sG100
  have pvG22 := pvG22.trans sG100
  have pvG34 := pvG34.trans sG100
  have pvG56 := pvG56.trans sG100
  have pvG68 := pvG68.trans sG100
  have pvG80 := pvG80.trans sG100
  have pvG92 := pvG92.trans sG100
  have pvG42 := pvG42.trans sG100
  have f := CH_sJ hx f eG100
  have hG100 := f.T
  intro G102 eG102
  have sG102 : Pv x0 _ G102 := Pv_sJ eG102
  have pvG := pvG.trans sG102
  have pvG10 := pvG10.trans sG102
  have pvG22 := pvG22.trans sG102
  have pvG34 := pvG34.trans sG102
  have pvG56 := pvG56.trans sG102
  have pvG68 := pvG68.trans sG102
  have pvG80 := pvG80.trans sG102
  have pvG92 := pvG92.trans sG102
  have pvG42 := pvG42.trans sG102
  have f := CH_sJ hx f eG102
  have hG102 := f.T
  refine ⟨rfl, f.T, f.U, (f.K hx).trans hx0.2.2, pvG, ?_⟩
  unfold cs_X11_init
  refine ⟨(by rw [f.I]; first | done | rfl), ?_⟩
  refine ⟨(by rw [f.J]; first | done | rfl), ?_⟩
  refine ⟨(by rw [f.J]; first | done | rfl), ?_⟩
  refine ⟨(by rw [f.R]; first | done | rfl), ?_⟩
  refine ⟨(by rw [f.R]; first | done | rfl), ?_⟩
  refine ⟨(by rw [f.R]; first | done | rfl), ?_⟩
  refine ⟨(by rw [f.R]; first | done | rfl), ?_⟩
  refine ⟨(by rw [f.R]; first | done | rfl), ?_⟩
  refine ⟨(by rw [f.R]; first | done | rfl), ?_⟩
  refine ⟨(by rw [f.R]; first | done | rfl), ?_⟩
  refine ⟨(by rw [f.R]; first | done | rfl), ?_⟩
  refine ⟨(by rw [f.R]; first | done | rfl), ?_⟩
  refine ⟨(by rw [(pvG10.2 (gT G + 0) (by rw [hG10]; exact Nat.add_lt_add_left (by decide) _) (ne_add hx)).1, show gT G + 0 = gT G from rfl, (qG10.2.2.1 _ (by rw [hTG6]; exact Nat.lt_succ_self _)).1, eG6]; first | done | exact if_pos rfl), ?_⟩
  refine ⟨(by rw [(pvG10.2 (gT G + 0) (by rw [hG10]; exact Nat.add_lt_add_left (by decide) _) (ne_add hx)).2.2.1, show gT G + 0 = gT G from rfl, qG10.2.2.2.2.1]; first | done | rfl), ?_⟩
  refine ⟨(by rw [(pvG10.2 (gT G + 0) (by rw [hG10]; exact Nat.add_lt_add_left (by decide) _) (ne_add hx)).2.2.2.2, show gT G + 0 = gT G from rfl, qG10.2.2.2.2.2.2.1]; first | done | rfl), ?_⟩
  refine ⟨(by rw [(pvG10.2 (gT G + 1) (by rw [hG10]; exact Nat.add_lt_add_left (by decide) _) (ne_add hx)).1, show gT G + 1 = gT G6 + 0 from by rw [hTG6], (qG10.2.2.2.2.2.2.2 0 (by decide)).1]; first | done | rfl), ?_⟩
  refine ⟨(by rw [(pvG10.2 (gT G + 1) (by rw [hG10]; exact Nat.add_lt_add_left (by decide) _) (ne_add hx)).2.1, show gT G + 1 = gT G6 + 0 from by rw [hTG6], (qG10.2.2.2.2.2.2.2 0 (by decide)).2.1]; first | done | rfl), ?_⟩
  refine ⟨(by rw [(pvG10.2 (gT G + 1) (by rw [hG10]; exact Nat.add_lt_add_left (by decide) _) (ne_add hx)).2.2.1, show gT G + 1 = gT G6 + 0 from by rw [hTG6], (qG10.2.2.2.2.2.2.2 0 (by decide)).2.2.1]; first | done | rfl), ?_⟩
  refine ⟨(by rw [(pvG10.2 (gT G + 1) (by rw [hG10]; exact Nat.add_lt_add_left (by decide) _) (ne_add hx)).2.2.2.1, show gT G + 1 = gT G6 + 0 from by rw [hTG6], (qG10.2.2.2.2.2.2.2 0 (by decide)).2.2.2.1]; first | done | rfl), ?_⟩
  refine ⟨(by rw [(pvG10.2 (gT G + 1) (by rw [hG10]; exact Nat.add_lt_add_left (by decide) _) (ne_add hx)).2.2.2.2, show gT G + 1 = gT G6 + 0 from by rw [hTG6], (qG10.2.2.2.2.2.2.2 0 (by decide)).2.2.2.2]; first | done | rfl), ?_⟩
  refine ⟨(by rw [(pvG22.2 (gT G + 2) (by rw [hG22]; exact Nat.add_lt_add_left (by decide) _) (ne_add hx)).1, show gT G + 2 = gT G12 from hCG18.symm, (qG22.2.2.1 _ (by rw [hTG18, hCG18]; exact Nat.add_lt_add_left (by decide) _)).1, eG18]; first | done | exact if_pos rfl), ?_⟩
  refine ⟨(by rw [(pvG22.2 (gT G + 2) (by rw [hG22]; exact Nat.add_lt_add_left (by decide) _) (ne_add hx)).2.2.1, show gT G + 2 = gT G12 from hCG18.symm, qG22.2.2.2.2.1]; first | done | rfl), ?_⟩
  refine ⟨(by rw [(pvG22.2 (gT G + 2) (by rw [hG22]; exact Nat.add_lt_add_left (by decide) _) (ne_add hx)).2.2.1, show gT G + 2 = gT G12 from hCG18.symm, qG22.2.2.2.2.1]; first | done | rfl), ?_⟩
  refine ⟨(by rw [(pvG22.2 (gT G + 2) (by rw [hG22]; exact Nat.add_lt_add_left (by decide) _) (ne_add hx)).2.2.1, show gT G + 2 = gT G12 from hCG18.symm, qG22.2.2.2.2.1]; first | done | rfl), ?_⟩
  refine ⟨(by rw [(pvG22.2 (gT G + 2) (by rw [hG22]; exact Nat.add_lt_add_left (by decide) _) (ne_add hx)).2.2.1, show gT G + 2 = gT G12 from hCG18.symm, qG22.2.2.2.2.1]; first | done | rfl), ?_⟩
  refine ⟨(by rw [(pvG22.2 (gT G + 2) (by rw [hG22]; exact Nat.add_lt_add_left (by decide) _) (ne_add hx)).2.2.1, show gT G + 2 = gT G12 from hCG18.symm, qG22.2.2.2.2.1]; first | done | rfl), ?_⟩
  refine ⟨(by rw [(pvG22.2 (gT G + 2) (by rw [hG22]; exact Nat.add_lt_add_left (by decide) _) (ne_add hx)).2.2.1, show gT G + 2 = gT G12 from hCG18.symm, qG22.2.2.2.2.1]; first | done | rfl), ?_⟩
  refine ⟨(by rw [(pvG22.2 (gT G + 2) (by rw [hG22]; exact Nat.add_lt_add_left (by decide) _) (ne_add hx)).2.2.1, show gT G + 2 = gT G12 from hCG18.symm, qG22.2.2.2.2.1]; first | done | rfl), ?_⟩
  refine ⟨(by rw [(pvG22.2 (gT G + 2) (by rw [hG22]; exact Nat.add_lt_add_left (by decide) _) (ne_add hx)).2.2.2.1, show gT G + 2 = gT G12 from hCG18.symm, qG22.2.2.2.2.2.1]; first | done | rfl), ?_⟩
  refine ⟨(by rw [(pvG22.2 (gT G + 2) (by rw [hG22]; exact Nat.add_lt_add_left (by decide) _) (ne_add hx)).2.2.2.2, show gT G + 2 = gT G12 from hCG18.symm, qG22.2.2.2.2.2.2.1]; first | done | rfl), ?_⟩
  refine ⟨(by rw [(pvG22.2 (gT G + 2) (by rw [hG22]; exact Nat.add_lt_add_left (by decide) _) (ne_add hx)).2.2.2.2, show gT G + 2 = gT G12 from hCG18.symm, qG22.2.2.2.2.2.2.1]; first | done | rfl), ?_⟩
  refine ⟨(by rw [(pvG22.2 (gT G + 2) (by rw [hG22]; exact Nat.add_lt_add_left (by decide) _) (ne_add hx)).2.2.2.2, show gT G + 2 = gT G12 from hCG18.symm, qG22.2.2.2.2.2.2.1]; first | done | rfl), ?_⟩
  refine ⟨(by rw [(pvG22.2 (gT G + 2) (by rw [hG22]; exact Nat.add_lt_add_left (by decide) _) (ne_add hx)).2.2.2.2, show gT G + 2 = gT G12 from hCG18.symm, qG22.2.2.2.2.2.2.1]; first | done | rfl), ?_⟩
  refine ⟨(by rw [(pvG22.2 (gT G + 3) (by rw [hG22]; exact Nat.add_lt_add_left (by decide) _) (ne_add hx)).1, show gT G + 3 = gT G18 + 0 from by rw [hTG18], (qG22.2.2.2.2.2.2.2 0 (by decide)).1]; first | done | rfl), ?_⟩
  refine ⟨(by rw [(pvG22.2 (gT G + 3) (by rw [hG22]; exact Nat.add_lt_add_left (by decide) _) (ne_add hx)).2.1, show gT G + 3 = gT G18 + 0 from by rw [hTG18], (qG22.2.2.2.2.2.2.2 0 (by decide)).2.1]; first | done | rfl), ?_⟩
  refine ⟨(by rw [(pvG22.2 (gT G + 3) (by rw [hG22]; exact Nat.add_lt_add_left (by decide) _) (ne_add hx)).2.2.1, show gT G + 3 = gT G18 + 0 from by rw [hTG18], (qG22.2.2.2.2.2.2.2 0 (by decide)).2.2.1]; first | done | rfl), ?_⟩
  refine ⟨(by rw [(pvG22.2 (gT G + 3) (by rw [hG22]; exact Nat.add_lt_add_left (by decide) _) (ne_add hx)).2.2.2.1, show gT G + 3 = gT G18 + 0 from by rw [hTG18], (qG22.2.2.2.2.2.2.2 0 (by decide)).2.2.2.1]; first | done | rfl), ?_⟩
  refine ⟨(by rw [(pvG22.2 (gT G + 3) (by rw [hG22]; exact Nat.add_lt_add_left (by decide) _) (ne_add hx)).2.2.2.2, show gT G + 3 = gT G18 + 0 from by rw [hTG18], (qG22.2.2.2.2.2.2.2 0 (by decide)).2.2.2.2]; first | done | rfl), ?_⟩
  refine ⟨(by rw [(pvG22.2 (gT G + 4) (by rw [hG22]; exact Nat.add_lt_add_left (by decide) _) (ne_add hx)).1, show gT G + 4 = gT G18 + 1 from by rw [hTG18], (qG22.2.2.2.2.2.2.2 1 (by decide)).1]; first | done | rfl), ?_⟩
  refine ⟨(by rw [(pvG22.2 (gT G + 4) (by rw [hG22]; exact Nat.add_lt_add_left (by decide) _) (ne_add hx)).2.1, show gT G + 4 = gT G18 + 1 from by rw [hTG18], (qG22.2.2.2.2.2.2.2 1 (by decide)).2.1]; first | done | rfl), ?_⟩
  refine ⟨(by rw [(pvG22.2 (gT G + 4) (by rw [hG22]; exact Nat.add_lt_add_left (by decide) _) (ne_add hx)).2.2.1, show gT G + 4 = gT G18 + 1 from by rw [hTG18], (qG22.2.2.2.2.2.2.2 1 (by decide)).2.2.1]; first | done | rfl), ?_⟩
  refine ⟨(by rw [(pvG22.2 (gT G + 4) (by rw [hG22]; exact Nat.add_lt_add_left (by decide) _) (ne_add hx)).2.2.2.1, show gT G + 4 = gT G18 + 1 from by rw [hTG18], (qG22.2.2.2.2.2.2.2 1 (by decide)).2.2.2.1]; first | done | rfl), ?_⟩
  refine ⟨(by rw [(pvG22.2 (gT G + 4) (by rw [hG22]; exact Nat.add_lt_add_left (by decide) _) (ne_add hx)).2.2.2.2, show gT G + 4 = gT G18 + 1 from by rw [hTG18], (qG22.2.2.2.2.2.2.2 1 (by decide)).2.2.2.2]; first | done | rfl), ?_⟩
  refine ⟨(by rw [(pvG22.2 (gT G + 5) (by rw [hG22]; exact Nat.add_lt_add_left (by decide) _) (ne_add hx)).1, show gT G + 5 = gT G18 + 2 from by rw [hTG18], (qG22.2.2.2.2.2.2.2 2 (by decide)).1]; first | done | rfl), ?_⟩
  refine ⟨(by rw [(pvG22.2 (gT G + 5) (by rw [hG22]; exact Nat.add_lt_add_left (by decide) _) (ne_add hx)).2.1, show gT G + 5 = gT G18 + 2 from by rw [hTG18], (qG22.2.2.2.2.2.2.2 2 (by decide)).2.1]; first | done | rfl), ?_⟩
  refine ⟨(by rw [(pvG22.2 (gT G + 5) (by rw [hG22]; exact Nat.add_lt_add_left (by decide) _) (ne_add hx)).2.2.1, show gT G + 5 = gT G18 + 2 from by rw [hTG18], (qG22.2.2.2.2.2.2.2 2 (by decide)).2.2.1]; first | done | rfl), ?_⟩
  refine ⟨(by rw [(pvG22.2 (gT G + 5) (by rw [hG22]; exact Nat.add_lt_add_left (by decide) _) (ne_add hx)).2.2.2.1, show gT G + 5 = gT G18 + 2 from by rw [hTG18], (qG22.2.2.2.2.2.2.2 2 (by decide)).2.2.2.1]; first | done | rfl), ?_⟩
  refine ⟨(by rw [(pvG22.2 (gT G + 5) (by rw [hG22]; exact Nat.add_lt_add_left (by decide) _) (ne_add hx)).2.2.2.2, show gT G + 5 = gT G18 + 2 from by rw [hTG18], (qG22.2.2.2.2.2.2.2 2 (by decide)).2.2.2.2]; first | done | rfl), ?_⟩
  refine ⟨(by rw [(pvG22.2 (gT G + 6) (by rw [hG22]; exact Nat.add_lt_add_left (by decide) _) (ne_add hx)).1, show gT G + 6 = gT G18 + 3 from by rw [hTG18], (qG22.2.2.2.2.2.2.2 3 (by decide)).1]; first | done | rfl), ?_⟩
  refine ⟨(by rw [(pvG22.2 (gT G + 6) (by rw [hG22]; exact Nat.add_lt_add_left (by decide) _) (ne_add hx)).2.1, show gT G + 6 = gT G18 + 3 from by rw [hTG18], (qG22.2.2.2.2.2.2.2 3 (by decide)).2.1]; first | done | rfl), ?_⟩
  refine ⟨(by rw [(pvG22.2 (gT G + 6) (by rw [hG22]; exact Nat.add_lt_add_left (by decide) _) (ne_add hx)).2.2.1, show gT G + 6 = gT G18 + 3 from by rw [hTG18], (qG22.2.2.2.2.2.2.2 3 (by decide)).2.2.1]; first | done | rfl), ?_⟩
  refine ⟨(by rw [(pvG22.2 (gT G + 6) (by rw [hG22]; exact Nat.add_lt_add_left (by decide) _) (ne_add hx)).2.2.2.1, show gT G + 6 = gT G18 + 3 from by rw [hTG18], (qG22.2.2.2.2.2.2.2 3 (by decide)).2.2.2.1]; first | done | rfl), ?_⟩
  refine ⟨(by rw [(pvG22.2 (gT G + 6) (by rw [hG22]; exact Nat.add_lt_add_left (by decide) _) (ne_add hx)).2.2.2.2, show gT G + 6 = gT G18 + 3 from by rw [hTG18], (qG22.2.2.2.2.2.2.2 3 (by decide)).2.2.2.2]; first | done | rfl), ?_⟩
  refine ⟨(by rw [(pvG34.2 (gT G + 7) (by rw [hG34]; exact Nat.add_lt_add_left (by decide) _) (ne_add hx)).1, show gT G + 7 = gT G24 from hCG30.symm, (qG34.2.2.1 _ (by rw [hTG30, hCG30]; exact Nat.add_lt_add_left (by decide) _)).1, eG30]; first | done | exact if_pos rfl), ?_⟩
  refine ⟨(by rw [(pvG34.2 (gT G + 7) (by rw [hG34]; exact Nat.add_lt_add_left (by decide) _) (ne_add hx)).2.2.1, show gT G + 7 = gT G24 from hCG30.symm, qG34.2.2.2.2.1]; first | done | rfl), ?_⟩
  refine ⟨(by rw [(pvG34.2 (gT G + 7) (by rw [hG34]; exact Nat.add_lt_add_left (by decide) _) (ne_add hx)).2.2.1, show gT G + 7 = gT G24 from hCG30.symm, qG34.2.2.2.2.1]; first | done | rfl), ?_⟩
  refine ⟨(by rw [(pvG34.2 (gT G + 7) (by rw [hG34]; exact Nat.add_lt_add_left (by decide) _) (ne_add hx)).2.2.1, show gT G + 7 = gT G24 from hCG30.symm, qG34.2.2.2.2.1]; first | done | rfl), ?_⟩
  refine ⟨(by rw [(pvG34.2 (gT G + 7) (by rw [hG34]; exact Nat.add_lt_add_left (by decide) _) (ne_add hx)).2.2.1, show gT G + 7 = gT G24 from hCG30.symm, qG34.2.2.2.2.1]; first | done | rfl), ?_⟩
  refine ⟨(by rw [(pvG34.2 (gT G + 7) (by rw [hG34]; exact Nat.add_lt_add_left (by decide) _) (ne_add hx)).2.2.1, show gT G + 7 = gT G24 from hCG30.symm, qG34.2.2.2.2.1]; first | done | rfl), ?_⟩
  refine ⟨(by rw [(pvG34.2 (gT G + 7) (by rw [hG34]; exact Nat.add_lt_add_left (by decide) _) (ne_add hx)).2.2.1, show gT G + 7 = gT G24 from hCG30.symm, qG34.2.2.2.2.1]; first | done | rfl), ?_⟩
  refine ⟨(by rw [(pvG34.2 (gT G + 7) (by rw [hG34]; exact Nat.add_lt_add_left (by decide) _) (ne_add hx)).2.2.2.1, show gT G + 7 = gT G24 from hCG30.symm, qG34.2.2.2.2.2.1]; first | done | rfl), ?_⟩
  refine ⟨(by rw [(pvG34.2 (gT G + 7) (by rw [hG34]; exact Nat.add_lt_add_left (by decide) _) (ne_add hx)).2.2.2.2, show gT G + 7 = gT G24 from hCG30.symm, qG34.2.2.2.2.2.2.1]; first | done | rfl), ?_⟩
  refine ⟨(by rw [(pvG34.2 (gT G + 7) (by rw [hG34]; exact Nat.add_lt_add_left (by decide) _) (ne_add hx)).2.2.2.2, show gT G + 7 = gT G24 from hCG30.symm, qG34.2.2.2.2.2.2.1]; first | done | rfl), ?_⟩
  refine ⟨(by rw [(pvG34.2 (gT G + 7) (by rw [hG34]; exact Nat.add_lt_add_left (by decide) _) (ne_add hx)).2.2.2.2, show gT G + 7 = gT G24 from hCG30.symm, qG34.2.2.2.2.2.2.1]; first | done | rfl), ?_⟩
  refine ⟨(by rw [(pvG34.2 (gT G + 7) (by rw [hG34]; exact Nat.add_lt_add_left (by decide) _) (ne_add hx)).2.2.2.2, show gT G + 7 = gT G24 from hCG30.symm, qG34.2.2.2.2.2.2.1]; first | done | rfl), ?_⟩
  refine ⟨(by rw [(pvG34.2 (gT G + 8) (by rw [hG34]; exact Nat.add_lt_add_left (by decide) _) (ne_add hx)).1, show gT G + 8 = gT G30 + 0 from by rw [hTG30], (qG34.2.2.2.2.2.2.2 0 (by decide)).1]; first | done | rfl), ?_⟩
  refine ⟨(by rw [(pvG34.2 (gT G + 8) (by rw [hG34]; exact Nat.add_lt_add_left (by decide) _) (ne_add hx)).2.1, show gT G + 8 = gT G30 + 0 from by rw [hTG30], (qG34.2.2.2.2.2.2.2 0 (by decide)).2.1]; first | done | rfl), ?_⟩
  refine ⟨(by rw [(pvG34.2 (gT G + 8) (by rw [hG34]; exact Nat.add_lt_add_left (by decide) _) (ne_add hx)).2.2.1, show gT G + 8 = gT G30 + 0 from by rw [hTG30], (qG34.2.2.2.2.2.2.2 0 (by decide)).2.2.1]; first | done | rfl), ?_⟩
  refine ⟨(by rw [(pvG34.2 (gT G + 8) (by rw [hG34]; exact Nat.add_lt_add_left (by decide) _) (ne_add hx)).2.2.2.1, show gT G + 8 = gT G30 + 0 from by rw [hTG30], (qG34.2.2.2.2.2.2.2 0 (by decide)).2.2.2.1]; first | done | rfl), ?_⟩
  refine ⟨(by rw [(pvG34.2 (gT G + 8) (by rw [hG34]; exact Nat.add_lt_add_left (by decide) _) (ne_add hx)).2.2.2.2, show gT G + 8 = gT G30 + 0 from by rw [hTG30], (qG34.2.2.2.2.2.2.2 0 (by decide)).2.2.2.2]; first | done | rfl), ?_⟩
  refine ⟨(by rw [(pvG56.2 (gT G + 10) (by rw [hG56]; exact Nat.add_lt_add_left (by decide) _) (ne_add hx)).1, show gT G + 10 = gT G46 from hCG52.symm, (qG56.2.2.1 _ (by rw [hTG52, hCG52]; exact Nat.add_lt_add_left (by decide) _)).1, eG52]; first | done | exact if_pos rfl), ?_⟩
  refine ⟨(by rw [(pvG56.2 (gT G + 10) (by rw [hG56]; exact Nat.add_lt_add_left (by decide) _) (ne_add hx)).2.2.1, show gT G + 10 = gT G46 from hCG52.symm, qG56.2.2.2.2.1]; first | done | rfl), ?_⟩
  refine ⟨(by rw [(pvG56.2 (gT G + 10) (by rw [hG56]; exact Nat.add_lt_add_left (by decide) _) (ne_add hx)).2.2.2.2, show gT G + 10 = gT G46 from hCG52.symm, qG56.2.2.2.2.2.2.1]; first | done | rfl), ?_⟩
  refine ⟨(by rw [(pvG56.2 (gT G + 10) (by rw [hG56]; exact Nat.add_lt_add_left (by decide) _) (ne_add hx)).2.2.2.2, show gT G + 10 = gT G46 from hCG52.symm, qG56.2.2.2.2.2.2.1]; first | done | rfl), ?_⟩
  refine ⟨(by rw [(pvG56.2 (gT G + 10) (by rw [hG56]; exact Nat.add_lt_add_left (by decide) _) (ne_add hx)).2.2.2.2, show gT G + 10 = gT G46 from hCG52.symm, qG56.2.2.2.2.2.2.1]; first | done | rfl), ?_⟩
  refine ⟨(by rw [(pvG56.2 (gT G + 10) (by rw [hG56]; exact Nat.add_lt_add_left (by decide) _) (ne_add hx)).2.2.2.2, show gT G + 10 = gT G46 from hCG52.symm, qG56.2.2.2.2.2.2.1]; first | done | rfl), ?_⟩
  refine ⟨(by rw [(pvG56.2 (gT G + 10) (by rw [hG56]; exact Nat.add_lt_add_left (by decide) _) (ne_add hx)).2.2.2.2, show gT G + 10 = gT G46 from hCG52.symm, qG56.2.2.2.2.2.2.1]; first | done | rfl), ?_⟩
  refine ⟨(by rw [(pvG56.2 (gT G + 11) (by rw [hG56]; exact Nat.add_lt_add_left (by decide) _) (ne_add hx)).1, show gT G + 11 = gT G52 + 0 from by rw [hTG52], (qG56.2.2.2.2.2.2.2 0 (by decide)).1]; first | done | rfl), ?_⟩
  refine ⟨(by rw [(pvG56.2 (gT G + 11) (by rw [hG56]; exact Nat.add_lt_add_left (by decide) _) (ne_add hx)).2.1, show gT G + 11 = gT G52 + 0 from by rw [hTG52], (qG56.2.2.2.2.2.2.2 0 (by decide)).2.1]; first | done | rfl), ?_⟩
  refine ⟨(by rw [(pvG56.2 (gT G + 11) (by rw [hG56]; exact Nat.add_lt_add_left (by decide) _) (ne_add hx)).2.2.1, show gT G + 11 = gT G52 + 0 from by rw [hTG52], (qG56.2.2.2.2.2.2.2 0 (by decide)).2.2.1]; first | done | rfl), ?_⟩
  refine ⟨(by rw [(pvG56.2 (gT G + 11) (by rw [hG56]; exact Nat.add_lt_add_left (by decide) _) (ne_add hx)).2.2.2.1, show gT G + 11 = gT G52 + 0 from by rw [hTG52], (qG56.2.2.2.2.2.2.2 0 (by decide)).2.2.2.1]; first | done | rfl), ?_⟩
  refine ⟨(by rw [(pvG56.2 (gT G + 11) (by rw [hG56]; exact Nat.add_lt_add_left (by decide) _) (ne_add hx)).2.2.2.2, show gT G + 11 = gT G52 + 0 from by rw [hTG52], (qG56.2.2.2.2.2.2.2 0 (by decide)).2.2.2.2]; first | done | rfl), ?_⟩
  refine ⟨(by rw [(pvG56.2 (gT G + 12) (by rw [hG56]; exact Nat.add_lt_add_left (by decide) _) (ne_add hx)).1, show gT G + 12 = gT G52 + 1 from by rw [hTG52], (qG56.2.2.2.2.2.2.2 1 (by decide)).1]; first | done | rfl), ?_⟩
  refine ⟨(by rw [(pvG56.2 (gT G + 12) (by rw [hG56]; exact Nat.add_lt_add_left (by decide) _) (ne_add hx)).2.1, show gT G + 12 = gT G52 + 1 from by rw [hTG52], (qG56.2.2.2.2.2.2.2 1 (by decide)).2.1]; first | done | rfl), ?_⟩
  refine ⟨(by rw [(pvG56.2 (gT G + 12) (by rw [hG56]; exact Nat.add_lt_add_left (by decide) _) (ne_add hx)).2.2.1, show gT G + 12 = gT G52 + 1 from by rw [hTG52], (qG56.2.2.2.2.2.2.2 1 (by decide)).2.2.1]; first | done | rfl), ?_⟩
  refine ⟨(by rw [(pvG56.2 (gT G + 12) (by rw [hG56]; exact Nat.add_lt_add_left (by decide) _) (ne_add hx)).2.2.2.1, show gT G + 12 = gT G52 + 1 from by rw [hTG52], (qG56.2.2.2.2.2.2.2 1 (by decide)).2.2.2.1]; first | done | rfl), ?_⟩
  refine ⟨(by rw [(pvG56.2 (gT G + 12) (by rw [hG56]; exact Nat.add_lt_add_left (by decide) _) (ne_add hx)).2.2.2.2, show gT G + 12 = gT G52 + 1 from by rw [hTG52], (qG56.2.2.2.2.2.2.2 1 (by decide)).2.2.2.2]; first | done | rfl), ?_⟩
  refine ⟨(by rw [(pvG56.2 (gT G + 13) (by rw [hG56]; exact Nat.add_lt_add_left (by decide) _) (ne_add hx)).1, show gT G + 13 = gT G52 + 2 from by rw [hTG52], (qG56.2.2.2.2.2.2.2 2 (by decide)).1]; first | done | rfl), ?_⟩
  refine ⟨(by rw [(pvG56.2 (gT G + 13) (by rw [hG56]; exact Nat.add_lt_add_left (by decide) _) (ne_add hx)).2.1, show gT G + 13 = gT G52 + 2 from by rw [hTG52], (qG56.2.2.2.2.2.2.2 2 (by decide)).2.1]; first | done | rfl), ?_⟩
  refine ⟨(by rw [(pvG56.2 (gT G + 13) (by rw [hG56]; exact Nat.add_lt_add_left (by decide) _) (ne_add hx)).2.2.1, show gT G + 13 = gT G52 + 2 from by rw [hTG52], (qG56.2.2.2.2.2.2.2 2 (by decide)).2.2.1]; first | done | rfl), ?_⟩
  refine ⟨(by rw [(pvG56.2 (gT G + 13) (by rw [hG56]; exact Nat.add_lt_add_left (by decide) _) (ne_add hx)).2.2.2.1, show gT G + 13 = gT G52 + 2 from by rw [hTG52], (qG56.2.2.2.2.2.2.2 2 (by decide)).2.2.2.1]; first | done | rfl), ?_⟩
  refine ⟨(by rw [(pvG56.2 (gT G + 13) (by rw [hG56]; exact Nat.add_lt_add_left (by decide) _) (ne_add hx)).2.2.2.2, show gT G + 13 = gT G52 + 2 from by rw [hTG52], (qG56.2.2.2.2.2.2.2 2 (by decide)).2.2.2.2]; first | done | rfl), ?_⟩
  refine ⟨(by rw [(pvG56.2 (gT G + 14) (by rw [hG56]; exact Nat.add_lt_add_left (by decide) _) (ne_add hx)).1, show gT G + 14 = gT G52 + 3 from by rw [hTG52], (qG56.2.2.2.2.2.2.2 3 (by decide)).1]; first | done | rfl), ?_⟩
  refine ⟨(by rw [(pvG56.2 (gT G + 14) (by rw [hG56]; exact Nat.add_lt_add_left (by decide) _) (ne_add hx)).2.1, show gT G + 14 = gT G52 + 3 from by rw [hTG52], (qG56.2.2.2.2.2.2.2 3 (by decide)).2.1]; first | done | rfl), ?_⟩
  refine ⟨(by rw [(pvG56.2 (gT G + 14) (by rw [hG56]; exact Nat.add_lt_add_left (by decide) _) (ne_add hx)).2.2.1, show gT G + 14 = gT G52 + 3 from by rw [hTG52], (qG56.2.2.2.2.2.2.2 3 (by decide)).2.2.1]; first | done | rfl), ?_⟩
  refine ⟨(by rw [(pvG56.2 (gT G + 14) (by rw [hG56]; exact Nat.add_lt_add_left (by decide) _) (ne_add hx)).2.2.2.1, show gT G + 14 = gT G52 + 3 from by rw [hTG52], (qG56.2.2.2.2.2.2.2 3 (by decide)).2.2.2.1]; first | done | rfl), ?_⟩
  refine ⟨(by rw [(pvG56.2 (gT G + 14) (by rw [hG56]; exact Nat.add_lt_add_left (by decide) _) (ne_add hx)).2.2.2.2, show gT G + 14 = gT G52 + 3 from by rw [hTG52], (qG56.2.2.2.2.2.2.2 3 (by decide)).2.2.2.2]; first | done | rfl), ?_⟩
  refine ⟨(by rw [(pvG56.2 (gT G + 15) (by rw [hG56]; exact Nat.add_lt_add_left (by decide) _) (ne_add hx)).1, show gT G + 15 = gT G52 + 4 from by rw [hTG52], (qG56.2.2.2.2.2.2.2 4 (by decide)).1]; first | done | rfl), ?_⟩
  refine ⟨(by rw [(pvG56.2 (gT G + 15) (by rw [hG56]; exact Nat.add_lt_add_left (by decide) _) (ne_add hx)).2.1, show gT G + 15 = gT G52 + 4 from by rw [hTG52], (qG56.2.2.2.2.2.2.2 4 (by decide)).2.1]; first | done | rfl), ?_⟩
  refine ⟨(by rw [(pvG56.2 (gT G + 15) (by rw [hG56]; exact Nat.add_lt_add_left (by decide) _) (ne_add hx)).2.2.1, show gT G + 15 = gT G52 + 4 from by rw [hTG52], (qG56.2.2.2.2.2.2.2 4 (by decide)).2.2.1]; first | done | rfl), ?_⟩
  refine ⟨(by rw [(pvG56.2 (gT G + 15) (by rw [hG56]; exact Nat.add_lt_add_left (by decide) _) (ne_add hx)).2.2.2.1, show gT G + 15 = gT G52 + 4 from by rw [hTG52], (qG56.2.2.2.2.2.2.2 4 (by decide)).2.2.2.1]; first | done | rfl), ?_⟩
  refine ⟨(by rw [(pvG56.2 (gT G + 15) (by rw [hG56]; exact Nat.add_lt_add_left (by decide) _) (ne_add hx)).2.2.2.2, show gT G + 15 = gT G52 + 4 from by rw [hTG52], (qG56.2.2.2.2.2.2.2 4 (by decide)).2.2.2.2]; first | done | rfl), ?_⟩
  refine ⟨(by rw [(pvG68.2 (gT G + 16) (by rw [hG68]; exact Nat.add_lt_add_left (by decide) _) (ne_add hx)).1, show gT G + 16 = gT G58 from hCG64.symm, (qG68.2.2.1 _ (by rw [hTG64, hCG64]; exact Nat.add_lt_add_left (by decide) _)).1, eG64]; first | done | exact if_pos rfl), ?_⟩
  refine ⟨(by rw [(pvG68.2 (gT G + 16) (by rw [hG68]; exact Nat.add_lt_add_left (by decide) _) (ne_add hx)).2.2.1, show gT G + 16 = gT G58 from hCG64.symm, qG68.2.2.2.2.1]; first | done | rfl), ?_⟩
  refine ⟨(by rw [(pvG68.2 (gT G + 16) (by rw [hG68]; exact Nat.add_lt_add_left (by decide) _) (ne_add hx)).2.2.1, show gT G + 16 = gT G58 from hCG64.symm, qG68.2.2.2.2.1]; first | done | rfl), ?_⟩
  refine ⟨(by rw [(pvG68.2 (gT G + 16) (by rw [hG68]; exact Nat.add_lt_add_left (by decide) _) (ne_add hx)).2.2.1, show gT G + 16 = gT G58 from hCG64.symm, qG68.2.2.2.2.1]; first | done | rfl), ?_⟩
  refine ⟨(by rw [(pvG68.2 (gT G + 16) (by rw [hG68]; exact Nat.add_lt_add_left (by decide) _) (ne_add hx)).2.2.1, show gT G + 16 = gT G58 from hCG64.symm, qG68.2.2.2.2.1]; first | done | rfl), ?_⟩
  refine ⟨(by rw [(pvG68.2 (gT G + 16) (by rw [hG68]; exact Nat.add_lt_add_left (by decide) _) (ne_add hx)).2.2.1, show gT G + 16 = gT G58 from hCG64.symm, qG68.2.2.2.2.1]; first | done | rfl), ?_⟩
  refine ⟨(by rw [(pvG68.2 (gT G + 16) (by rw [hG68]; exact Nat.add_lt_add_left (by decide) _) (ne_add hx)).2.2.1, show gT G + 16 = gT G58 from hCG64.symm, qG68.2.2.2.2.1]; first | done | rfl), ?_⟩
  refine ⟨(by rw [(pvG68.2 (gT G + 16) (by rw [hG68]; exact Nat.add_lt_add_left (by decide) _) (ne_add hx)).2.2.1, show gT G + 16 = gT G58 from hCG64.symm, qG68.2.2.2.2.1]; first | done | rfl), ?_⟩
  refine ⟨(by rw [(pvG68.2 (gT G + 16) (by rw [hG68]; exact Nat.add_lt_add_left (by decide) _) (ne_add hx)).2.2.1, show gT G + 16 = gT G58 from hCG64.symm, qG68.2.2.2.2.1]; first | done | rfl), ?_⟩
  refine ⟨(by rw [(pvG68.2 (gT G + 16) (by rw [hG68]; exact Nat.add_lt_add_left (by decide) _) (ne_add hx)).2.2.1, show gT G + 16 = gT G58 from hCG64.symm, qG68.2.2.2.2.1]; first | done | rfl), ?_⟩
  refine ⟨(by rw [(pvG68.2 (gT G + 16) (by rw [hG68]; exact Nat.add_lt_add_left (by decide) _) (ne_add hx)).2.2.1, show gT G + 16 = gT G58 from hCG64.symm, qG68.2.2.2.2.1]; first | done | rfl), ?_⟩
  refine ⟨(by rw [(pvG68.2 (gT G + 16) (by rw [hG68]; exact Nat.add_lt_add_left (by decide) _) (ne_add hx)).2.2.1, show gT G + 16 = gT G58 from hCG64.symm, qG68.2.2.2.2.1]; first | done | rfl), ?_⟩
  refine ⟨(by rw [(pvG68.2 (gT G + 16) (by rw [hG68]; exact Nat.add_lt_add_left (by decide) _) (ne_add hx)).2.2.2.2, show gT G + 16 = gT G58 from hCG64.symm, qG68.2.2.2.2.2.2.1]; first | done | rfl), ?_⟩
  refine ⟨(by rw [(pvG68.2 (gT G + 16) (by rw [hG68]; exact Nat.add_lt_add_left (by decide) _) (ne_add hx)).2.2.2.2, show gT G + 16 = gT G58 from hCG64.symm, qG68.2.2.2.2.2.2.1]; first | done | rfl), ?_⟩
  refine ⟨(by rw [(pvG68.2 (gT G + 16) (by rw [hG68]; exact Nat.add_lt_add_left (by decide) _) (ne_add hx)).2.2.2.2, show gT G + 16 = gT G58 from hCG64.symm, qG68.2.2.2.2.2.2.1]; first | done | rfl), ?_⟩
  refine ⟨(by rw [(pvG68.2 (gT G + 17) (by rw [hG68]; exact Nat.add_lt_add_left (by decide) _) (ne_add hx)).1, show gT G + 17 = gT G64 + 0 from by rw [hTG64], (qG68.2.2.2.2.2.2.2 0 (by decide)).1]; first | done | rfl), ?_⟩
  refine ⟨(by rw [(pvG68.2 (gT G + 17) (by rw [hG68]; exact Nat.add_lt_add_left (by decide) _) (ne_add hx)).2.1, show gT G + 17 = gT G64 + 0 from by rw [hTG64], (qG68.2.2.2.2.2.2.2 0 (by decide)).2.1]; first | done | rfl), ?_⟩
  refine ⟨(by rw [(pvG68.2 (gT G + 17) (by rw [hG68]; exact Nat.add_lt_add_left (by decide) _) (ne_add hx)).2.2.1, show gT G + 17 = gT G64 + 0 from by rw [hTG64], (qG68.2.2.2.2.2.2.2 0 (by decide)).2.2.1]; first | done | rfl), ?_⟩
  refine ⟨(by rw [(pvG68.2 (gT G + 17) (by rw [hG68]; exact Nat.add_lt_add_left (by decide) _) (ne_add hx)).2.2.2.1, show gT G + 17 = gT G64 + 0 from by rw [hTG64], (qG68.2.2.2.2.2.2.2 0 (by decide)).2.2.2.1]; first | done | rfl), ?_⟩
  refine ⟨(by rw [(pvG68.2 (gT G + 17) (by rw [hG68]; exact Nat.add_lt_add_left (by decide) _) (ne_add hx)).2.2.2.2, show gT G + 17 = gT G64 + 0 from by rw [hTG64], (qG68.2.2.2.2.2.2.2 0 (by decide)).2.2.2.2]; first | done | rfl), ?_⟩
  refine ⟨(by rw [(pvG68.2 (gT G + 18) (by rw [hG68]; exact Nat.add_lt_add_left (by decide) _) (ne_add hx)).1, show gT G + 18 = gT G64 + 1 from by rw [hTG64], (qG68.2.2.2.2.2.2.2 1 (by decide)).1]; first | done | rfl), ?_⟩
  refine ⟨(by rw [(pvG68.2 (gT G + 18) (by rw [hG68]; exact Nat.add_lt_add_left (by decide) _) (ne_add hx)).2.1, show gT G + 18 = gT G64 + 1 from by rw [hTG64], (qG68.2.2.2.2.2.2.2 1 (by decide)).2.1]; first | done | rfl), ?_⟩
  refine ⟨(by rw [(pvG68.2 (gT G + 18) (by rw [hG68]; exact Nat.add_lt_add_left (by decide) _) (ne_add hx)).2.2.1, show gT G + 18 = gT G64 + 1 from by rw [hTG64], (qG68.2.2.2.2.2.2.2 1 (by decide)).2.2.1]; first | done | rfl), ?_⟩
  refine ⟨(by rw [(pvG68.2 (gT G + 18) (by rw [hG68]; exact Nat.add_lt_add_left (by decide) _) (ne_add hx)).2.2.2.1, show gT G + 18 = gT G64 + 1 from by rw [hTG64], (qG68.2.2.2.2.2.2.2 1 (by decide)).2.2.2.1]; first | done | rfl), ?_⟩
  refine ⟨(by rw [(pvG68.2 (gT G + 18) (by rw [hG68]; exact Nat.add_lt_add_left (by decide) _) (ne_add hx)).2.2.2.2, show gT G + 18 = gT G64 + 1 from by rw [hTG64], (qG68.2.2.2.2.2.2.2 1 (by decide)).2.2.2.2]; first | done | rfl), ?_⟩
  refine ⟨(by rw [(pvG68.2 (gT G + 19) (by rw [hG68]; exact Nat.add_lt_add_left (by decide) _) (ne_add hx)).1, show gT G + 19 = gT G64 + 2 from by rw [hTG64], (qG68.2.2.2.2.2.2.2 2 (by decide)).1]; first | done | rfl), ?_⟩
  refine ⟨(by rw [(pvG68.2 (gT G + 19) (by rw [hG68]; exact Nat.add_lt_add_left (by decide) _) (ne_add hx)).2.1, show gT G + 19 = gT G64 + 2 from by rw [hTG64], (qG68.2.2.2.2.2.2.2 2 (by decide)).2.1]; first | done | rfl), ?_⟩
  refine ⟨(by rw [(pvG68.2 (gT G + 19) (by rw [hG68]; exact Nat.add_lt_add_left (by decide) _) (ne_add hx)).2.2.1, show gT G + 19 = gT G64 + 2 from by rw [hTG64], (qG68.2.2.2.2.2.2.2 2 (by decide)).2.2.1]; first | done | rfl), ?_⟩
  refine ⟨(by rw [(pvG68.2 (gT G + 19) (by rw [hG68]; exact Nat.add_lt_add_left (by decide) _) (ne_add hx)).2.2.2.1, show gT G + 19 = gT G64 + 2 from by rw [hTG64], (qG68.2.2.2.2.2.2.2 2 (by decide)).2.2.2.1]; first | done | rfl), ?_⟩
  refine ⟨(by rw [(pvG68.2 (gT G + 19) (by rw [hG68]; exact Nat.add_lt_add_left (by decide) _) (ne_add hx)).2.2.2.2, show gT G + 19 = gT G64 + 2 from by rw [hTG64], (qG68.2.2.2.2.2.2.2 2 (by decide)).2.2.2.2]; first | done | rfl), ?_⟩
  refine ⟨(by rw [(pvG80.2 (gT G + 20) (by rw [hG80]; exact Nat.add_lt_add_left (by decide) _) (ne_add hx)).1, show gT G + 20 = gT G70 from hCG76.symm, (qG80.2.2.1 _ (by rw [hTG76, hCG76]; exact Nat.add_lt_add_left (by decide) _)).1, eG76]; first | done | exact if_pos rfl), ?_⟩
  refine ⟨(by rw [(pvG80.2 (gT G + 20) (by rw [hG80]; exact Nat.add_lt_add_left (by decide) _) (ne_add hx)).2.2.2.2, show gT G + 20 = gT G70 from hCG76.symm, qG80.2.2.2.2.2.2.1]; first | done | rfl), ?_⟩
  refine ⟨(by rw [(pvG80.2 (gT G + 20) (by rw [hG80]; exact Nat.add_lt_add_left (by decide) _) (ne_add hx)).2.2.2.2, show gT G + 20 = gT G70 from hCG76.symm, qG80.2.2.2.2.2.2.1]; first | done | rfl), ?_⟩
  refine ⟨(by rw [(pvG80.2 (gT G + 20) (by rw [hG80]; exact Nat.add_lt_add_left (by decide) _) (ne_add hx)).2.2.2.2, show gT G + 20 = gT G70 from hCG76.symm, qG80.2.2.2.2.2.2.1]; first | done | rfl), ?_⟩
  refine ⟨(by rw [(pvG80.2 (gT G + 21) (by rw [hG80]; exact Nat.add_lt_add_left (by decide) _) (ne_add hx)).1, show gT G + 21 = gT G76 + 0 from by rw [hTG76], (qG80.2.2.2.2.2.2.2 0 (by decide)).1]; first | done | rfl), ?_⟩
  refine ⟨(by rw [(pvG80.2 (gT G + 21) (by rw [hG80]; exact Nat.add_lt_add_left (by decide) _) (ne_add hx)).2.1, show gT G + 21 = gT G76 + 0 from by rw [hTG76], (qG80.2.2.2.2.2.2.2 0 (by decide)).2.1]; first | done | rfl), ?_⟩
  refine ⟨(by rw [(pvG80.2 (gT G + 21) (by rw [hG80]; exact Nat.add_lt_add_left (by decide) _) (ne_add hx)).2.2.1, show gT G + 21 = gT G76 + 0 from by rw [hTG76], (qG80.2.2.2.2.2.2.2 0 (by decide)).2.2.1]; first | done | rfl), ?_⟩
  refine ⟨(by rw [(pvG80.2 (gT G + 21) (by rw [hG80]; exact Nat.add_lt_add_left (by decide) _) (ne_add hx)).2.2.2.1, show gT G + 21 = gT G76 + 0 from by rw [hTG76], (qG80.2.2.2.2.2.2.2 0 (by decide)).2.2.2.1]; first | done | rfl), ?_⟩
  refine ⟨(by rw [(pvG80.2 (gT G + 21) (by rw [hG80]; exact Nat.add_lt_add_left (by decide) _) (ne_add hx)).2.2.2.2, show gT G + 21 = gT G76 + 0 from by rw [hTG76], (qG80.2.2.2.2.2.2.2 0 (by decide)).2.2.2.2]; first | done | rfl), ?_⟩
  refine ⟨(by rw [(pvG80.2 (gT G + 22) (by rw [hG80]; exact Nat.add_lt_add_left (by decide) _) (ne_add hx)).1, show gT G + 22 = gT G76 + 1 from by rw [hTG76], (qG80.2.2.2.2.2.2.2 1 (by decide)).1]; first | done | rfl), ?_⟩
  refine ⟨(by rw [(pvG80.2 (gT G + 22) (by rw [hG80]; exact Nat.add_lt_add_left (by decide) _) (ne_add hx)).2.1, show gT G + 22 = gT G76 + 1 from by rw [hTG76], (qG80.2.2.2.2.2.2.2 1 (by decide)).2.1]; first | done | rfl), ?_⟩
  refine ⟨(by rw [(pvG80.2 (gT G + 22) (by rw [hG80]; exact Nat.add_lt_add_left (by decide) _) (ne_add hx)).2.2.1, show gT G + 22 = gT G76 + 1 from by rw [hTG76], (qG80.2.2.2.2.2.2.2 1 (by decide)).2.2.1]; first | done | rfl), ?_⟩
  refine ⟨(by rw [(pvG80.2 (gT G + 22) (by rw [hG80]; exact Nat.add_lt_add_left (by decide) _) (ne_add hx)).2.2.2.1, show gT G + 22 = gT G76 + 1 from by rw [hTG76], (qG80.2.2.2.2.2.2.2 1 (by decide)).2.2.2.1]; first | done | rfl), ?_⟩
  refine ⟨(by rw [(pvG80.2 (gT G + 22) (by rw [hG80]; exact Nat.add_lt_add_left (by decide) _) (ne_add hx)).2.2.2.2, show gT G + 22 = gT G76 + 1 from by rw [hTG76], (qG80.2.2.2.2.2.2.2 1 (by decide)).2.2.2.2]; first | done | rfl), ?_⟩
  refine ⟨(by rw [(pvG92.2 (gT G + 23) (by rw [hG92]; exact Nat.add_lt_add_left (by decide) _) (ne_add hx)).1, show gT G + 23 = gT G82 from hCG88.symm, (qG92.2.2.1 _ (by rw [hTG88, hCG88]; exact Nat.add_lt_add_left (by decide) _)).1, eG88]; first | done | exact if_pos rfl), ?_⟩
  refine ⟨(by rw [(pvG92.2 (gT G + 23) (by rw [hG92]; exact Nat.add_lt_add_left (by decide) _) (ne_add hx)).2.2.1, show gT G + 23 = gT G82 from hCG88.symm, qG92.2.2.2.2.1]; first | done | exact a0), ?_⟩
  refine ⟨(by rw [(pvG92.2 (gT G + 23) (by rw [hG92]; exact Nat.add_lt_add_left (by decide) _) (ne_add hx)).2.2.1, show gT G + 23 = gT G82 from hCG88.symm, qG92.2.2.2.2.1]; first | done | exact a1), ?_⟩
  refine ⟨(by rw [(pvG92.2 (gT G + 23) (by rw [hG92]; exact Nat.add_lt_add_left (by decide) _) (ne_add hx)).2.2.2.2, show gT G + 23 = gT G82 from hCG88.symm, qG92.2.2.2.2.2.2.1]; first | done | exact a2), ?_⟩
  refine ⟨(by rw [(pvG92.2 (gT G + 23) (by rw [hG92]; exact Nat.add_lt_add_left (by decide) _) (ne_add hx)).2.2.2.2, show gT G + 23 = gT G82 from hCG88.symm, qG92.2.2.2.2.2.2.1]; first | done | exact a3), ?_⟩
  refine ⟨(by rw [(pvG92.2 (gT G + 23) (by rw [hG92]; exact Nat.add_lt_add_left (by decide) _) (ne_add hx)).2.2.2.2, show gT G + 23 = gT G82 from hCG88.symm, qG92.2.2.2.2.2.2.1]; first | done | exact a4), ?_⟩
  refine ⟨(by rw [(pvG92.2 (gT G + 24) (by rw [hG92]; exact Nat.add_lt_add_left (by decide) _) (ne_add hx)).1, show gT G + 24 = gT G88 + 0 from by rw [hTG88], (qG92.2.2.2.2.2.2.2 0 (by decide)).1]; first | done | exact a5), ?_⟩
  refine ⟨(by rw [(pvG92.2 (gT G + 24) (by rw [hG92]; exact Nat.add_lt_add_left (by decide) _) (ne_add hx)).2.2.1, show gT G + 24 = gT G88 + 0 from by rw [hTG88], (qG92.2.2.2.2.2.2.2 0 (by decide)).2.2.1]; first | done | exact a7), ?_⟩
  refine ⟨(by rw [(pvG92.2 (gT G + 24) (by rw [hG92]; exact Nat.add_lt_add_left (by decide) _) (ne_add hx)).2.2.2.2, show gT G + 24 = gT G88 + 0 from by rw [hTG88], (qG92.2.2.2.2.2.2.2 0 (by decide)).2.2.2.2]; first | done | exact a8), ?_⟩
  refine ⟨(by rw [(pvG92.2 (gT G + 25) (by rw [hG92]; exact Nat.add_lt_add_left (by decide) _) (ne_add hx)).1, show gT G + 25 = gT G88 + 1 from by rw [hTG88], (qG92.2.2.2.2.2.2.2 1 (by decide)).1]; first | done | exact a9), ?_⟩
  refine ⟨(by rw [(pvG92.2 (gT G + 25) (by rw [hG92]; exact Nat.add_lt_add_left (by decide) _) (ne_add hx)).2.1, show gT G + 25 = gT G88 + 1 from by rw [hTG88], (qG92.2.2.2.2.2.2.2 1 (by decide)).2.1]; first | done | exact a10), ?_⟩
  refine ⟨(by rw [(pvG92.2 (gT G + 25) (by rw [hG92]; exact Nat.add_lt_add_left (by decide) _) (ne_add hx)).2.2.1, show gT G + 25 = gT G88 + 1 from by rw [hTG88], (qG92.2.2.2.2.2.2.2 1 (by decide)).2.2.1]; first | done | exact a11), ?_⟩
  refine ⟨(by rw [(pvG92.2 (gT G + 25) (by rw [hG92]; exact Nat.add_lt_add_left (by decide) _) (ne_add hx)).2.2.2.1, show gT G + 25 = gT G88 + 1 from by rw [hTG88], (qG92.2.2.2.2.2.2.2 1 (by decide)).2.2.2.1]; first | done | exact a12), ?_⟩
  refine ⟨(by rw [(pvG92.2 (gT G + 25) (by rw [hG92]; exact Nat.add_lt_add_left (by decide) _) (ne_add hx)).2.2.2.2, show gT G + 25 = gT G88 + 1 from by rw [hTG88], (qG92.2.2.2.2.2.2.2 1 (by decide)).2.2.2.2]; first | done | exact a13), ?_⟩
  refine ⟨(by rw [(pvG92.2 (gT G + 26) (by rw [hG92]; exact Nat.add_lt_add_left (by decide) _) (ne_add hx)).1, show gT G + 26 = gT G88 + 2 from by rw [hTG88], (qG92.2.2.2.2.2.2.2 2 (by decide)).1]; first | done | exact a14), ?_⟩
  refine ⟨(by rw [(pvG92.2 (gT G + 26) (by rw [hG92]; exact Nat.add_lt_add_left (by decide) _) (ne_add hx)).2.1, show gT G + 26 = gT G88 + 2 from by rw [hTG88], (qG92.2.2.2.2.2.2.2 2 (by decide)).2.1]; first | done | exact a15), ?_⟩
  refine ⟨(by rw [(pvG92.2 (gT G + 26) (by rw [hG92]; exact Nat.add_lt_add_left (by decide) _) (ne_add hx)).2.2.1, show gT G + 26 = gT G88 + 2 from by rw [hTG88], (qG92.2.2.2.2.2.2.2 2 (by decide)).2.2.1]; first | done | exact a16), ?_⟩
  refine ⟨(by rw [(pvG92.2 (gT G + 26) (by rw [hG92]; exact Nat.add_lt_add_left (by decide) _) (ne_add hx)).2.2.2.1, show gT G + 26 = gT G88 + 2 from by rw [hTG88], (qG92.2.2.2.2.2.2.2 2 (by decide)).2.2.2.1]; first | done | exact a17), ?_⟩
  refine ⟨(by rw [(pvG92.2 (gT G + 26) (by rw [hG92]; exact Nat.add_lt_add_left (by decide) _) (ne_add hx)).2.2.2.2, show gT G + 26 = gT G88 + 2 from by rw [hTG88], (qG92.2.2.2.2.2.2.2 2 (by decide)).2.2.2.2]; first | done | exact a18), ?_⟩
  refine ⟨(by rw [(pvG92.2 (gT G + 27) (by rw [hG92]; exact Nat.add_lt_add_left (by decide) _) (ne_add hx)).1, show gT G + 27 = gT G88 + 3 from by rw [hTG88], (qG92.2.2.2.2.2.2.2 3 (by decide)).1]; first | done | exact a19), ?_⟩
  refine ⟨(by rw [(pvG92.2 (gT G + 27) (by rw [hG92]; exact Nat.add_lt_add_left (by decide) _) (ne_add hx)).2.1, show gT G + 27 = gT G88 + 3 from by rw [hTG88], (qG92.2.2.2.2.2.2.2 3 (by decide)).2.1]; first | done | exact a20), ?_⟩
  refine ⟨(by rw [(pvG92.2 (gT G + 27) (by rw [hG92]; exact Nat.add_lt_add_left (by decide) _) (ne_add hx)).2.2.1, show gT G + 27 = gT G88 + 3 from by rw [hTG88], (qG92.2.2.2.2.2.2.2 3 (by decide)).2.2.1]; first | done | exact a21), ?_⟩
  refine ⟨(by rw [(pvG92.2 (gT G + 27) (by rw [hG92]; exact Nat.add_lt_add_left (by decide) _) (ne_add hx)).2.2.2.1, show gT G + 27 = gT G88 + 3 from by rw [hTG88], (qG92.2.2.2.2.2.2.2 3 (by decide)).2.2.2.1]; first | done | exact a22), ?_⟩
  refine ⟨(by rw [(pvG92.2 (gT G + 27) (by rw [hG92]; exact Nat.add_lt_add_left (by decide) _) (ne_add hx)).2.2.2.2, show gT G + 27 = gT G88 + 3 from by rw [hTG88], (qG92.2.2.2.2.2.2.2 3 (by decide)).2.2.2.2]; first | done | exact a23), ?_⟩
  refine ⟨(by rw [(pvG42.2 (gT G + 9) (by rw [hG42]; exact Nat.add_lt_add_left (by decide) _) (ne_add hx)).1, show gT G + 9 = gT G36 from hCG42.symm, eG42]; first | done | exact if_pos rfl), ?_⟩
  refine ⟨(by rw [(pvG42.2 (gT G + 9) (by rw [hG42]; exact Nat.add_lt_add_left (by decide) _) (ne_add hx)).2.1, show gT G + 9 = gT G36 from hCG42.symm, eG42]; first | done | exact if_pos rfl), ?_⟩
  refine ⟨(by rw [(pvG42.2 (gT G + 9) (by rw [hG42]; exact Nat.add_lt_add_left (by decide) _) (ne_add hx)).2.2.1, show gT G + 9 = gT G36 from hCG42.symm, eG42]; first | done | exact if_pos rfl), ?_⟩
  refine ⟨(by rw [(pvG42.2 (gT G + 9) (by rw [hG42]; exact Nat.add_lt_add_left (by decide) _) (ne_add hx)).2.2.2.1, show gT G + 9 = gT G36 from hCG42.symm, eG42]; first | done | exact if_pos rfl), ?_⟩
  exact (by rw [(pvG42.2 (gT G + 9) (by rw [hG42]; exact Nat.add_lt_add_left (by decide) _) (ne_add hx)).2.2.2.2, show gT G + 9 = gT G36 from hCG42.symm, eG42]; first | done | exact if_pos rfl)

