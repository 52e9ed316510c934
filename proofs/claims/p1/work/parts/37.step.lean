/-! the law: one call of both, case by case (by program) -/
def Op_type (E : EE) (d x m : Nat) (I I' : AH → Prop) : Prop := ∀ (G : AH) (a0 : Int64) (a1 : Int32), I G → wpI E d M_X11_type [vr x, vj a0, vi a1] G (fun r G1 => isO E G1 m 12 ∧ wpI E d M_X12_type [vr m, vj a0, vi a1] G1 (fun r' G2 => r = r' ∧ I' G2))
theorem st_type {E : EE} {d x m : Nat} {I I' : AH → Prop} {Q : Option AV → AH → Prop} {G : AH} {i : Int32} (h0 : 0 < d) (h : Op_type E (d - 1) x m I I') (hx : isO E G x 11) (hI : I G) (v1 : vp_in (i + 1) (eS E).2.1) (v2 : vp_in (i + 2) (eS E).2.1) (v3 : vp_in (i + 3) (eS E).2.1) (v4 : vp_in (i + 4) (eS E).2.1) (v5 : vp_in (i + 5) (eS E).2.1) (kk : ∀ G2, I' G2 → wp E d M_L_law 2374 [some (vs (eS E).1), some (vr x), some (vr m), some (vi i)] [] G2 Q) : wp E d M_L_law 308 [some (vs (eS E).1), some (vr x), some (vr m), some (vi i)] [] G Q := by
  refine v_L_law_308 h0 ⟨v1, v2, v3, hx, ?_⟩
  refine wpI.mono (h G _ _ hI) (fun r G1 q => ?_)
  refine ⟨v1, v2, v3, q.1, ?_⟩
  refine wpI.mono q.2 (fun r' G2 q => ?_)
  exact ⟨fun _ => kk G2 q.2, fun hn => absurd q.1 hn⟩
def Op_cut (E : EE) (d x m : Nat) (I I' : AH → Prop) : Prop := ∀ (G : AH) (a0 : Int32), I G → wpI E d M_X11_cut [vr x, vi a0] G (fun r G1 => isO E G1 m 12 ∧ wpI E d M_X12_cut [vr m, vi a0] G1 (fun r' G2 => r = r' ∧ I' G2))
theorem st_cut {E : EE} {d x m : Nat} {I I' : AH → Prop} {Q : Option AV → AH → Prop} {G : AH} {i : Int32} (h0 : 0 < d) (h : Op_cut E (d - 1) x m I I') (hx : isO E G x 11) (hI : I G) (v1 : vp_in (i + 1) (eS E).2.1) (v2 : vp_in (i + 2) (eS E).2.1) (v3 : vp_in (i + 3) (eS E).2.1) (v4 : vp_in (i + 4) (eS E).2.1) (v5 : vp_in (i + 5) (eS E).2.1) (kk : ∀ G2, I' G2 → wp E d M_L_law 2374 [some (vs (eS E).1), some (vr x), some (vr m), some (vi i)] [] G2 Q) : wp E d M_L_law 371 [some (vs (eS E).1), some (vr x), some (vr m), some (vi i)] [] G Q := by
  refine v_L_law_371 h0 ⟨v1, hx, ?_⟩
  refine wpI.mono (h G _ hI) (fun r G1 q => ?_)
  refine ⟨v1, q.1, ?_⟩
  refine wpI.mono q.2 (fun r' G2 q => ?_)
  exact ⟨fun _ => kk G2 q.2, fun hn => absurd q.1 hn⟩
def Op_spoil (E : EE) (d x m : Nat) (I I' : AH → Prop) : Prop := ∀ (G : AH) (a0 : Int32) (a1 : Int32), I G → wpI E d M_X11_spoil [vr x, vi a0, vi a1] G (fun r G1 => isO E G1 m 12 ∧ wpI E d M_X12_spoil [vr m, vi a0, vi a1] G1 (fun r' G2 => r = r' ∧ I' G2))
theorem st_spoil {E : EE} {d x m : Nat} {I I' : AH → Prop} {Q : Option AV → AH → Prop} {G : AH} {i : Int32} (h0 : 0 < d) (h : Op_spoil E (d - 1) x m I I') (hx : isO E G x 11) (hI : I G) (v1 : vp_in (i + 1) (eS E).2.1) (v2 : vp_in (i + 2) (eS E).2.1) (v3 : vp_in (i + 3) (eS E).2.1) (v4 : vp_in (i + 4) (eS E).2.1) (v5 : vp_in (i + 5) (eS E).2.1) (kk : ∀ G2, I' G2 → wp E d M_L_law 2374 [some (vs (eS E).1), some (vr x), some (vr m), some (vi i)] [] G2 Q) : wp E d M_L_law 394 [some (vs (eS E).1), some (vr x), some (vr m), some (vi i)] [] G Q := by
  refine v_L_law_394 h0 ⟨v1, v2, hx, ?_⟩
  refine wpI.mono (h G _ _ hI) (fun r G1 q => ?_)
  refine ⟨v1, v2, q.1, ?_⟩
  refine wpI.mono q.2 (fun r' G2 q => ?_)
  exact ⟨fun _ => kk G2 q.2, fun hn => absurd q.1 hn⟩
def Op_tapeAt (E : EE) (d x m : Nat) (I I' : AH → Prop) : Prop := ∀ (G : AH) (a0 : Int32), I G → wpI E d M_X11_tapeAt [vr x, vi a0] G (fun r G1 => isO E G1 m 12 ∧ wpI E d M_X12_tapeAt [vr m, vi a0] G1 (fun r' G2 => r = r' ∧ I' G2))
theorem st_tapeAt {E : EE} {d x m : Nat} {I I' : AH → Prop} {Q : Option AV → AH → Prop} {G : AH} {i : Int32} (h0 : 0 < d) (h : Op_tapeAt E (d - 1) x m I I') (hx : isO E G x 11) (hI : I G) (v1 : vp_in (i + 1) (eS E).2.1) (v2 : vp_in (i + 2) (eS E).2.1) (v3 : vp_in (i + 3) (eS E).2.1) (v4 : vp_in (i + 4) (eS E).2.1) (v5 : vp_in (i + 5) (eS E).2.1) (kk : ∀ G2, I' G2 → wp E d M_L_law 2374 [some (vs (eS E).1), some (vr x), some (vr m), some (vi i)] [] G2 Q) : wp E d M_L_law 427 [some (vs (eS E).1), some (vr x), some (vr m), some (vi i)] [] G Q := by
  refine v_L_law_427 h0 ⟨v1, hx, ?_⟩
  refine wpI.mono (h G _ hI) (fun r G1 q => ?_)
  refine ⟨v1, q.1, ?_⟩
  refine wpI.mono q.2 (fun r' G2 q => ?_)
  exact ⟨fun _ => kk G2 q.2, fun hn => absurd q.1 hn⟩
def Op_problem (E : EE) (d x m : Nat) (I I' : AH → Prop) : Prop := ∀ (G : AH) , I G → wpI E d M_X11_problem [vr x] G (fun r G1 => isO E G1 m 12 ∧ wpI E d M_X12_problem [vr m] G1 (fun r' G2 => r = r' ∧ I' G2))
theorem st_problem {E : EE} {d x m : Nat} {I I' : AH → Prop} {Q : Option AV → AH → Prop} {G : AH} {i : Int32} (h0 : 0 < d) (h : Op_problem E (d - 1) x m I I') (hx : isO E G x 11) (hI : I G) (v1 : vp_in (i + 1) (eS E).2.1) (v2 : vp_in (i + 2) (eS E).2.1) (v3 : vp_in (i + 3) (eS E).2.1) (v4 : vp_in (i + 4) (eS E).2.1) (v5 : vp_in (i + 5) (eS E).2.1) (kk : ∀ G2, I' G2 → wp E d M_L_law 2374 [some (vs (eS E).1), some (vr x), some (vr m), some (vi i)] [] G2 Q) : wp E d M_L_law 450 [some (vs (eS E).1), some (vr x), some (vr m), some (vi i)] [] G Q := by
  refine v_L_law_450 h0 ⟨hx, ?_⟩
  refine wpI.mono (h G  hI) (fun r G1 q => ?_)
  refine ⟨q.1, ?_⟩
  refine wpI.mono q.2 (fun r' G2 q => ?_)
  exact ⟨fun _ => kk G2 q.2, fun hn => absurd q.1 hn⟩
def Op_fault (E : EE) (d x m : Nat) (I I' : AH → Prop) : Prop := ∀ (G : AH) , I G → wpI E d M_X11_fault [vr x] G (fun r G1 => isO E G1 m 12 ∧ wpI E d M_X12_fault [vr m] G1 (fun r' G2 => r = r' ∧ I' G2))
theorem st_fault {E : EE} {d x m : Nat} {I I' : AH → Prop} {Q : Option AV → AH → Prop} {G : AH} {i : Int32} (h0 : 0 < d) (h : Op_fault E (d - 1) x m I I') (hx : isO E G x 11) (hI : I G) (v1 : vp_in (i + 1) (eS E).2.1) (v2 : vp_in (i + 2) (eS E).2.1) (v3 : vp_in (i + 3) (eS E).2.1) (v4 : vp_in (i + 4) (eS E).2.1) (v5 : vp_in (i + 5) (eS E).2.1) (kk : ∀ G2, I' G2 → wp E d M_L_law 2374 [some (vs (eS E).1), some (vr x), some (vr m), some (vi i)] [] G2 Q) : wp E d M_L_law 463 [some (vs (eS E).1), some (vr x), some (vr m), some (vi i)] [] G Q := by
  refine v_L_law_463 h0 ⟨hx, ?_⟩
  refine wpI.mono (h G  hI) (fun r G1 q => ?_)
  refine ⟨q.1, ?_⟩
  refine wpI.mono q.2 (fun r' G2 q => ?_)
  exact ⟨fun _ => kk G2 q.2, fun hn => absurd q.1 hn⟩
def Op_drop (E : EE) (d x m : Nat) (I I' : AH → Prop) : Prop := ∀ (G : AH) (a0 : Int32), I G → wpI E d M_X11_drop [vr x, vi a0] G (fun r G1 => isO E G1 m 12 ∧ wpI E d M_X12_drop [vr m, vi a0] G1 (fun r' G2 => r = r' ∧ I' G2))
theorem st_drop {E : EE} {d x m : Nat} {I I' : AH → Prop} {Q : Option AV → AH → Prop} {G : AH} {i : Int32} (h0 : 0 < d) (h : Op_drop E (d - 1) x m I I') (hx : isO E G x 11) (hI : I G) (v1 : vp_in (i + 1) (eS E).2.1) (v2 : vp_in (i + 2) (eS E).2.1) (v3 : vp_in (i + 3) (eS E).2.1) (v4 : vp_in (i + 4) (eS E).2.1) (v5 : vp_in (i + 5) (eS E).2.1) (kk : ∀ G2, I' G2 → wp E d M_L_law 2374 [some (vs (eS E).1), some (vr x), some (vr m), some (vi i)] [] G2 Q) : wp E d M_L_law 476 [some (vs (eS E).1), some (vr x), some (vr m), some (vi i)] [] G Q := by
  refine v_L_law_476 h0 ⟨v1, hx, ?_⟩
  refine wpI.mono (h G _ hI) (fun r G1 q => ?_)
  refine ⟨v1, q.1, ?_⟩
  refine wpI.mono q.2 (fun r' G2 q => ?_)
  exact ⟨fun _ => kk G2 q.2, fun hn => absurd q.1 hn⟩
def Op_count (E : EE) (d x m : Nat) (I I' : AH → Prop) : Prop := ∀ (G : AH) (a0 : Int32) (a1 : Int32), I G → wpI E d M_X11_count [vr x, vi a0, vi a1] G (fun r G1 => isO E G1 m 12 ∧ wpI E d M_X12_count [vr m, vi a0, vi a1] G1 (fun r' G2 => r = r' ∧ I' G2))
theorem st_count {E : EE} {d x m : Nat} {I I' : AH → Prop} {Q : Option AV → AH → Prop} {G : AH} {i : Int32} (h0 : 0 < d) (h : Op_count E (d - 1) x m I I') (hx : isO E G x 11) (hI : I G) (v1 : vp_in (i + 1) (eS E).2.1) (v2 : vp_in (i + 2) (eS E).2.1) (v3 : vp_in (i + 3) (eS E).2.1) (v4 : vp_in (i + 4) (eS E).2.1) (v5 : vp_in (i + 5) (eS E).2.1) (kk : ∀ G2, I' G2 → wp E d M_L_law 2374 [some (vs (eS E).1), some (vr x), some (vr m), some (vi i)] [] G2 Q) : wp E d M_L_law 499 [some (vs (eS E).1), some (vr x), some (vr m), some (vi i)] [] G Q := by
  refine v_L_law_499 h0 ⟨v1, v2, hx, ?_⟩
  refine wpI.mono (h G _ _ hI) (fun r G1 q => ?_)
  refine ⟨v1, v2, q.1, ?_⟩
  refine wpI.mono q.2 (fun r' G2 q => ?_)
  exact ⟨fun _ => kk G2 q.2, fun hn => absurd q.1 hn⟩
def Op_find (E : EE) (d x m : Nat) (I I' : AH → Prop) : Prop := ∀ (G : AH) (a0 : Int32), I G → wpI E d M_X11_find [vr x, vi a0] G (fun r G1 => isO E G1 m 12 ∧ wpI E d M_X12_find [vr m, vi a0] G1 (fun r' G2 => r = r' ∧ I' G2))
theorem st_find {E : EE} {d x m : Nat} {I I' : AH → Prop} {Q : Option AV → AH → Prop} {G : AH} {i : Int32} (h0 : 0 < d) (h : Op_find E (d - 1) x m I I') (hx : isO E G x 11) (hI : I G) (v1 : vp_in (i + 1) (eS E).2.1) (v2 : vp_in (i + 2) (eS E).2.1) (v3 : vp_in (i + 3) (eS E).2.1) (v4 : vp_in (i + 4) (eS E).2.1) (v5 : vp_in (i + 5) (eS E).2.1) (kk : ∀ G2, I' G2 → wp E d M_L_law 2374 [some (vs (eS E).1), some (vr x), some (vr m), some (vi i)] [] G2 Q) : wp E d M_L_law 532 [some (vs (eS E).1), some (vr x), some (vr m), some (vi i)] [] G Q := by
  refine v_L_law_532 h0 ⟨v1, hx, ?_⟩
  refine wpI.mono (h G _ hI) (fun r G1 q => ?_)
  refine ⟨v1, q.1, ?_⟩
  refine wpI.mono q.2 (fun r' G2 q => ?_)
  exact ⟨fun _ => kk G2 q.2, fun hn => absurd q.1 hn⟩
def Op_letter (E : EE) (d x m : Nat) (I I' : AH → Prop) : Prop := ∀ (G : AH) (a0 : Int32) (a1 : Int32) (a2 : Int32) (a3 : Int32), I G → wpI E d M_X11_letter [vr x, vi a0, vi a1, vi a2, vi a3] G (fun r G1 => isO E G1 m 12 ∧ wpI E d M_X12_letter [vr m, vi a0, vi a1, vi a2, vi a3] G1 (fun r' G2 => r = r' ∧ I' G2))
theorem st_letter {E : EE} {d x m : Nat} {I I' : AH → Prop} {Q : Option AV → AH → Prop} {G : AH} {i : Int32} (h0 : 0 < d) (h : Op_letter E (d - 1) x m I I') (hx : isO E G x 11) (hI : I G) (v1 : vp_in (i + 1) (eS E).2.1) (v2 : vp_in (i + 2) (eS E).2.1) (v3 : vp_in (i + 3) (eS E).2.1) (v4 : vp_in (i + 4) (eS E).2.1) (v5 : vp_in (i + 5) (eS E).2.1) (kk : ∀ G2, I' G2 → wp E d M_L_law 2374 [some (vs (eS E).1), some (vr x), some (vr m), some (vi i)] [] G2 Q) : wp E d M_L_law 555 [some (vs (eS E).1), some (vr x), some (vr m), some (vi i)] [] G Q := by
  refine v_L_law_555 h0 ⟨v1, v2, v3, v4, hx, ?_⟩
  refine wpI.mono (h G _ _ _ _ hI) (fun r G1 q => ?_)
  refine ⟨v1, v2, v3, v4, q.1, ?_⟩
  refine wpI.mono q.2 (fun r' G2 q => ?_)
  exact ⟨fun _ => kk G2 q.2, fun hn => absurd q.1 hn⟩
def Op_shown (E : EE) (d x m : Nat) (I I' : AH → Prop) : Prop := ∀ (G : AH) (a0 : Int32) (a1 : Int32) (a2 : Int32), I G → wpI E d M_X11_shown [vr x, vi a0, vi a1, vi a2] G (fun r G1 => isO E G1 m 12 ∧ wpI E d M_X12_shown [vr m, vi a0, vi a1, vi a2] G1 (fun r' G2 => r = r' ∧ I' G2))
theorem st_shown {E : EE} {d x m : Nat} {I I' : AH → Prop} {Q : Option AV → AH → Prop} {G : AH} {i : Int32} (h0 : 0 < d) (h : Op_shown E (d - 1) x m I I') (hx : isO E G x 11) (hI : I G) (v1 : vp_in (i + 1) (eS E).2.1) (v2 : vp_in (i + 2) (eS E).2.1) (v3 : vp_in (i + 3) (eS E).2.1) (v4 : vp_in (i + 4) (eS E).2.1) (v5 : vp_in (i + 5) (eS E).2.1) (kk : ∀ G2, I' G2 → wp E d M_L_law 2374 [some (vs (eS E).1), some (vr x), some (vr m), some (vi i)] [] G2 Q) : wp E d M_L_law 608 [some (vs (eS E).1), some (vr x), some (vr m), some (vi i)] [] G Q := by
  refine v_L_law_608 h0 ⟨v1, v2, v3, hx, ?_⟩
  refine wpI.mono (h G _ _ _ hI) (fun r G1 q => ?_)
  refine ⟨v1, v2, v3, q.1, ?_⟩
  refine wpI.mono q.2 (fun r' G2 q => ?_)
  exact ⟨fun _ => kk G2 q.2, fun hn => absurd q.1 hn⟩
def Op_range (E : EE) (d x m : Nat) (I I' : AH → Prop) : Prop := ∀ (G : AH) (a0 : Int32) (a1 : Int32) (a2 : Int32), I G → wpJ E d M_X11_range [vr x, vi a0, vi a1, vi a2] G (fun r G1 => isO E G1 m 12 ∧ wpJ E d M_X12_range [vr m, vi a0, vi a1, vi a2] G1 (fun r' G2 => r = r' ∧ I' G2))
theorem st_range {E : EE} {d x m : Nat} {I I' : AH → Prop} {Q : Option AV → AH → Prop} {G : AH} {i : Int32} (h0 : 0 < d) (h : Op_range E (d - 1) x m I I') (hx : isO E G x 11) (hI : I G) (v1 : vp_in (i + 1) (eS E).2.1) (v2 : vp_in (i + 2) (eS E).2.1) (v3 : vp_in (i + 3) (eS E).2.1) (v4 : vp_in (i + 4) (eS E).2.1) (v5 : vp_in (i + 5) (eS E).2.1) (kk : ∀ G2, I' G2 → wp E d M_L_law 2374 [some (vs (eS E).1), some (vr x), some (vr m), some (vi i)] [] G2 Q) : wp E d M_L_law 651 [some (vs (eS E).1), some (vr x), some (vr m), some (vi i)] [] G Q := by
  refine v_L_law_651 h0 ⟨v1, v2, v3, hx, ?_⟩
  refine wpJ.mono (h G _ _ _ hI) (fun r G1 q => ?_)
  refine ⟨v1, v2, v3, q.1, ?_⟩
  refine wpJ.mono q.2 (fun r' G2 q => ?_)
  exact ⟨fun _ => kk G2 q.2, fun hn => absurd q.1 hn⟩
def Op_rule (E : EE) (d x m : Nat) (I I' : AH → Prop) : Prop := ∀ (G : AH) (a0 : Int32) (a1 : Int32) (a2 : Int32), I G → wpI E d M_X11_rule [vr x, vi a0, vi a1, vi a2] G (fun r G1 => isO E G1 m 12 ∧ wpI E d M_X12_rule [vr m, vi a0, vi a1, vi a2] G1 (fun r' G2 => r = r' ∧ I' G2))
theorem st_rule {E : EE} {d x m : Nat} {I I' : AH → Prop} {Q : Option AV → AH → Prop} {G : AH} {i : Int32} (h0 : 0 < d) (h : Op_rule E (d - 1) x m I I') (hx : isO E G x 11) (hI : I G) (v1 : vp_in (i + 1) (eS E).2.1) (v2 : vp_in (i + 2) (eS E).2.1) (v3 : vp_in (i + 3) (eS E).2.1) (v4 : vp_in (i + 4) (eS E).2.1) (v5 : vp_in (i + 5) (eS E).2.1) (kk : ∀ G2, I' G2 → wp E d M_L_law 2374 [some (vs (eS E).1), some (vr x), some (vr m), some (vi i)] [] G2 Q) : wp E d M_L_law 695 [some (vs (eS E).1), some (vr x), some (vr m), some (vi i)] [] G Q := by
  refine v_L_law_695 h0 ⟨v1, v2, v3, hx, ?_⟩
  refine wpI.mono (h G _ _ _ hI) (fun r G1 q => ?_)
  refine ⟨v1, v2, v3, q.1, ?_⟩
  refine wpI.mono q.2 (fun r' G2 q => ?_)
  exact ⟨fun _ => kk G2 q.2, fun hn => absurd q.1 hn⟩
def Op_fact (E : EE) (d x m : Nat) (I I' : AH → Prop) : Prop := ∀ (G : AH) (a0 : Int32) (a1 : Int32), I G → wpJ E d M_X11_fact [vr x, vi a0, vi a1] G (fun r G1 => isO E G1 m 12 ∧ wpJ E d M_X12_fact [vr m, vi a0, vi a1] G1 (fun r' G2 => r = r' ∧ I' G2))
theorem st_fact {E : EE} {d x m : Nat} {I I' : AH → Prop} {Q : Option AV → AH → Prop} {G : AH} {i : Int32} (h0 : 0 < d) (h : Op_fact E (d - 1) x m I I') (hx : isO E G x 11) (hI : I G) (v1 : vp_in (i + 1) (eS E).2.1) (v2 : vp_in (i + 2) (eS E).2.1) (v3 : vp_in (i + 3) (eS E).2.1) (v4 : vp_in (i + 4) (eS E).2.1) (v5 : vp_in (i + 5) (eS E).2.1) (kk : ∀ G2, I' G2 → wp E d M_L_law 2374 [some (vs (eS E).1), some (vr x), some (vr m), some (vi i)] [] G2 Q) : wp E d M_L_law 738 [some (vs (eS E).1), some (vr x), some (vr m), some (vi i)] [] G Q := by
  refine v_L_law_738 h0 ⟨v1, v2, hx, ?_⟩
  refine wpJ.mono (h G _ _ hI) (fun r G1 q => ?_)
  refine ⟨v1, v2, q.1, ?_⟩
  refine wpJ.mono q.2 (fun r' G2 q => ?_)
  exact ⟨fun _ => kk G2 q.2, fun hn => absurd q.1 hn⟩
def Op_change (E : EE) (d x m : Nat) (I I' : AH → Prop) : Prop := ∀ (G : AH) (a0 : Int32) (a1 : Int32) (a2 : Int32), I G → wpI E d M_X11_change [vr x, vi a0, vi a1, vi a2] G (fun r G1 => isO E G1 m 12 ∧ wpI E d M_X12_change [vr m, vi a0, vi a1, vi a2] G1 (fun r' G2 => r = r' ∧ I' G2))
theorem st_change {E : EE} {d x m : Nat} {I I' : AH → Prop} {Q : Option AV → AH → Prop} {G : AH} {i : Int32} (h0 : 0 < d) (h : Op_change E (d - 1) x m I I') (hx : isO E G x 11) (hI : I G) (v1 : vp_in (i + 1) (eS E).2.1) (v2 : vp_in (i + 2) (eS E).2.1) (v3 : vp_in (i + 3) (eS E).2.1) (v4 : vp_in (i + 4) (eS E).2.1) (v5 : vp_in (i + 5) (eS E).2.1) (kk : ∀ G2, I' G2 → wp E d M_L_law 2374 [some (vs (eS E).1), some (vr x), some (vr m), some (vi i)] [] G2 Q) : wp E d M_L_law 772 [some (vs (eS E).1), some (vr x), some (vr m), some (vi i)] [] G Q := by
  refine v_L_law_772 h0 ⟨v1, v2, v3, hx, ?_⟩
  refine wpI.mono (h G _ _ _ hI) (fun r G1 q => ?_)
  refine ⟨v1, v2, v3, q.1, ?_⟩
  refine wpI.mono q.2 (fun r' G2 q => ?_)
  exact ⟨fun _ => kk G2 q.2, fun hn => absurd q.1 hn⟩
def Op_value (E : EE) (d x m : Nat) (I I' : AH → Prop) : Prop := ∀ (G : AH) (a0 : Int32) (a1 : Int32), I G → wpJ E d M_X11_value [vr x, vi a0, vi a1] G (fun r G1 => isO E G1 m 12 ∧ wpJ E d M_X12_value [vr m, vi a0, vi a1] G1 (fun r' G2 => r = r' ∧ I' G2))
theorem st_value {E : EE} {d x m : Nat} {I I' : AH → Prop} {Q : Option AV → AH → Prop} {G : AH} {i : Int32} (h0 : 0 < d) (h : Op_value E (d - 1) x m I I') (hx : isO E G x 11) (hI : I G) (v1 : vp_in (i + 1) (eS E).2.1) (v2 : vp_in (i + 2) (eS E).2.1) (v3 : vp_in (i + 3) (eS E).2.1) (v4 : vp_in (i + 4) (eS E).2.1) (v5 : vp_in (i + 5) (eS E).2.1) (kk : ∀ G2, I' G2 → wp E d M_L_law 2374 [some (vs (eS E).1), some (vr x), some (vr m), some (vi i)] [] G2 Q) : wp E d M_L_law 815 [some (vs (eS E).1), some (vr x), some (vr m), some (vi i)] [] G Q := by
  refine v_L_law_815 h0 ⟨v1, v2, hx, ?_⟩
  refine wpJ.mono (h G _ _ hI) (fun r G1 q => ?_)
  refine ⟨v1, v2, q.1, ?_⟩
  refine wpJ.mono q.2 (fun r' G2 q => ?_)
  exact ⟨fun _ => kk G2 q.2, fun hn => absurd q.1 hn⟩
def Op_put (E : EE) (d x m : Nat) (I I' : AH → Prop) : Prop := ∀ (G : AH) (a0 : Int32) (a1 : Int32) (a2 : Int32), I G → wpI E d M_X11_put [vr x, vi a0, vi a1, vi a2] G (fun r G1 => isO E G1 m 12 ∧ wpI E d M_X12_put [vr m, vi a0, vi a1, vi a2] G1 (fun r' G2 => r = r' ∧ I' G2))
theorem st_put {E : EE} {d x m : Nat} {I I' : AH → Prop} {Q : Option AV → AH → Prop} {G : AH} {i : Int32} (h0 : 0 < d) (h : Op_put E (d - 1) x m I I') (hx : isO E G x 11) (hI : I G) (v1 : vp_in (i + 1) (eS E).2.1) (v2 : vp_in (i + 2) (eS E).2.1) (v3 : vp_in (i + 3) (eS E).2.1) (v4 : vp_in (i + 4) (eS E).2.1) (v5 : vp_in (i + 5) (eS E).2.1) (kk : ∀ G2, I' G2 → wp E d M_L_law 2374 [some (vs (eS E).1), some (vr x), some (vr m), some (vi i)] [] G2 Q) : wp E d M_L_law 849 [some (vs (eS E).1), some (vr x), some (vr m), some (vi i)] [] G Q := by
  refine v_L_law_849 h0 ⟨v1, v2, v3, hx, ?_⟩
  refine wpI.mono (h G _ _ _ hI) (fun r G1 q => ?_)
  refine ⟨v1, v2, v3, q.1, ?_⟩
  refine wpI.mono q.2 (fun r' G2 q => ?_)
  exact ⟨fun _ => kk G2 q.2, fun hn => absurd q.1 hn⟩
def Op_pin (E : EE) (d x m : Nat) (I I' : AH → Prop) : Prop := ∀ (G : AH) (a0 : Int32) (a1 : Int32) (a2 : Int32), I G → (a2 = 0 ∨ a2 = 1) → wpI E d M_X11_pin [vr x, vi a0, vi a1, vi a2] G (fun r G1 => isO E G1 m 12 ∧ wpI E d M_X12_pin [vr m, vi a0, vi a1, vi a2] G1 (fun r' G2 => r = r' ∧ I' G2))
theorem st_pin {E : EE} {d x m : Nat} {I I' : AH → Prop} {Q : Option AV → AH → Prop} {G : AH} {i : Int32} (h0 : 0 < d) (h : Op_pin E (d - 1) x m I I') (hx : isO E G x 11) (hI : I G) (v1 : vp_in (i + 1) (eS E).2.1) (v2 : vp_in (i + 2) (eS E).2.1) (v3 : vp_in (i + 3) (eS E).2.1) (v4 : vp_in (i + 4) (eS E).2.1) (v5 : vp_in (i + 5) (eS E).2.1) (kk : ∀ G2, I' G2 → wp E d M_L_law 2374 [some (vs (eS E).1), some (vr x), some (vr m), some (vi i)] [] G2 Q) : wp E d M_L_law 892 [some (vs (eS E).1), some (vr x), some (vr m), some (vi i)] [] G Q := by
  refine v_L_law_892 ⟨v1, v2, v3, fun c => ?_, fun c => ?_⟩
  · refine v_L_law_916 h0 ⟨hx, ?_⟩
    refine wpI.mono (h G _ _ _ hI (Or.inl rfl)) (fun r G1 q => ?_)
    refine ⟨v1, v2, v3, fun c2 => ?_, fun c2 => absurd c c2⟩
    refine v_L_law_943 h0 ⟨q.1, ?_⟩
    refine wpI.mono q.2 (fun r' G2 q => ?_)
    exact ⟨fun _ => kk G2 q.2, fun hn => absurd q.1 hn⟩
  · refine v_L_law_916 h0 ⟨hx, ?_⟩
    refine wpI.mono (h G _ _ _ hI (Or.inr rfl)) (fun r G1 q => ?_)
    refine ⟨v1, v2, v3, fun c2 => absurd c2 c, fun c2 => ?_⟩
    refine v_L_law_943 h0 ⟨q.1, ?_⟩
    refine wpI.mono q.2 (fun r' G2 q => ?_)
    exact ⟨fun _ => kk G2 q.2, fun hn => absurd q.1 hn⟩
def Op_weigh (E : EE) (d x m : Nat) (I I' : AH → Prop) : Prop := ∀ (G : AH) (a0 : Int32) (a1 : Int32) (a2 : Int32), I G → wpI E d M_X11_weigh [vr x, vi a0, vi a1, vi a2] G (fun r G1 => isO E G1 m 12 ∧ wpI E d M_X12_weigh [vr m, vi a0, vi a1, vi a2] G1 (fun r' G2 => r = r' ∧ I' G2))
theorem st_weigh {E : EE} {d x m : Nat} {I I' : AH → Prop} {Q : Option AV → AH → Prop} {G : AH} {i : Int32} (h0 : 0 < d) (h : Op_weigh E (d - 1) x m I I') (hx : isO E G x 11) (hI : I G) (v1 : vp_in (i + 1) (eS E).2.1) (v2 : vp_in (i + 2) (eS E).2.1) (v3 : vp_in (i + 3) (eS E).2.1) (v4 : vp_in (i + 4) (eS E).2.1) (v5 : vp_in (i + 5) (eS E).2.1) (kk : ∀ G2, I' G2 → wp E d M_L_law 2374 [some (vs (eS E).1), some (vr x), some (vr m), some (vi i)] [] G2 Q) : wp E d M_L_law 951 [some (vs (eS E).1), some (vr x), some (vr m), some (vi i)] [] G Q := by
  refine v_L_law_951 h0 ⟨v1, v2, v3, hx, ?_⟩
  refine wpI.mono (h G _ _ _ hI) (fun r G1 q => ?_)
  refine ⟨v1, v2, v3, q.1, ?_⟩
  refine wpI.mono q.2 (fun r' G2 q => ?_)
  exact ⟨fun _ => kk G2 q.2, fun hn => absurd q.1 hn⟩
def Op_broken (E : EE) (d x m : Nat) (I I' : AH → Prop) : Prop := ∀ (G : AH) (a0 : Int32) (a1 : Int32), I G → wpI E d M_X11_broken [vr x, vi a0, vi a1] G (fun r G1 => isO E G1 m 12 ∧ wpI E d M_X12_broken [vr m, vi a0, vi a1] G1 (fun r' G2 => r = r' ∧ I' G2))
theorem st_broken {E : EE} {d x m : Nat} {I I' : AH → Prop} {Q : Option AV → AH → Prop} {G : AH} {i : Int32} (h0 : 0 < d) (h : Op_broken E (d - 1) x m I I') (hx : isO E G x 11) (hI : I G) (v1 : vp_in (i + 1) (eS E).2.1) (v2 : vp_in (i + 2) (eS E).2.1) (v3 : vp_in (i + 3) (eS E).2.1) (v4 : vp_in (i + 4) (eS E).2.1) (v5 : vp_in (i + 5) (eS E).2.1) (kk : ∀ G2, I' G2 → wp E d M_L_law 2374 [some (vs (eS E).1), some (vr x), some (vr m), some (vi i)] [] G2 Q) : wp E d M_L_law 994 [some (vs (eS E).1), some (vr x), some (vr m), some (vi i)] [] G Q := by
  refine v_L_law_994 h0 ⟨v1, v2, hx, ?_⟩
  refine wpI.mono (h G _ _ hI) (fun r G1 q => ?_)
  refine ⟨v1, v2, q.1, ?_⟩
  refine wpI.mono q.2 (fun r' G2 q => ?_)
  exact ⟨fun _ => kk G2 q.2, fun hn => absurd q.1 hn⟩
def Op_aim (E : EE) (d x m : Nat) (I I' : AH → Prop) : Prop := ∀ (G : AH) (a0 : Int32) (a1 : Int32), I G → wpJ E d M_X11_aim [vr x, vi a0, vi a1] G (fun r G1 => isO E G1 m 12 ∧ wpJ E d M_X12_aim [vr m, vi a0, vi a1] G1 (fun r' G2 => r = r' ∧ I' G2))
theorem st_aim {E : EE} {d x m : Nat} {I I' : AH → Prop} {Q : Option AV → AH → Prop} {G : AH} {i : Int32} (h0 : 0 < d) (h : Op_aim E (d - 1) x m I I') (hx : isO E G x 11) (hI : I G) (v1 : vp_in (i + 1) (eS E).2.1) (v2 : vp_in (i + 2) (eS E).2.1) (v3 : vp_in (i + 3) (eS E).2.1) (v4 : vp_in (i + 4) (eS E).2.1) (v5 : vp_in (i + 5) (eS E).2.1) (kk : ∀ G2, I' G2 → wp E d M_L_law 2374 [some (vs (eS E).1), some (vr x), some (vr m), some (vi i)] [] G2 Q) : wp E d M_L_law 1027 [some (vs (eS E).1), some (vr x), some (vr m), some (vi i)] [] G Q := by
  refine v_L_law_1027 h0 ⟨v1, v2, hx, ?_⟩
  refine wpJ.mono (h G _ _ hI) (fun r G1 q => ?_)
  refine ⟨v1, v2, q.1, ?_⟩
  refine wpJ.mono q.2 (fun r' G2 q => ?_)
  exact ⟨fun _ => kk G2 q.2, fun hn => absurd q.1 hn⟩
def Op_score (E : EE) (d x m : Nat) (I I' : AH → Prop) : Prop := ∀ (G : AH) (a0 : Int32) (a1 : Int32), I G → wpJ E d M_X11_score [vr x, vi a0, vi a1] G (fun r G1 => isO E G1 m 12 ∧ wpJ E d M_X12_score [vr m, vi a0, vi a1] G1 (fun r' G2 => r = r' ∧ I' G2))
theorem st_score {E : EE} {d x m : Nat} {I I' : AH → Prop} {Q : Option AV → AH → Prop} {G : AH} {i : Int32} (h0 : 0 < d) (h : Op_score E (d - 1) x m I I') (hx : isO E G x 11) (hI : I G) (v1 : vp_in (i + 1) (eS E).2.1) (v2 : vp_in (i + 2) (eS E).2.1) (v3 : vp_in (i + 3) (eS E).2.1) (v4 : vp_in (i + 4) (eS E).2.1) (v5 : vp_in (i + 5) (eS E).2.1) (kk : ∀ G2, I' G2 → wp E d M_L_law 2374 [some (vs (eS E).1), some (vr x), some (vr m), some (vi i)] [] G2 Q) : wp E d M_L_law 1061 [some (vs (eS E).1), some (vr x), some (vr m), some (vi i)] [] G Q := by
  refine v_L_law_1061 h0 ⟨v1, v2, hx, ?_⟩
  refine wpJ.mono (h G _ _ hI) (fun r G1 q => ?_)
  refine ⟨v1, v2, q.1, ?_⟩
  refine wpJ.mono q.2 (fun r' G2 q => ?_)
  exact ⟨fun _ => kk G2 q.2, fun hn => absurd q.1 hn⟩
def Op_feasible (E : EE) (d x m : Nat) (I I' : AH → Prop) : Prop := ∀ (G : AH) (a0 : Int32), I G → wpI E d M_X11_feasible [vr x, vi a0] G (fun r G1 => isO E G1 m 12 ∧ wpI E d M_X12_feasible [vr m, vi a0] G1 (fun r' G2 => r = r' ∧ I' G2))
theorem st_feasible {E : EE} {d x m : Nat} {I I' : AH → Prop} {Q : Option AV → AH → Prop} {G : AH} {i : Int32} (h0 : 0 < d) (h : Op_feasible E (d - 1) x m I I') (hx : isO E G x 11) (hI : I G) (v1 : vp_in (i + 1) (eS E).2.1) (v2 : vp_in (i + 2) (eS E).2.1) (v3 : vp_in (i + 3) (eS E).2.1) (v4 : vp_in (i + 4) (eS E).2.1) (v5 : vp_in (i + 5) (eS E).2.1) (kk : ∀ G2, I' G2 → wp E d M_L_law 2374 [some (vs (eS E).1), some (vr x), some (vr m), some (vi i)] [] G2 Q) : wp E d M_L_law 1095 [some (vs (eS E).1), some (vr x), some (vr m), some (vi i)] [] G Q := by
  refine v_L_law_1095 h0 ⟨v1, hx, ?_⟩
  refine wpI.mono (h G _ hI) (fun r G1 q => ?_)
  refine ⟨v1, q.1, ?_⟩
  refine wpI.mono q.2 (fun r' G2 q => ?_)
  exact ⟨fun _ => kk G2 q.2, fun hn => absurd q.1 hn⟩
def Op_reach (E : EE) (d x m : Nat) (I I' : AH → Prop) : Prop := ∀ (G : AH) (a0 : Int32), I G → wpI E d M_X11_reach [vr x, vi a0] G (fun r G1 => isO E G1 m 12 ∧ wpI E d M_X12_reach [vr m, vi a0] G1 (fun r' G2 => r = r' ∧ I' G2))
theorem st_reach {E : EE} {d x m : Nat} {I I' : AH → Prop} {Q : Option AV → AH → Prop} {G : AH} {i : Int32} (h0 : 0 < d) (h : Op_reach E (d - 1) x m I I') (hx : isO E G x 11) (hI : I G) (v1 : vp_in (i + 1) (eS E).2.1) (v2 : vp_in (i + 2) (eS E).2.1) (v3 : vp_in (i + 3) (eS E).2.1) (v4 : vp_in (i + 4) (eS E).2.1) (v5 : vp_in (i + 5) (eS E).2.1) (kk : ∀ G2, I' G2 → wp E d M_L_law 2374 [some (vs (eS E).1), some (vr x), some (vr m), some (vi i)] [] G2 Q) : wp E d M_L_law 1118 [some (vs (eS E).1), some (vr x), some (vr m), some (vi i)] [] G Q := by
  refine v_L_law_1118 h0 ⟨v1, hx, ?_⟩
  refine wpI.mono (h G _ hI) (fun r G1 q => ?_)
  refine ⟨v1, q.1, ?_⟩
  refine wpI.mono q.2 (fun r' G2 q => ?_)
  exact ⟨fun _ => kk G2 q.2, fun hn => absurd q.1 hn⟩
def Op_isLeft (E : EE) (d x m : Nat) (I I' : AH → Prop) : Prop := ∀ (G : AH) (a0 : Int32) (a1 : Int32) (a2 : Int32), I G → wpI E d M_X11_isLeft [vr x, vi a0, vi a1, vi a2] G (fun r G1 => isO E G1 m 12 ∧ wpI E d M_X12_isLeft [vr m, vi a0, vi a1, vi a2] G1 (fun r' G2 => r = r' ∧ I' G2))
theorem st_isLeft {E : EE} {d x m : Nat} {I I' : AH → Prop} {Q : Option AV → AH → Prop} {G : AH} {i : Int32} (h0 : 0 < d) (h : Op_isLeft E (d - 1) x m I I') (hx : isO E G x 11) (hI : I G) (v1 : vp_in (i + 1) (eS E).2.1) (v2 : vp_in (i + 2) (eS E).2.1) (v3 : vp_in (i + 3) (eS E).2.1) (v4 : vp_in (i + 4) (eS E).2.1) (v5 : vp_in (i + 5) (eS E).2.1) (kk : ∀ G2, I' G2 → wp E d M_L_law 2374 [some (vs (eS E).1), some (vr x), some (vr m), some (vi i)] [] G2 Q) : wp E d M_L_law 1141 [some (vs (eS E).1), some (vr x), some (vr m), some (vi i)] [] G Q := by
  refine v_L_law_1141 h0 ⟨v1, v2, v3, hx, ?_⟩
  refine wpI.mono (h G _ _ _ hI) (fun r G1 q => ?_)
  refine ⟨v1, v2, v3, q.1, ?_⟩
  refine wpI.mono q.2 (fun r' G2 q => ?_)
  exact ⟨fun _ => kk G2 q.2, fun hn => absurd q.1 hn⟩
def Op_hopeless (E : EE) (d x m : Nat) (I I' : AH → Prop) : Prop := ∀ (G : AH) (a0 : Int32), I G → wpI E d M_X11_hopeless [vr x, vi a0] G (fun r G1 => isO E G1 m 12 ∧ wpI E d M_X12_hopeless [vr m, vi a0] G1 (fun r' G2 => r = r' ∧ I' G2))
theorem st_hopeless {E : EE} {d x m : Nat} {I I' : AH → Prop} {Q : Option AV → AH → Prop} {G : AH} {i : Int32} (h0 : 0 < d) (h : Op_hopeless E (d - 1) x m I I') (hx : isO E G x 11) (hI : I G) (v1 : vp_in (i + 1) (eS E).2.1) (v2 : vp_in (i + 2) (eS E).2.1) (v3 : vp_in (i + 3) (eS E).2.1) (v4 : vp_in (i + 4) (eS E).2.1) (v5 : vp_in (i + 5) (eS E).2.1) (kk : ∀ G2, I' G2 → wp E d M_L_law 2374 [some (vs (eS E).1), some (vr x), some (vr m), some (vi i)] [] G2 Q) : wp E d M_L_law 1184 [some (vs (eS E).1), some (vr x), some (vr m), some (vi i)] [] G Q := by
  refine v_L_law_1184 h0 ⟨v1, hx, ?_⟩
  refine wpI.mono (h G _ hI) (fun r G1 q => ?_)
  refine ⟨v1, q.1, ?_⟩
  refine wpI.mono q.2 (fun r' G2 q => ?_)
  exact ⟨fun _ => kk G2 q.2, fun hn => absurd q.1 hn⟩
def Op_solve (E : EE) (d x m : Nat) (I I' : AH → Prop) : Prop := ∀ (G : AH) (a0 : Int32), I G → wpI E d M_X11_solve [vr x, vi a0] G (fun r G1 => isO E G1 m 12 ∧ wpI E d M_X12_solve [vr m, vi a0] G1 (fun r' G2 => r = r' ∧ I' G2))
theorem st_solve {E : EE} {d x m : Nat} {I I' : AH → Prop} {Q : Option AV → AH → Prop} {G : AH} {i : Int32} (h0 : 0 < d) (h : Op_solve E (d - 1) x m I I') (hx : isO E G x 11) (hI : I G) (v1 : vp_in (i + 1) (eS E).2.1) (v2 : vp_in (i + 2) (eS E).2.1) (v3 : vp_in (i + 3) (eS E).2.1) (v4 : vp_in (i + 4) (eS E).2.1) (v5 : vp_in (i + 5) (eS E).2.1) (kk : ∀ G2, I' G2 → wp E d M_L_law 2374 [some (vs (eS E).1), some (vr x), some (vr m), some (vi i)] [] G2 Q) : wp E d M_L_law 1207 [some (vs (eS E).1), some (vr x), some (vr m), some (vi i)] [] G Q := by
  refine v_L_law_1207 h0 ⟨v1, hx, ?_⟩
  refine wpI.mono (h G _ hI) (fun r G1 q => ?_)
  refine ⟨v1, q.1, ?_⟩
  refine wpI.mono q.2 (fun r' G2 q => ?_)
  exact ⟨fun _ => kk G2 q.2, fun hn => absurd q.1 hn⟩
def Op_best (E : EE) (d x m : Nat) (I I' : AH → Prop) : Prop := ∀ (G : AH) (a0 : Int32) (a1 : Int32), I G → wpJ E d M_X11_best [vr x, vi a0, vi a1] G (fun r G1 => isO E G1 m 12 ∧ wpJ E d M_X12_best [vr m, vi a0, vi a1] G1 (fun r' G2 => r = r' ∧ I' G2))
theorem st_best {E : EE} {d x m : Nat} {I I' : AH → Prop} {Q : Option AV → AH → Prop} {G : AH} {i : Int32} (h0 : 0 < d) (h : Op_best E (d - 1) x m I I') (hx : isO E G x 11) (hI : I G) (v1 : vp_in (i + 1) (eS E).2.1) (v2 : vp_in (i + 2) (eS E).2.1) (v3 : vp_in (i + 3) (eS E).2.1) (v4 : vp_in (i + 4) (eS E).2.1) (v5 : vp_in (i + 5) (eS E).2.1) (kk : ∀ G2, I' G2 → wp E d M_L_law 2374 [some (vs (eS E).1), some (vr x), some (vr m), some (vi i)] [] G2 Q) : wp E d M_L_law 1230 [some (vs (eS E).1), some (vr x), some (vr m), some (vi i)] [] G Q := by
  refine v_L_law_1230 h0 ⟨v1, v2, hx, ?_⟩
  refine wpJ.mono (h G _ _ hI) (fun r G1 q => ?_)
  refine ⟨v1, v2, q.1, ?_⟩
  refine wpJ.mono q.2 (fun r' G2 q => ?_)
  exact ⟨fun _ => kk G2 q.2, fun hn => absurd q.1 hn⟩
def Op_bests (E : EE) (d x m : Nat) (I I' : AH → Prop) : Prop := ∀ (G : AH) (a0 : Int32), I G → wpI E d M_X11_bests [vr x, vi a0] G (fun r G1 => isO E G1 m 12 ∧ wpI E d M_X12_bests [vr m, vi a0] G1 (fun r' G2 => r = r' ∧ I' G2))
theorem st_bests {E : EE} {d x m : Nat} {I I' : AH → Prop} {Q : Option AV → AH → Prop} {G : AH} {i : Int32} (h0 : 0 < d) (h : Op_bests E (d - 1) x m I I') (hx : isO E G x 11) (hI : I G) (v1 : vp_in (i + 1) (eS E).2.1) (v2 : vp_in (i + 2) (eS E).2.1) (v3 : vp_in (i + 3) (eS E).2.1) (v4 : vp_in (i + 4) (eS E).2.1) (v5 : vp_in (i + 5) (eS E).2.1) (kk : ∀ G2, I' G2 → wp E d M_L_law 2374 [some (vs (eS E).1), some (vr x), some (vr m), some (vi i)] [] G2 Q) : wp E d M_L_law 1264 [some (vs (eS E).1), some (vr x), some (vr m), some (vi i)] [] G Q := by
  refine v_L_law_1264 h0 ⟨v1, hx, ?_⟩
  refine wpI.mono (h G _ hI) (fun r G1 q => ?_)
  refine ⟨v1, q.1, ?_⟩
  refine wpI.mono q.2 (fun r' G2 q => ?_)
  exact ⟨fun _ => kk G2 q.2, fun hn => absurd q.1 hn⟩
def Op_bestAt (E : EE) (d x m : Nat) (I I' : AH → Prop) : Prop := ∀ (G : AH) (a0 : Int32) (a1 : Int32), I G → wpI E d M_X11_bestAt [vr x, vi a0, vi a1] G (fun r G1 => isO E G1 m 12 ∧ wpI E d M_X12_bestAt [vr m, vi a0, vi a1] G1 (fun r' G2 => r = r' ∧ I' G2))
theorem st_bestAt {E : EE} {d x m : Nat} {I I' : AH → Prop} {Q : Option AV → AH → Prop} {G : AH} {i : Int32} (h0 : 0 < d) (h : Op_bestAt E (d - 1) x m I I') (hx : isO E G x 11) (hI : I G) (v1 : vp_in (i + 1) (eS E).2.1) (v2 : vp_in (i + 2) (eS E).2.1) (v3 : vp_in (i + 3) (eS E).2.1) (v4 : vp_in (i + 4) (eS E).2.1) (v5 : vp_in (i + 5) (eS E).2.1) (kk : ∀ G2, I' G2 → wp E d M_L_law 2374 [some (vs (eS E).1), some (vr x), some (vr m), some (vi i)] [] G2 Q) : wp E d M_L_law 1287 [some (vs (eS E).1), some (vr x), some (vr m), some (vi i)] [] G Q := by
  refine v_L_law_1287 h0 ⟨v1, v2, hx, ?_⟩
  refine wpI.mono (h G _ _ hI) (fun r G1 q => ?_)
  refine ⟨v1, v2, q.1, ?_⟩
  refine wpI.mono q.2 (fun r' G2 q => ?_)
  exact ⟨fun _ => kk G2 q.2, fun hn => absurd q.1 hn⟩
def Op_feasibles (E : EE) (d x m : Nat) (I I' : AH → Prop) : Prop := ∀ (G : AH) (a0 : Int32), I G → wpI E d M_X11_feasibles [vr x, vi a0] G (fun r G1 => isO E G1 m 12 ∧ wpI E d M_X12_feasibles [vr m, vi a0] G1 (fun r' G2 => r = r' ∧ I' G2))
theorem st_feasibles {E : EE} {d x m : Nat} {I I' : AH → Prop} {Q : Option AV → AH → Prop} {G : AH} {i : Int32} (h0 : 0 < d) (h : Op_feasibles E (d - 1) x m I I') (hx : isO E G x 11) (hI : I G) (v1 : vp_in (i + 1) (eS E).2.1) (v2 : vp_in (i + 2) (eS E).2.1) (v3 : vp_in (i + 3) (eS E).2.1) (v4 : vp_in (i + 4) (eS E).2.1) (v5 : vp_in (i + 5) (eS E).2.1) (kk : ∀ G2, I' G2 → wp E d M_L_law 2374 [some (vs (eS E).1), some (vr x), some (vr m), some (vi i)] [] G2 Q) : wp E d M_L_law 1320 [some (vs (eS E).1), some (vr x), some (vr m), some (vi i)] [] G Q := by
  refine v_L_law_1320 h0 ⟨v1, hx, ?_⟩
  refine wpI.mono (h G _ hI) (fun r G1 q => ?_)
  refine ⟨v1, q.1, ?_⟩
  refine wpI.mono q.2 (fun r' G2 q => ?_)
  exact ⟨fun _ => kk G2 q.2, fun hn => absurd q.1 hn⟩
def Op_feasibleAt (E : EE) (d x m : Nat) (I I' : AH → Prop) : Prop := ∀ (G : AH) (a0 : Int32) (a1 : Int32), I G → wpI E d M_X11_feasibleAt [vr x, vi a0, vi a1] G (fun r G1 => isO E G1 m 12 ∧ wpI E d M_X12_feasibleAt [vr m, vi a0, vi a1] G1 (fun r' G2 => r = r' ∧ I' G2))
theorem st_feasibleAt {E : EE} {d x m : Nat} {I I' : AH → Prop} {Q : Option AV → AH → Prop} {G : AH} {i : Int32} (h0 : 0 < d) (h : Op_feasibleAt E (d - 1) x m I I') (hx : isO E G x 11) (hI : I G) (v1 : vp_in (i + 1) (eS E).2.1) (v2 : vp_in (i + 2) (eS E).2.1) (v3 : vp_in (i + 3) (eS E).2.1) (v4 : vp_in (i + 4) (eS E).2.1) (v5 : vp_in (i + 5) (eS E).2.1) (kk : ∀ G2, I' G2 → wp E d M_L_law 2374 [some (vs (eS E).1), some (vr x), some (vr m), some (vi i)] [] G2 Q) : wp E d M_L_law 1343 [some (vs (eS E).1), some (vr x), some (vr m), some (vi i)] [] G Q := by
  refine v_L_law_1343 h0 ⟨v1, v2, hx, ?_⟩
  refine wpI.mono (h G _ _ hI) (fun r G1 q => ?_)
  refine ⟨v1, v2, q.1, ?_⟩
  refine wpI.mono q.2 (fun r' G2 q => ?_)
  exact ⟨fun _ => kk G2 q.2, fun hn => absurd q.1 hn⟩
def Op_has (E : EE) (d x m : Nat) (I I' : AH → Prop) : Prop := ∀ (G : AH) (a0 : Int32) (a1 : Int32) (a2 : Int32) (a3 : Int32), I G → (a3 = 0 ∨ a3 = 1) → wpI E d M_X11_has [vr x, vi a0, vi a1, vi a2, vi a3] G (fun r G1 => isO E G1 m 12 ∧ wpI E d M_X12_has [vr m, vi a0, vi a1, vi a2, vi a3] G1 (fun r' G2 => r = r' ∧ I' G2))
theorem st_has {E : EE} {d x m : Nat} {I I' : AH → Prop} {Q : Option AV → AH → Prop} {G : AH} {i : Int32} (h0 : 0 < d) (h : Op_has E (d - 1) x m I I') (hx : isO E G x 11) (hI : I G) (v1 : vp_in (i + 1) (eS E).2.1) (v2 : vp_in (i + 2) (eS E).2.1) (v3 : vp_in (i + 3) (eS E).2.1) (v4 : vp_in (i + 4) (eS E).2.1) (v5 : vp_in (i + 5) (eS E).2.1) (kk : ∀ G2, I' G2 → wp E d M_L_law 2374 [some (vs (eS E).1), some (vr x), some (vr m), some (vi i)] [] G2 Q) : wp E d M_L_law 1376 [some (vs (eS E).1), some (vr x), some (vr m), some (vi i)] [] G Q := by
  refine v_L_law_1376 ⟨v1, v2, v3, v4, fun c => ?_, fun c => ?_⟩
  · refine v_L_law_1405 h0 ⟨hx, ?_⟩
    refine wpI.mono (h G _ _ _ _ hI (Or.inl rfl)) (fun r G1 q => ?_)
    refine ⟨v1, v2, v3, v4, fun c2 => ?_, fun c2 => absurd c c2⟩
    refine v_L_law_1437 h0 ⟨q.1, ?_⟩
    refine wpI.mono q.2 (fun r' G2 q => ?_)
    exact ⟨fun _ => kk G2 q.2, fun hn => absurd q.1 hn⟩
  · refine v_L_law_1405 h0 ⟨hx, ?_⟩
    refine wpI.mono (h G _ _ _ _ hI (Or.inr rfl)) (fun r G1 q => ?_)
    refine ⟨v1, v2, v3, v4, fun c2 => absurd c2 c, fun c2 => ?_⟩
    refine v_L_law_1437 h0 ⟨q.1, ?_⟩
    refine wpI.mono q.2 (fun r' G2 q => ?_)
    exact ⟨fun _ => kk G2 q.2, fun hn => absurd q.1 hn⟩
def Op_choices (E : EE) (d x m : Nat) (I I' : AH → Prop) : Prop := ∀ (G : AH) (a0 : Int32) (a1 : Int32), I G → wpI E d M_X11_choices [vr x, vi a0, vi a1] G (fun r G1 => isO E G1 m 12 ∧ wpI E d M_X12_choices [vr m, vi a0, vi a1] G1 (fun r' G2 => r = r' ∧ I' G2))
theorem st_choices {E : EE} {d x m : Nat} {I I' : AH → Prop} {Q : Option AV → AH → Prop} {G : AH} {i : Int32} (h0 : 0 < d) (h : Op_choices E (d - 1) x m I I') (hx : isO E G x 11) (hI : I G) (v1 : vp_in (i + 1) (eS E).2.1) (v2 : vp_in (i + 2) (eS E).2.1) (v3 : vp_in (i + 3) (eS E).2.1) (v4 : vp_in (i + 4) (eS E).2.1) (v5 : vp_in (i + 5) (eS E).2.1) (kk : ∀ G2, I' G2 → wp E d M_L_law 2374 [some (vs (eS E).1), some (vr x), some (vr m), some (vi i)] [] G2 Q) : wp E d M_L_law 1445 [some (vs (eS E).1), some (vr x), some (vr m), some (vi i)] [] G Q := by
  refine v_L_law_1445 h0 ⟨v1, v2, hx, ?_⟩
  refine wpI.mono (h G _ _ hI) (fun r G1 q => ?_)
  refine ⟨v1, v2, q.1, ?_⟩
  refine wpI.mono q.2 (fun r' G2 q => ?_)
  exact ⟨fun _ => kk G2 q.2, fun hn => absurd q.1 hn⟩
def Op_mend (E : EE) (d x m : Nat) (I I' : AH → Prop) : Prop := ∀ (G : AH) (a0 : Int32) (a1 : Int32), I G → wpI E d M_X11_mend [vr x, vi a0, vi a1] G (fun r G1 => isO E G1 m 12 ∧ wpI E d M_X12_mend [vr m, vi a0, vi a1] G1 (fun r' G2 => r = r' ∧ I' G2))
theorem st_mend {E : EE} {d x m : Nat} {I I' : AH → Prop} {Q : Option AV → AH → Prop} {G : AH} {i : Int32} (h0 : 0 < d) (h : Op_mend E (d - 1) x m I I') (hx : isO E G x 11) (hI : I G) (v1 : vp_in (i + 1) (eS E).2.1) (v2 : vp_in (i + 2) (eS E).2.1) (v3 : vp_in (i + 3) (eS E).2.1) (v4 : vp_in (i + 4) (eS E).2.1) (v5 : vp_in (i + 5) (eS E).2.1) (kk : ∀ G2, I' G2 → wp E d M_L_law 2374 [some (vs (eS E).1), some (vr x), some (vr m), some (vi i)] [] G2 Q) : wp E d M_L_law 1478 [some (vs (eS E).1), some (vr x), some (vr m), some (vi i)] [] G Q := by
  refine v_L_law_1478 h0 ⟨v1, v2, hx, ?_⟩
  refine wpI.mono (h G _ _ hI) (fun r G1 q => ?_)
  refine ⟨v1, v2, q.1, ?_⟩
  refine wpI.mono q.2 (fun r' G2 q => ?_)
  exact ⟨fun _ => kk G2 q.2, fun hn => absurd q.1 hn⟩
def Op_front (E : EE) (d x m : Nat) (I I' : AH → Prop) : Prop := ∀ (G : AH) (a0 : Int32), I G → wpI E d M_X11_front [vr x, vi a0] G (fun r G1 => isO E G1 m 12 ∧ wpI E d M_X12_front [vr m, vi a0] G1 (fun r' G2 => r = r' ∧ I' G2))
theorem st_front {E : EE} {d x m : Nat} {I I' : AH → Prop} {Q : Option AV → AH → Prop} {G : AH} {i : Int32} (h0 : 0 < d) (h : Op_front E (d - 1) x m I I') (hx : isO E G x 11) (hI : I G) (v1 : vp_in (i + 1) (eS E).2.1) (v2 : vp_in (i + 2) (eS E).2.1) (v3 : vp_in (i + 3) (eS E).2.1) (v4 : vp_in (i + 4) (eS E).2.1) (v5 : vp_in (i + 5) (eS E).2.1) (kk : ∀ G2, I' G2 → wp E d M_L_law 2374 [some (vs (eS E).1), some (vr x), some (vr m), some (vi i)] [] G2 Q) : wp E d M_L_law 1511 [some (vs (eS E).1), some (vr x), some (vr m), some (vi i)] [] G Q := by
  refine v_L_law_1511 h0 ⟨v1, hx, ?_⟩
  refine wpI.mono (h G _ hI) (fun r G1 q => ?_)
  refine ⟨v1, q.1, ?_⟩
  refine wpI.mono q.2 (fun r' G2 q => ?_)
  exact ⟨fun _ => kk G2 q.2, fun hn => absurd q.1 hn⟩
def Op_frontAt (E : EE) (d x m : Nat) (I I' : AH → Prop) : Prop := ∀ (G : AH) (a0 : Int32) (a1 : Int32) (a2 : Int32), I G → wpJ E d M_X11_frontAt [vr x, vi a0, vi a1, vi a2] G (fun r G1 => isO E G1 m 12 ∧ wpJ E d M_X12_frontAt [vr m, vi a0, vi a1, vi a2] G1 (fun r' G2 => r = r' ∧ I' G2))
theorem st_frontAt {E : EE} {d x m : Nat} {I I' : AH → Prop} {Q : Option AV → AH → Prop} {G : AH} {i : Int32} (h0 : 0 < d) (h : Op_frontAt E (d - 1) x m I I') (hx : isO E G x 11) (hI : I G) (v1 : vp_in (i + 1) (eS E).2.1) (v2 : vp_in (i + 2) (eS E).2.1) (v3 : vp_in (i + 3) (eS E).2.1) (v4 : vp_in (i + 4) (eS E).2.1) (v5 : vp_in (i + 5) (eS E).2.1) (kk : ∀ G2, I' G2 → wp E d M_L_law 2374 [some (vs (eS E).1), some (vr x), some (vr m), some (vi i)] [] G2 Q) : wp E d M_L_law 1534 [some (vs (eS E).1), some (vr x), some (vr m), some (vi i)] [] G Q := by
  refine v_L_law_1534 h0 ⟨v1, v2, v3, hx, ?_⟩
  refine wpJ.mono (h G _ _ _ hI) (fun r G1 q => ?_)
  refine ⟨v1, v2, v3, q.1, ?_⟩
  refine wpJ.mono q.2 (fun r' G2 q => ?_)
  exact ⟨fun _ => kk G2 q.2, fun hn => absurd q.1 hn⟩
def Op_frontPlan (E : EE) (d x m : Nat) (I I' : AH → Prop) : Prop := ∀ (G : AH) (a0 : Int32) (a1 : Int32), I G → wpI E d M_X11_frontPlan [vr x, vi a0, vi a1] G (fun r G1 => isO E G1 m 12 ∧ wpI E d M_X12_frontPlan [vr m, vi a0, vi a1] G1 (fun r' G2 => r = r' ∧ I' G2))
theorem st_frontPlan {E : EE} {d x m : Nat} {I I' : AH → Prop} {Q : Option AV → AH → Prop} {G : AH} {i : Int32} (h0 : 0 < d) (h : Op_frontPlan E (d - 1) x m I I') (hx : isO E G x 11) (hI : I G) (v1 : vp_in (i + 1) (eS E).2.1) (v2 : vp_in (i + 2) (eS E).2.1) (v3 : vp_in (i + 3) (eS E).2.1) (v4 : vp_in (i + 4) (eS E).2.1) (v5 : vp_in (i + 5) (eS E).2.1) (kk : ∀ G2, I' G2 → wp E d M_L_law 2374 [some (vs (eS E).1), some (vr x), some (vr m), some (vi i)] [] G2 Q) : wp E d M_L_law 1578 [some (vs (eS E).1), some (vr x), some (vr m), some (vi i)] [] G Q := by
  refine v_L_law_1578 h0 ⟨v1, v2, hx, ?_⟩
  refine wpI.mono (h G _ _ hI) (fun r G1 q => ?_)
  refine ⟨v1, v2, q.1, ?_⟩
  refine wpI.mono q.2 (fun r' G2 q => ?_)
  exact ⟨fun _ => kk G2 q.2, fun hn => absurd q.1 hn⟩
def Op_near (E : EE) (d x m : Nat) (I I' : AH → Prop) : Prop := ∀ (G : AH) (a0 : Int32) (a1 : Int32), I G → (a1 = 0 ∨ a1 = 1) → wpI E d M_X11_near [vr x, vi a0, vi a1] G (fun r G1 => isO E G1 m 12 ∧ wpI E d M_X12_near [vr m, vi a0, vi a1] G1 (fun r' G2 => r = r' ∧ I' G2))
theorem st_near {E : EE} {d x m : Nat} {I I' : AH → Prop} {Q : Option AV → AH → Prop} {G : AH} {i : Int32} (h0 : 0 < d) (h : Op_near E (d - 1) x m I I') (hx : isO E G x 11) (hI : I G) (v1 : vp_in (i + 1) (eS E).2.1) (v2 : vp_in (i + 2) (eS E).2.1) (v3 : vp_in (i + 3) (eS E).2.1) (v4 : vp_in (i + 4) (eS E).2.1) (v5 : vp_in (i + 5) (eS E).2.1) (kk : ∀ G2, I' G2 → wp E d M_L_law 2374 [some (vs (eS E).1), some (vr x), some (vr m), some (vi i)] [] G2 Q) : wp E d M_L_law 1611 [some (vs (eS E).1), some (vr x), some (vr m), some (vi i)] [] G Q := by
  refine v_L_law_1611 ⟨v1, v2, fun c => ?_, fun c => ?_⟩
  · refine v_L_law_1630 h0 ⟨hx, ?_⟩
    refine wpI.mono (h G _ _ hI (Or.inl rfl)) (fun r G1 q => ?_)
    refine ⟨v1, v2, fun c2 => ?_, fun c2 => absurd c c2⟩
    refine v_L_law_1652 h0 ⟨q.1, ?_⟩
    refine wpI.mono q.2 (fun r' G2 q => ?_)
    exact ⟨fun _ => kk G2 q.2, fun hn => absurd q.1 hn⟩
  · refine v_L_law_1630 h0 ⟨hx, ?_⟩
    refine wpI.mono (h G _ _ hI (Or.inr rfl)) (fun r G1 q => ?_)
    refine ⟨v1, v2, fun c2 => absurd c2 c, fun c2 => ?_⟩
    refine v_L_law_1652 h0 ⟨q.1, ?_⟩
    refine wpI.mono q.2 (fun r' G2 q => ?_)
    exact ⟨fun _ => kk G2 q.2, fun hn => absurd q.1 hn⟩
def Op_clash (E : EE) (d x m : Nat) (I I' : AH → Prop) : Prop := ∀ (G : AH) (a0 : Int32), I G → wpI E d M_X11_clash [vr x, vi a0] G (fun r G1 => isO E G1 m 12 ∧ wpI E d M_X12_clash [vr m, vi a0] G1 (fun r' G2 => r = r' ∧ I' G2))
theorem st_clash {E : EE} {d x m : Nat} {I I' : AH → Prop} {Q : Option AV → AH → Prop} {G : AH} {i : Int32} (h0 : 0 < d) (h : Op_clash E (d - 1) x m I I') (hx : isO E G x 11) (hI : I G) (v1 : vp_in (i + 1) (eS E).2.1) (v2 : vp_in (i + 2) (eS E).2.1) (v3 : vp_in (i + 3) (eS E).2.1) (v4 : vp_in (i + 4) (eS E).2.1) (v5 : vp_in (i + 5) (eS E).2.1) (kk : ∀ G2, I' G2 → wp E d M_L_law 2374 [some (vs (eS E).1), some (vr x), some (vr m), some (vi i)] [] G2 Q) : wp E d M_L_law 1660 [some (vs (eS E).1), some (vr x), some (vr m), some (vi i)] [] G Q := by
  refine v_L_law_1660 h0 ⟨v1, hx, ?_⟩
  refine wpI.mono (h G _ hI) (fun r G1 q => ?_)
  refine ⟨v1, q.1, ?_⟩
  refine wpI.mono q.2 (fun r' G2 q => ?_)
  exact ⟨fun _ => kk G2 q.2, fun hn => absurd q.1 hn⟩
def Op_fewest (E : EE) (d x m : Nat) (I I' : AH → Prop) : Prop := ∀ (G : AH) (a0 : Int32), I G → wpI E d M_X11_fewest [vr x, vi a0] G (fun r G1 => isO E G1 m 12 ∧ wpI E d M_X12_fewest [vr m, vi a0] G1 (fun r' G2 => r = r' ∧ I' G2))
theorem st_fewest {E : EE} {d x m : Nat} {I I' : AH → Prop} {Q : Option AV → AH → Prop} {G : AH} {i : Int32} (h0 : 0 < d) (h : Op_fewest E (d - 1) x m I I') (hx : isO E G x 11) (hI : I G) (v1 : vp_in (i + 1) (eS E).2.1) (v2 : vp_in (i + 2) (eS E).2.1) (v3 : vp_in (i + 3) (eS E).2.1) (v4 : vp_in (i + 4) (eS E).2.1) (v5 : vp_in (i + 5) (eS E).2.1) (kk : ∀ G2, I' G2 → wp E d M_L_law 2374 [some (vs (eS E).1), some (vr x), some (vr m), some (vi i)] [] G2 Q) : wp E d M_L_law 1683 [some (vs (eS E).1), some (vr x), some (vr m), some (vi i)] [] G Q := by
  refine v_L_law_1683 h0 ⟨v1, hx, ?_⟩
  refine wpI.mono (h G _ hI) (fun r G1 q => ?_)
  refine ⟨v1, q.1, ?_⟩
  refine wpI.mono q.2 (fun r' G2 q => ?_)
  exact ⟨fun _ => kk G2 q.2, fun hn => absurd q.1 hn⟩
def Op_relax (E : EE) (d x m : Nat) (I I' : AH → Prop) : Prop := ∀ (G : AH) (a0 : Int32), I G → wpI E d M_X11_relax [vr x, vi a0] G (fun r G1 => isO E G1 m 12 ∧ wpI E d M_X12_relax [vr m, vi a0] G1 (fun r' G2 => r = r' ∧ I' G2))
theorem st_relax {E : EE} {d x m : Nat} {I I' : AH → Prop} {Q : Option AV → AH → Prop} {G : AH} {i : Int32} (h0 : 0 < d) (h : Op_relax E (d - 1) x m I I') (hx : isO E G x 11) (hI : I G) (v1 : vp_in (i + 1) (eS E).2.1) (v2 : vp_in (i + 2) (eS E).2.1) (v3 : vp_in (i + 3) (eS E).2.1) (v4 : vp_in (i + 4) (eS E).2.1) (v5 : vp_in (i + 5) (eS E).2.1) (kk : ∀ G2, I' G2 → wp E d M_L_law 2374 [some (vs (eS E).1), some (vr x), some (vr m), some (vi i)] [] G2 Q) : wp E d M_L_law 1706 [some (vs (eS E).1), some (vr x), some (vr m), some (vi i)] [] G Q := by
  refine v_L_law_1706 h0 ⟨v1, hx, ?_⟩
  refine wpI.mono (h G _ hI) (fun r G1 q => ?_)
  refine ⟨v1, q.1, ?_⟩
  refine wpI.mono q.2 (fun r' G2 q => ?_)
  exact ⟨fun _ => kk G2 q.2, fun hn => absurd q.1 hn⟩
def Op_without (E : EE) (d x m : Nat) (I I' : AH → Prop) : Prop := ∀ (G : AH) (a0 : Int32) (a1 : Int32) (a2 : Int32), I G → wpJ E d M_X11_without [vr x, vi a0, vi a1, vi a2] G (fun r G1 => isO E G1 m 12 ∧ wpJ E d M_X12_without [vr m, vi a0, vi a1, vi a2] G1 (fun r' G2 => r = r' ∧ I' G2))
theorem st_without {E : EE} {d x m : Nat} {I I' : AH → Prop} {Q : Option AV → AH → Prop} {G : AH} {i : Int32} (h0 : 0 < d) (h : Op_without E (d - 1) x m I I') (hx : isO E G x 11) (hI : I G) (v1 : vp_in (i + 1) (eS E).2.1) (v2 : vp_in (i + 2) (eS E).2.1) (v3 : vp_in (i + 3) (eS E).2.1) (v4 : vp_in (i + 4) (eS E).2.1) (v5 : vp_in (i + 5) (eS E).2.1) (kk : ∀ G2, I' G2 → wp E d M_L_law 2374 [some (vs (eS E).1), some (vr x), some (vr m), some (vi i)] [] G2 Q) : wp E d M_L_law 1729 [some (vs (eS E).1), some (vr x), some (vr m), some (vi i)] [] G Q := by
  refine v_L_law_1729 h0 ⟨v1, v2, v3, hx, ?_⟩
  refine wpJ.mono (h G _ _ _ hI) (fun r G1 q => ?_)
  refine ⟨v1, v2, v3, q.1, ?_⟩
  refine wpJ.mono q.2 (fun r' G2 q => ?_)
  exact ⟨fun _ => kk G2 q.2, fun hn => absurd q.1 hn⟩
def Op_whyNot (E : EE) (d x m : Nat) (I I' : AH → Prop) : Prop := ∀ (G : AH) (a0 : Int32) (a1 : Int32) (a2 : Int32) (a3 : Int32), I G → wpJ E d M_X11_whyNot [vr x, vi a0, vi a1, vi a2, vi a3] G (fun r G1 => isO E G1 m 12 ∧ wpJ E d M_X12_whyNot [vr m, vi a0, vi a1, vi a2, vi a3] G1 (fun r' G2 => r = r' ∧ I' G2))
theorem st_whyNot {E : EE} {d x m : Nat} {I I' : AH → Prop} {Q : Option AV → AH → Prop} {G : AH} {i : Int32} (h0 : 0 < d) (h : Op_whyNot E (d - 1) x m I I') (hx : isO E G x 11) (hI : I G) (v1 : vp_in (i + 1) (eS E).2.1) (v2 : vp_in (i + 2) (eS E).2.1) (v3 : vp_in (i + 3) (eS E).2.1) (v4 : vp_in (i + 4) (eS E).2.1) (v5 : vp_in (i + 5) (eS E).2.1) (kk : ∀ G2, I' G2 → wp E d M_L_law 2374 [some (vs (eS E).1), some (vr x), some (vr m), some (vi i)] [] G2 Q) : wp E d M_L_law 1773 [some (vs (eS E).1), some (vr x), some (vr m), some (vi i)] [] G Q := by
  refine v_L_law_1773 h0 ⟨v1, v2, v3, v4, hx, ?_⟩
  refine wpJ.mono (h G _ _ _ _ hI) (fun r G1 q => ?_)
  refine ⟨v1, v2, v3, v4, q.1, ?_⟩
  refine wpJ.mono q.2 (fun r' G2 q => ?_)
  exact ⟨fun _ => kk G2 q.2, fun hn => absurd q.1 hn⟩
def Op_because (E : EE) (d x m : Nat) (I I' : AH → Prop) : Prop := ∀ (G : AH) (a0 : Int32) (a1 : Int32) (a2 : Int32), I G → wpI E d M_X11_because [vr x, vi a0, vi a1, vi a2] G (fun r G1 => isO E G1 m 12 ∧ wpI E d M_X12_because [vr m, vi a0, vi a1, vi a2] G1 (fun r' G2 => r = r' ∧ I' G2))
theorem st_because {E : EE} {d x m : Nat} {I I' : AH → Prop} {Q : Option AV → AH → Prop} {G : AH} {i : Int32} (h0 : 0 < d) (h : Op_because E (d - 1) x m I I') (hx : isO E G x 11) (hI : I G) (v1 : vp_in (i + 1) (eS E).2.1) (v2 : vp_in (i + 2) (eS E).2.1) (v3 : vp_in (i + 3) (eS E).2.1) (v4 : vp_in (i + 4) (eS E).2.1) (v5 : vp_in (i + 5) (eS E).2.1) (kk : ∀ G2, I' G2 → wp E d M_L_law 2374 [some (vs (eS E).1), some (vr x), some (vr m), some (vi i)] [] G2 Q) : wp E d M_L_law 1827 [some (vs (eS E).1), some (vr x), some (vr m), some (vi i)] [] G Q := by
  refine v_L_law_1827 h0 ⟨v1, v2, v3, hx, ?_⟩
  refine wpI.mono (h G _ _ _ hI) (fun r G1 q => ?_)
  refine ⟨v1, v2, v3, q.1, ?_⟩
  refine wpI.mono q.2 (fun r' G2 q => ?_)
  exact ⟨fun _ => kk G2 q.2, fun hn => absurd q.1 hn⟩
def Op_future (E : EE) (d x m : Nat) (I I' : AH → Prop) : Prop := ∀ (G : AH) (a0 : Int32) (a1 : Int32), I G → wpI E d M_X11_future [vr x, vi a0, vi a1] G (fun r G1 => isO E G1 m 12 ∧ wpI E d M_X12_future [vr m, vi a0, vi a1] G1 (fun r' G2 => r = r' ∧ I' G2))
theorem st_future {E : EE} {d x m : Nat} {I I' : AH → Prop} {Q : Option AV → AH → Prop} {G : AH} {i : Int32} (h0 : 0 < d) (h : Op_future E (d - 1) x m I I') (hx : isO E G x 11) (hI : I G) (v1 : vp_in (i + 1) (eS E).2.1) (v2 : vp_in (i + 2) (eS E).2.1) (v3 : vp_in (i + 3) (eS E).2.1) (v4 : vp_in (i + 4) (eS E).2.1) (v5 : vp_in (i + 5) (eS E).2.1) (kk : ∀ G2, I' G2 → wp E d M_L_law 2374 [some (vs (eS E).1), some (vr x), some (vr m), some (vi i)] [] G2 Q) : wp E d M_L_law 1870 [some (vs (eS E).1), some (vr x), some (vr m), some (vi i)] [] G Q := by
  refine v_L_law_1870 h0 ⟨v1, v2, hx, ?_⟩
  refine wpI.mono (h G _ _ hI) (fun r G1 q => ?_)
  refine ⟨v1, v2, q.1, ?_⟩
  refine wpI.mono q.2 (fun r' G2 q => ?_)
  exact ⟨fun _ => kk G2 q.2, fun hn => absurd q.1 hn⟩
def Op_told (E : EE) (d x m : Nat) (I I' : AH → Prop) : Prop := ∀ (G : AH) (a0 : Int32) (a1 : Int32) (a2 : Int32) (a3 : Int32), I G → wpI E d M_X11_told [vr x, vi a0, vi a1, vi a2, vi a3] G (fun r G1 => isO E G1 m 12 ∧ wpI E d M_X12_told [vr m, vi a0, vi a1, vi a2, vi a3] G1 (fun r' G2 => r = r' ∧ I' G2))
theorem st_told {E : EE} {d x m : Nat} {I I' : AH → Prop} {Q : Option AV → AH → Prop} {G : AH} {i : Int32} (h0 : 0 < d) (h : Op_told E (d - 1) x m I I') (hx : isO E G x 11) (hI : I G) (v1 : vp_in (i + 1) (eS E).2.1) (v2 : vp_in (i + 2) (eS E).2.1) (v3 : vp_in (i + 3) (eS E).2.1) (v4 : vp_in (i + 4) (eS E).2.1) (v5 : vp_in (i + 5) (eS E).2.1) (kk : ∀ G2, I' G2 → wp E d M_L_law 2374 [some (vs (eS E).1), some (vr x), some (vr m), some (vi i)] [] G2 Q) : wp E d M_L_law 1903 [some (vs (eS E).1), some (vr x), some (vr m), some (vi i)] [] G Q := by
  refine v_L_law_1903 h0 ⟨v1, v2, v3, v4, hx, ?_⟩
  refine wpI.mono (h G _ _ _ _ hI) (fun r G1 q => ?_)
  refine ⟨v1, v2, v3, v4, q.1, ?_⟩
  refine wpI.mono q.2 (fun r' G2 q => ?_)
  exact ⟨fun _ => kk G2 q.2, fun hn => absurd q.1 hn⟩
def Op_unfold (E : EE) (d x m : Nat) (I I' : AH → Prop) : Prop := ∀ (G : AH) (a0 : Int32), I G → wpI E d M_X11_unfold [vr x, vi a0] G (fun r G1 => isO E G1 m 12 ∧ wpI E d M_X12_unfold [vr m, vi a0] G1 (fun r' G2 => r = r' ∧ I' G2))
theorem st_unfold {E : EE} {d x m : Nat} {I I' : AH → Prop} {Q : Option AV → AH → Prop} {G : AH} {i : Int32} (h0 : 0 < d) (h : Op_unfold E (d - 1) x m I I') (hx : isO E G x 11) (hI : I G) (v1 : vp_in (i + 1) (eS E).2.1) (v2 : vp_in (i + 2) (eS E).2.1) (v3 : vp_in (i + 3) (eS E).2.1) (v4 : vp_in (i + 4) (eS E).2.1) (v5 : vp_in (i + 5) (eS E).2.1) (kk : ∀ G2, I' G2 → wp E d M_L_law 2374 [some (vs (eS E).1), some (vr x), some (vr m), some (vi i)] [] G2 Q) : wp E d M_L_law 1956 [some (vs (eS E).1), some (vr x), some (vr m), some (vi i)] [] G Q := by
  refine v_L_law_1956 h0 ⟨v1, hx, ?_⟩
  refine wpI.mono (h G _ hI) (fun r G1 q => ?_)
  refine ⟨v1, q.1, ?_⟩
  refine wpI.mono q.2 (fun r' G2 q => ?_)
  exact ⟨fun _ => kk G2 q.2, fun hn => absurd q.1 hn⟩
def Op_robust (E : EE) (d x m : Nat) (I I' : AH → Prop) : Prop := ∀ (G : AH) (a0 : Int32), I G → wpI E d M_X11_robust [vr x, vi a0] G (fun r G1 => isO E G1 m 12 ∧ wpI E d M_X12_robust [vr m, vi a0] G1 (fun r' G2 => r = r' ∧ I' G2))
theorem st_robust {E : EE} {d x m : Nat} {I I' : AH → Prop} {Q : Option AV → AH → Prop} {G : AH} {i : Int32} (h0 : 0 < d) (h : Op_robust E (d - 1) x m I I') (hx : isO E G x 11) (hI : I G) (v1 : vp_in (i + 1) (eS E).2.1) (v2 : vp_in (i + 2) (eS E).2.1) (v3 : vp_in (i + 3) (eS E).2.1) (v4 : vp_in (i + 4) (eS E).2.1) (v5 : vp_in (i + 5) (eS E).2.1) (kk : ∀ G2, I' G2 → wp E d M_L_law 2374 [some (vs (eS E).1), some (vr x), some (vr m), some (vi i)] [] G2 Q) : wp E d M_L_law 1979 [some (vs (eS E).1), some (vr x), some (vr m), some (vi i)] [] G Q := by
  refine v_L_law_1979 h0 ⟨v1, hx, ?_⟩
  refine wpI.mono (h G _ hI) (fun r G1 q => ?_)
  refine ⟨v1, q.1, ?_⟩
  refine wpI.mono q.2 (fun r' G2 q => ?_)
  exact ⟨fun _ => kk G2 q.2, fun hn => absurd q.1 hn⟩
def Op_expected (E : EE) (d x m : Nat) (I I' : AH → Prop) : Prop := ∀ (G : AH) (a0 : Int32) (a1 : Int32), I G → wpJ E d M_X11_expected [vr x, vi a0, vi a1] G (fun r G1 => isO E G1 m 12 ∧ wpJ E d M_X12_expected [vr m, vi a0, vi a1] G1 (fun r' G2 => r = r' ∧ I' G2))
theorem st_expected {E : EE} {d x m : Nat} {I I' : AH → Prop} {Q : Option AV → AH → Prop} {G : AH} {i : Int32} (h0 : 0 < d) (h : Op_expected E (d - 1) x m I I') (hx : isO E G x 11) (hI : I G) (v1 : vp_in (i + 1) (eS E).2.1) (v2 : vp_in (i + 2) (eS E).2.1) (v3 : vp_in (i + 3) (eS E).2.1) (v4 : vp_in (i + 4) (eS E).2.1) (v5 : vp_in (i + 5) (eS E).2.1) (kk : ∀ G2, I' G2 → wp E d M_L_law 2374 [some (vs (eS E).1), some (vr x), some (vr m), some (vi i)] [] G2 Q) : wp E d M_L_law 2002 [some (vs (eS E).1), some (vr x), some (vr m), some (vi i)] [] G Q := by
  refine v_L_law_2002 h0 ⟨v1, v2, hx, ?_⟩
  refine wpJ.mono (h G _ _ hI) (fun r G1 q => ?_)
  refine ⟨v1, v2, q.1, ?_⟩
  refine wpJ.mono q.2 (fun r' G2 q => ?_)
  exact ⟨fun _ => kk G2 q.2, fun hn => absurd q.1 hn⟩
def Op_regret (E : EE) (d x m : Nat) (I I' : AH → Prop) : Prop := ∀ (G : AH) (a0 : Int32) (a1 : Int32), I G → wpJ E d M_X11_regret [vr x, vi a0, vi a1] G (fun r G1 => isO E G1 m 12 ∧ wpJ E d M_X12_regret [vr m, vi a0, vi a1] G1 (fun r' G2 => r = r' ∧ I' G2))
theorem st_regret {E : EE} {d x m : Nat} {I I' : AH → Prop} {Q : Option AV → AH → Prop} {G : AH} {i : Int32} (h0 : 0 < d) (h : Op_regret E (d - 1) x m I I') (hx : isO E G x 11) (hI : I G) (v1 : vp_in (i + 1) (eS E).2.1) (v2 : vp_in (i + 2) (eS E).2.1) (v3 : vp_in (i + 3) (eS E).2.1) (v4 : vp_in (i + 4) (eS E).2.1) (v5 : vp_in (i + 5) (eS E).2.1) (kk : ∀ G2, I' G2 → wp E d M_L_law 2374 [some (vs (eS E).1), some (vr x), some (vr m), some (vi i)] [] G2 Q) : wp E d M_L_law 2036 [some (vs (eS E).1), some (vr x), some (vr m), some (vi i)] [] G Q := by
  refine v_L_law_2036 h0 ⟨v1, v2, hx, ?_⟩
  refine wpJ.mono (h G _ _ hI) (fun r G1 q => ?_)
  refine ⟨v1, v2, q.1, ?_⟩
  refine wpJ.mono q.2 (fun r' G2 q => ?_)
  exact ⟨fun _ => kk G2 q.2, fun hn => absurd q.1 hn⟩
def Op_search (E : EE) (d x m : Nat) (I I' : AH → Prop) : Prop := ∀ (G : AH) (a0 : Int32) (a1 : Int32) (a2 : Int32) (a3 : Int32) (a4 : Int32), I G → wpI E d M_X11_search [vr x, vi a0, vi a1, vi a2, vi a3, vi a4] G (fun r G1 => isO E G1 m 12 ∧ wpI E d M_X12_search [vr m, vi a0, vi a1, vi a2, vi a3, vi a4] G1 (fun r' G2 => r = r' ∧ I' G2))
theorem st_search {E : EE} {d x m : Nat} {I I' : AH → Prop} {Q : Option AV → AH → Prop} {G : AH} {i : Int32} (h0 : 0 < d) (h : Op_search E (d - 1) x m I I') (hx : isO E G x 11) (hI : I G) (v1 : vp_in (i + 1) (eS E).2.1) (v2 : vp_in (i + 2) (eS E).2.1) (v3 : vp_in (i + 3) (eS E).2.1) (v4 : vp_in (i + 4) (eS E).2.1) (v5 : vp_in (i + 5) (eS E).2.1) (kk : ∀ G2, I' G2 → wp E d M_L_law 2374 [some (vs (eS E).1), some (vr x), some (vr m), some (vi i)] [] G2 Q) : wp E d M_L_law 2070 [some (vs (eS E).1), some (vr x), some (vr m), some (vi i)] [] G Q := by
  refine v_L_law_2070 h0 ⟨v1, v2, v3, v4, v5, hx, ?_⟩
  refine wpI.mono (h G _ _ _ _ _ hI) (fun r G1 q => ?_)
  refine ⟨v1, v2, v3, v4, v5, q.1, ?_⟩
  refine wpI.mono q.2 (fun r' G2 q => ?_)
  exact ⟨fun _ => kk G2 q.2, fun hn => absurd q.1 hn⟩
def Op_searched (E : EE) (d x m : Nat) (I I' : AH → Prop) : Prop := ∀ (G : AH) (a0 : Int32), I G → wpI E d M_X11_searched [vr x, vi a0] G (fun r G1 => isO E G1 m 12 ∧ wpI E d M_X12_searched [vr m, vi a0] G1 (fun r' G2 => r = r' ∧ I' G2))
theorem st_searched {E : EE} {d x m : Nat} {I I' : AH → Prop} {Q : Option AV → AH → Prop} {G : AH} {i : Int32} (h0 : 0 < d) (h : Op_searched E (d - 1) x m I I') (hx : isO E G x 11) (hI : I G) (v1 : vp_in (i + 1) (eS E).2.1) (v2 : vp_in (i + 2) (eS E).2.1) (v3 : vp_in (i + 3) (eS E).2.1) (v4 : vp_in (i + 4) (eS E).2.1) (v5 : vp_in (i + 5) (eS E).2.1) (kk : ∀ G2, I' G2 → wp E d M_L_law 2374 [some (vs (eS E).1), some (vr x), some (vr m), some (vi i)] [] G2 Q) : wp E d M_L_law 2133 [some (vs (eS E).1), some (vr x), some (vr m), some (vi i)] [] G Q := by
  refine v_L_law_2133 h0 ⟨v1, hx, ?_⟩
  refine wpI.mono (h G _ hI) (fun r G1 q => ?_)
  refine ⟨v1, q.1, ?_⟩
  refine wpI.mono q.2 (fun r' G2 q => ?_)
  exact ⟨fun _ => kk G2 q.2, fun hn => absurd q.1 hn⟩
def Op_check (E : EE) (d x m : Nat) (I I' : AH → Prop) : Prop := ∀ (G : AH) (a0 : Int32), I G → wpI E d M_X11_check [vr x, vi a0] G (fun r G1 => isO E G1 m 12 ∧ wpI E d M_X12_check [vr m, vi a0] G1 (fun r' G2 => r = r' ∧ I' G2))
theorem st_check {E : EE} {d x m : Nat} {I I' : AH → Prop} {Q : Option AV → AH → Prop} {G : AH} {i : Int32} (h0 : 0 < d) (h : Op_check E (d - 1) x m I I') (hx : isO E G x 11) (hI : I G) (v1 : vp_in (i + 1) (eS E).2.1) (v2 : vp_in (i + 2) (eS E).2.1) (v3 : vp_in (i + 3) (eS E).2.1) (v4 : vp_in (i + 4) (eS E).2.1) (v5 : vp_in (i + 5) (eS E).2.1) (kk : ∀ G2, I' G2 → wp E d M_L_law 2374 [some (vs (eS E).1), some (vr x), some (vr m), some (vi i)] [] G2 Q) : wp E d M_L_law 2156 [some (vs (eS E).1), some (vr x), some (vr m), some (vi i)] [] G Q := by
  refine v_L_law_2156 h0 ⟨v1, hx, ?_⟩
  refine wpI.mono (h G _ hI) (fun r G1 q => ?_)
  refine ⟨v1, q.1, ?_⟩
  refine wpI.mono q.2 (fun r' G2 q => ?_)
  exact ⟨fun _ => kk G2 q.2, fun hn => absurd q.1 hn⟩
def Op_prove (E : EE) (d x m : Nat) (I I' : AH → Prop) : Prop := ∀ (G : AH) (a0 : Int32), I G → wpI E d M_X11_prove [vr x, vi a0] G (fun r G1 => isO E G1 m 12 ∧ wpI E d M_X12_prove [vr m, vi a0] G1 (fun r' G2 => r = r' ∧ I' G2))
theorem st_prove {E : EE} {d x m : Nat} {I I' : AH → Prop} {Q : Option AV → AH → Prop} {G : AH} {i : Int32} (h0 : 0 < d) (h : Op_prove E (d - 1) x m I I') (hx : isO E G x 11) (hI : I G) (v1 : vp_in (i + 1) (eS E).2.1) (v2 : vp_in (i + 2) (eS E).2.1) (v3 : vp_in (i + 3) (eS E).2.1) (v4 : vp_in (i + 4) (eS E).2.1) (v5 : vp_in (i + 5) (eS E).2.1) (kk : ∀ G2, I' G2 → wp E d M_L_law 2374 [some (vs (eS E).1), some (vr x), some (vr m), some (vi i)] [] G2 Q) : wp E d M_L_law 2179 [some (vs (eS E).1), some (vr x), some (vr m), some (vi i)] [] G Q := by
  refine v_L_law_2179 h0 ⟨v1, hx, ?_⟩
  refine wpI.mono (h G _ hI) (fun r G1 q => ?_)
  refine ⟨v1, q.1, ?_⟩
  refine wpI.mono q.2 (fun r' G2 q => ?_)
  exact ⟨fun _ => kk G2 q.2, fun hn => absurd q.1 hn⟩
def Op_above (E : EE) (d x m : Nat) (I I' : AH → Prop) : Prop := ∀ (G : AH) , I G → wpJ E d M_X11_above [vr x] G (fun r G1 => isO E G1 m 12 ∧ wpJ E d M_X12_above [vr m] G1 (fun r' G2 => r = r' ∧ I' G2))
theorem st_above {E : EE} {d x m : Nat} {I I' : AH → Prop} {Q : Option AV → AH → Prop} {G : AH} {i : Int32} (h0 : 0 < d) (h : Op_above E (d - 1) x m I I') (hx : isO E G x 11) (hI : I G) (v1 : vp_in (i + 1) (eS E).2.1) (v2 : vp_in (i + 2) (eS E).2.1) (v3 : vp_in (i + 3) (eS E).2.1) (v4 : vp_in (i + 4) (eS E).2.1) (v5 : vp_in (i + 5) (eS E).2.1) (kk : ∀ G2, I' G2 → wp E d M_L_law 2374 [some (vs (eS E).1), some (vr x), some (vr m), some (vi i)] [] G2 Q) : wp E d M_L_law 2202 [some (vs (eS E).1), some (vr x), some (vr m), some (vi i)] [] G Q := by
  refine v_L_law_2202 h0 ⟨hx, ?_⟩
  refine wpJ.mono (h G  hI) (fun r G1 q => ?_)
  refine ⟨q.1, ?_⟩
  refine wpJ.mono q.2 (fun r' G2 q => ?_)
  exact ⟨fun _ => kk G2 q.2, fun hn => absurd q.1 hn⟩
def Op_below (E : EE) (d x m : Nat) (I I' : AH → Prop) : Prop := ∀ (G : AH) , I G → wpJ E d M_X11_below [vr x] G (fun r G1 => isO E G1 m 12 ∧ wpJ E d M_X12_below [vr m] G1 (fun r' G2 => r = r' ∧ I' G2))
theorem st_below {E : EE} {d x m : Nat} {I I' : AH → Prop} {Q : Option AV → AH → Prop} {G : AH} {i : Int32} (h0 : 0 < d) (h : Op_below E (d - 1) x m I I') (hx : isO E G x 11) (hI : I G) (v1 : vp_in (i + 1) (eS E).2.1) (v2 : vp_in (i + 2) (eS E).2.1) (v3 : vp_in (i + 3) (eS E).2.1) (v4 : vp_in (i + 4) (eS E).2.1) (v5 : vp_in (i + 5) (eS E).2.1) (kk : ∀ G2, I' G2 → wp E d M_L_law 2374 [some (vs (eS E).1), some (vr x), some (vr m), some (vi i)] [] G2 Q) : wp E d M_L_law 2216 [some (vs (eS E).1), some (vr x), some (vr m), some (vi i)] [] G Q := by
  refine v_L_law_2216 h0 ⟨hx, ?_⟩
  refine wpJ.mono (h G  hI) (fun r G1 q => ?_)
  refine ⟨q.1, ?_⟩
  refine wpJ.mono q.2 (fun r' G2 q => ?_)
  exact ⟨fun _ => kk G2 q.2, fun hn => absurd q.1 hn⟩
def Op_save (E : EE) (d x m : Nat) (I I' : AH → Prop) : Prop := ∀ (G : AH) (a0 : Int32), I G → wpI E d M_X11_save [vr x, vi a0] G (fun r G1 => isO E G1 m 12 ∧ wpI E d M_X12_save [vr m, vi a0] G1 (fun r' G2 => r = r' ∧ I' G2))
theorem st_save {E : EE} {d x m : Nat} {I I' : AH → Prop} {Q : Option AV → AH → Prop} {G : AH} {i : Int32} (h0 : 0 < d) (h : Op_save E (d - 1) x m I I') (hx : isO E G x 11) (hI : I G) (v1 : vp_in (i + 1) (eS E).2.1) (v2 : vp_in (i + 2) (eS E).2.1) (v3 : vp_in (i + 3) (eS E).2.1) (v4 : vp_in (i + 4) (eS E).2.1) (v5 : vp_in (i + 5) (eS E).2.1) (kk : ∀ G2, I' G2 → wp E d M_L_law 2374 [some (vs (eS E).1), some (vr x), some (vr m), some (vi i)] [] G2 Q) : wp E d M_L_law 2230 [some (vs (eS E).1), some (vr x), some (vr m), some (vi i)] [] G Q := by
  refine v_L_law_2230 h0 ⟨v1, hx, ?_⟩
  refine wpI.mono (h G _ hI) (fun r G1 q => ?_)
  refine ⟨v1, q.1, ?_⟩
  refine wpI.mono q.2 (fun r' G2 q => ?_)
  exact ⟨fun _ => kk G2 q.2, fun hn => absurd q.1 hn⟩
def Op_load (E : EE) (d x m : Nat) (I I' : AH → Prop) : Prop := ∀ (G : AH) (a0 : Int32), I G → wpI E d M_X11_load [vr x, vi a0] G (fun r G1 => isO E G1 m 12 ∧ wpI E d M_X12_load [vr m, vi a0] G1 (fun r' G2 => r = r' ∧ I' G2))
theorem st_load {E : EE} {d x m : Nat} {I I' : AH → Prop} {Q : Option AV → AH → Prop} {G : AH} {i : Int32} (h0 : 0 < d) (h : Op_load E (d - 1) x m I I') (hx : isO E G x 11) (hI : I G) (v1 : vp_in (i + 1) (eS E).2.1) (v2 : vp_in (i + 2) (eS E).2.1) (v3 : vp_in (i + 3) (eS E).2.1) (v4 : vp_in (i + 4) (eS E).2.1) (v5 : vp_in (i + 5) (eS E).2.1) (kk : ∀ G2, I' G2 → wp E d M_L_law 2374 [some (vs (eS E).1), some (vr x), some (vr m), some (vi i)] [] G2 Q) : wp E d M_L_law 2253 [some (vs (eS E).1), some (vr x), some (vr m), some (vi i)] [] G Q := by
  refine v_L_law_2253 h0 ⟨v1, hx, ?_⟩
  refine wpI.mono (h G _ hI) (fun r G1 q => ?_)
  refine ⟨v1, q.1, ?_⟩
  refine wpI.mono q.2 (fun r' G2 q => ?_)
  exact ⟨fun _ => kk G2 q.2, fun hn => absurd q.1 hn⟩
def Op_rows (E : EE) (d x m : Nat) (I I' : AH → Prop) : Prop := ∀ (G : AH) , I G → wpI E d M_X11_rows [vr x] G (fun r G1 => isO E G1 m 12 ∧ wpI E d M_X12_rows [vr m] G1 (fun r' G2 => r = r' ∧ I' G2))
theorem st_rows {E : EE} {d x m : Nat} {I I' : AH → Prop} {Q : Option AV → AH → Prop} {G : AH} {i : Int32} (h0 : 0 < d) (h : Op_rows E (d - 1) x m I I') (hx : isO E G x 11) (hI : I G) (v1 : vp_in (i + 1) (eS E).2.1) (v2 : vp_in (i + 2) (eS E).2.1) (v3 : vp_in (i + 3) (eS E).2.1) (v4 : vp_in (i + 4) (eS E).2.1) (v5 : vp_in (i + 5) (eS E).2.1) (kk : ∀ G2, I' G2 → wp E d M_L_law 2374 [some (vs (eS E).1), some (vr x), some (vr m), some (vi i)] [] G2 Q) : wp E d M_L_law 2276 [some (vs (eS E).1), some (vr x), some (vr m), some (vi i)] [] G Q := by
  refine v_L_law_2276 h0 ⟨hx, ?_⟩
  refine wpI.mono (h G  hI) (fun r G1 q => ?_)
  refine ⟨q.1, ?_⟩
  refine wpI.mono q.2 (fun r' G2 q => ?_)
  exact ⟨fun _ => kk G2 q.2, fun hn => absurd q.1 hn⟩
def Op_size (E : EE) (d x m : Nat) (I I' : AH → Prop) : Prop := ∀ (G : AH) , I G → wpI E d M_X11_size [vr x] G (fun r G1 => isO E G1 m 12 ∧ wpI E d M_X12_size [vr m] G1 (fun r' G2 => r = r' ∧ I' G2))
theorem st_size {E : EE} {d x m : Nat} {I I' : AH → Prop} {Q : Option AV → AH → Prop} {G : AH} {i : Int32} (h0 : 0 < d) (h : Op_size E (d - 1) x m I I') (hx : isO E G x 11) (hI : I G) (v1 : vp_in (i + 1) (eS E).2.1) (v2 : vp_in (i + 2) (eS E).2.1) (v3 : vp_in (i + 3) (eS E).2.1) (v4 : vp_in (i + 4) (eS E).2.1) (v5 : vp_in (i + 5) (eS E).2.1) (kk : ∀ G2, I' G2 → wp E d M_L_law 2374 [some (vs (eS E).1), some (vr x), some (vr m), some (vi i)] [] G2 Q) : wp E d M_L_law 2289 [some (vs (eS E).1), some (vr x), some (vr m), some (vi i)] [] G Q := by
  refine v_L_law_2289 h0 ⟨hx, ?_⟩
  refine wpI.mono (h G  hI) (fun r G1 q => ?_)
  refine ⟨q.1, ?_⟩
  refine wpI.mono q.2 (fun r' G2 q => ?_)
  exact ⟨fun _ => kk G2 q.2, fun hn => absurd q.1 hn⟩
def Op_byteAt (E : EE) (d x m : Nat) (I I' : AH → Prop) : Prop := ∀ (G : AH) (a0 : Int32), I G → wpI E d M_X11_byteAt [vr x, vi a0] G (fun r G1 => isO E G1 m 12 ∧ wpI E d M_X12_byteAt [vr m, vi a0] G1 (fun r' G2 => r = r' ∧ I' G2))
theorem st_byteAt {E : EE} {d x m : Nat} {I I' : AH → Prop} {Q : Option AV → AH → Prop} {G : AH} {i : Int32} (h0 : 0 < d) (h : Op_byteAt E (d - 1) x m I I') (hx : isO E G x 11) (hI : I G) (v1 : vp_in (i + 1) (eS E).2.1) (v2 : vp_in (i + 2) (eS E).2.1) (v3 : vp_in (i + 3) (eS E).2.1) (v4 : vp_in (i + 4) (eS E).2.1) (v5 : vp_in (i + 5) (eS E).2.1) (kk : ∀ G2, I' G2 → wp E d M_L_law 2374 [some (vs (eS E).1), some (vr x), some (vr m), some (vi i)] [] G2 Q) : wp E d M_L_law 2302 [some (vs (eS E).1), some (vr x), some (vr m), some (vi i)] [] G Q := by
  refine v_L_law_2302 h0 ⟨v1, hx, ?_⟩
  refine wpI.mono (h G _ hI) (fun r G1 q => ?_)
  refine ⟨v1, q.1, ?_⟩
  refine wpI.mono q.2 (fun r' G2 q => ?_)
  exact ⟨fun _ => kk G2 q.2, fun hn => absurd q.1 hn⟩
def Op_crash (E : EE) (d x m : Nat) (I I' : AH → Prop) : Prop := ∀ (G : AH) (a0 : Int32), I G → wpI E d M_X11_crash [vr x, vi a0] G (fun r G1 => isO E G1 m 12 ∧ wpI E d M_X12_crash [vr m, vi a0] G1 (fun r' G2 => r = r' ∧ I' G2))
theorem st_crash {E : EE} {d x m : Nat} {I I' : AH → Prop} {Q : Option AV → AH → Prop} {G : AH} {i : Int32} (h0 : 0 < d) (h : Op_crash E (d - 1) x m I I') (hx : isO E G x 11) (hI : I G) (v1 : vp_in (i + 1) (eS E).2.1) (v2 : vp_in (i + 2) (eS E).2.1) (v3 : vp_in (i + 3) (eS E).2.1) (v4 : vp_in (i + 4) (eS E).2.1) (v5 : vp_in (i + 5) (eS E).2.1) (kk : ∀ G2, I' G2 → wp E d M_L_law 2374 [some (vs (eS E).1), some (vr x), some (vr m), some (vi i)] [] G2 Q) : wp E d M_L_law 2325 [some (vs (eS E).1), some (vr x), some (vr m), some (vi i)] [] G Q := by
  refine v_L_law_2325 h0 ⟨v1, hx, ?_⟩
  refine wpI.mono (h G _ hI) (fun r G1 q => ?_)
  refine ⟨v1, q.1, ?_⟩
  refine wpI.mono q.2 (fun r' G2 q => ?_)
  exact ⟨fun _ => kk G2 q.2, fun hn => absurd q.1 hn⟩
def Op_take (E : EE) (d x m : Nat) (I I' : AH → Prop) : Prop := ∀ (G : AH) , I G → wpI E d M_X11_take [vr x] G (fun r G1 => isO E G1 m 12 ∧ wpI E d M_X12_take [vr m] G1 (fun r' G2 => r = r' ∧ I' G2))
theorem st_take {E : EE} {d x m : Nat} {I I' : AH → Prop} {Q : Option AV → AH → Prop} {G : AH} {i : Int32} (h0 : 0 < d) (h : Op_take E (d - 1) x m I I') (hx : isO E G x 11) (hI : I G) (v1 : vp_in (i + 1) (eS E).2.1) (v2 : vp_in (i + 2) (eS E).2.1) (v3 : vp_in (i + 3) (eS E).2.1) (v4 : vp_in (i + 4) (eS E).2.1) (v5 : vp_in (i + 5) (eS E).2.1) (kk : ∀ G2, I' G2 → wp E d M_L_law 2374 [some (vs (eS E).1), some (vr x), some (vr m), some (vi i)] [] G2 Q) : wp E d M_L_law 2348 [some (vs (eS E).1), some (vr x), some (vr m), some (vi i)] [] G Q := by
  refine v_L_law_2348 h0 ⟨hx, ?_⟩
  refine wpI.mono (h G  hI) (fun r G1 q => ?_)
  refine ⟨q.1, ?_⟩
  refine wpI.mono q.2 (fun r' G2 q => ?_)
  exact ⟨fun _ => kk G2 q.2, fun hn => absurd q.1 hn⟩
def Op_bring (E : EE) (d x m : Nat) (I I' : AH → Prop) : Prop := ∀ (G : AH) , I G → wpI E d M_X11_bring [vr x] G (fun r G1 => isO E G1 m 12 ∧ wpI E d M_X12_bring [vr m] G1 (fun r' G2 => r = r' ∧ I' G2))
theorem st_bring {E : EE} {d x m : Nat} {I I' : AH → Prop} {Q : Option AV → AH → Prop} {G : AH} {i : Int32} (h0 : 0 < d) (h : Op_bring E (d - 1) x m I I') (hx : isO E G x 11) (hI : I G) (v1 : vp_in (i + 1) (eS E).2.1) (v2 : vp_in (i + 2) (eS E).2.1) (v3 : vp_in (i + 3) (eS E).2.1) (v4 : vp_in (i + 4) (eS E).2.1) (v5 : vp_in (i + 5) (eS E).2.1) (kk : ∀ G2, I' G2 → wp E d M_L_law 2374 [some (vs (eS E).1), some (vr x), some (vr m), some (vi i)] [] G2 Q) : wp E d M_L_law 2361 [some (vs (eS E).1), some (vr x), some (vr m), some (vi i)] [] G Q := by
  refine v_L_law_2361 h0 ⟨hx, ?_⟩
  refine wpI.mono (h G  hI) (fun r G1 q => ?_)
  refine ⟨q.1, ?_⟩
  refine wpI.mono q.2 (fun r' G2 q => ?_)
  exact ⟨fun _ => kk G2 q.2, fun hn => absurd q.1 hn⟩
/-- each call, of class and reference, one behind the other, answers alike, and leads from I to I' -/
def Ops (E : EE) (d x m : Nat) (I I' : AH → Prop) : Prop := Op_type E d x m I I' ∧ Op_cut E d x m I I' ∧ Op_spoil E d x m I I' ∧ Op_tapeAt E d x m I I' ∧ Op_problem E d x m I I' ∧ Op_fault E d x m I I' ∧ Op_drop E d x m I I' ∧ Op_count E d x m I I' ∧ Op_find E d x m I I' ∧ Op_letter E d x m I I' ∧ Op_shown E d x m I I' ∧ Op_range E d x m I I' ∧ Op_rule E d x m I I' ∧ Op_fact E d x m I I' ∧ Op_change E d x m I I' ∧ Op_value E d x m I I' ∧ Op_put E d x m I I' ∧ Op_pin E d x m I I' ∧ Op_weigh E d x m I I' ∧ Op_broken E d x m I I' ∧ Op_aim E d x m I I' ∧ Op_score E d x m I I' ∧ Op_feasible E d x m I I' ∧ Op_reach E d x m I I' ∧ Op_isLeft E d x m I I' ∧ Op_hopeless E d x m I I' ∧ Op_solve E d x m I I' ∧ Op_best E d x m I I' ∧ Op_bests E d x m I I' ∧ Op_bestAt E d x m I I' ∧ Op_feasibles E d x m I I' ∧ Op_feasibleAt E d x m I I' ∧ Op_has E d x m I I' ∧ Op_choices E d x m I I' ∧ Op_mend E d x m I I' ∧ Op_front E d x m I I' ∧ Op_frontAt E d x m I I' ∧ Op_frontPlan E d x m I I' ∧ Op_near E d x m I I' ∧ Op_clash E d x m I I' ∧ Op_fewest E d x m I I' ∧ Op_relax E d x m I I' ∧ Op_without E d x m I I' ∧ Op_whyNot E d x m I I' ∧ Op_because E d x m I I' ∧ Op_future E d x m I I' ∧ Op_told E d x m I I' ∧ Op_unfold E d x m I I' ∧ Op_robust E d x m I I' ∧ Op_expected E d x m I I' ∧ Op_regret E d x m I I' ∧ Op_search E d x m I I' ∧ Op_searched E d x m I I' ∧ Op_check E d x m I I' ∧ Op_prove E d x m I I' ∧ Op_above E d x m I I' ∧ Op_below E d x m I I' ∧ Op_save E d x m I I' ∧ Op_load E d x m I I' ∧ Op_rows E d x m I I' ∧ Op_size E d x m I I' ∧ Op_byteAt E d x m I I' ∧ Op_crash E d x m I I' ∧ Op_take E d x m I I' ∧ Op_bring E d x m I I'
theorem law_step {E : EE} {d x m : Nat} {I I' : AH → Prop} {Q : Option AV → AH → Prop} {G : AH} {i : Int32} (h0 : 0 < d) (h : Ops E (d - 1) x m I I') (hII : I G → I' G) (hx : isO E G x 11) (hI : I G) (hc : ¬ (nI (eS E).2.1 - 6 < i)) (v0 : vp_in i (eS E).2.1) (v1 : vp_in (i + 1) (eS E).2.1) (v2 : vp_in (i + 2) (eS E).2.1) (v3 : vp_in (i + 3) (eS E).2.1) (v4 : vp_in (i + 4) (eS E).2.1) (v5 : vp_in (i + 5) (eS E).2.1) (kk : ∀ G2, I' G2 → wp E d M_L_law 2374 [some (vs (eS E).1), some (vr x), some (vr m), some (vi i)] [] G2 Q) : wp E d M_L_law 18 [some (vs (eS E).1), some (vr x), some (vr m), some (vi i)] [] G Q := by
  refine v_L_law_18 ⟨fun q => absurd q hc, fun _ => ⟨v0, ?_⟩⟩
  unfold Ops at h
  refine And.intro (fun _ => st_type h0 h.1 hx hI v1 v2 v3 v4 v5 kk) ?_
  refine And.intro (fun _ => st_cut h0 h.2.1 hx hI v1 v2 v3 v4 v5 kk) ?_
  refine And.intro (fun _ => st_spoil h0 h.2.2.1 hx hI v1 v2 v3 v4 v5 kk) ?_
  refine And.intro (fun _ => st_tapeAt h0 h.2.2.2.1 hx hI v1 v2 v3 v4 v5 kk) ?_
  refine And.intro (fun _ => st_problem h0 h.2.2.2.2.1 hx hI v1 v2 v3 v4 v5 kk) ?_
  refine And.intro (fun _ => st_fault h0 h.2.2.2.2.2.1 hx hI v1 v2 v3 v4 v5 kk) ?_
  refine And.intro (fun _ => st_drop h0 h.2.2.2.2.2.2.1 hx hI v1 v2 v3 v4 v5 kk) ?_
  refine And.intro (fun _ => st_count h0 h.2.2.2.2.2.2.2.1 hx hI v1 v2 v3 v4 v5 kk) ?_
  refine And.intro (fun _ => st_find h0 h.2.2.2.2.2.2.2.2.1 hx hI v1 v2 v3 v4 v5 kk) ?_
  refine And.intro (fun _ => st_letter h0 h.2.2.2.2.2.2.2.2.2.1 hx hI v1 v2 v3 v4 v5 kk) ?_
  refine And.intro (fun _ => st_shown h0 h.2.2.2.2.2.2.2.2.2.2.1 hx hI v1 v2 v3 v4 v5 kk) ?_
  refine And.intro (fun _ => st_range h0 h.2.2.2.2.2.2.2.2.2.2.2.1 hx hI v1 v2 v3 v4 v5 kk) ?_
  refine And.intro (fun _ => st_rule h0 h.2.2.2.2.2.2.2.2.2.2.2.2.1 hx hI v1 v2 v3 v4 v5 kk) ?_
  refine And.intro (fun _ => st_fact h0 h.2.2.2.2.2.2.2.2.2.2.2.2.2.1 hx hI v1 v2 v3 v4 v5 kk) ?_
  refine And.intro (fun _ => st_change h0 h.2.2.2.2.2.2.2.2.2.2.2.2.2.2.1 hx hI v1 v2 v3 v4 v5 kk) ?_
  refine And.intro (fun _ => st_value h0 h.2.2.2.2.2.2.2.2.2.2.2.2.2.2.2.1 hx hI v1 v2 v3 v4 v5 kk) ?_
  refine And.intro (fun _ => st_put h0 h.2.2.2.2.2.2.2.2.2.2.2.2.2.2.2.2.1 hx hI v1 v2 v3 v4 v5 kk) ?_
  refine And.intro (fun _ => st_pin h0 h.2.2.2.2.2.2.2.2.2.2.2.2.2.2.2.2.2.1 hx hI v1 v2 v3 v4 v5 kk) ?_
  refine And.intro (fun _ => st_weigh h0 h.2.2.2.2.2.2.2.2.2.2.2.2.2.2.2.2.2.2.1 hx hI v1 v2 v3 v4 v5 kk) ?_
  refine And.intro (fun _ => st_broken h0 h.2.2.2.2.2.2.2.2.2.2.2.2.2.2.2.2.2.2.2.1 hx hI v1 v2 v3 v4 v5 kk) ?_
  refine And.intro (fun _ => st_aim h0 h.2.2.2.2.2.2.2.2.2.2.2.2.2.2.2.2.2.2.2.2.1 hx hI v1 v2 v3 v4 v5 kk) ?_
  refine And.intro (fun _ => st_score h0 h.2.2.2.2.2.2.2.2.2.2.2.2.2.2.2.2.2.2.2.2.2.1 hx hI v1 v2 v3 v4 v5 kk) ?_
  refine And.intro (fun _ => st_feasible h0 h.2.2.2.2.2.2.2.2.2.2.2.2.2.2.2.2.2.2.2.2.2.2.1 hx hI v1 v2 v3 v4 v5 kk) ?_
  refine And.intro (fun _ => st_reach h0 h.2.2.2.2.2.2.2.2.2.2.2.2.2.2.2.2.2.2.2.2.2.2.2.1 hx hI v1 v2 v3 v4 v5 kk) ?_
  refine And.intro (fun _ => st_isLeft h0 h.2.2.2.2.2.2.2.2.2.2.2.2.2.2.2.2.2.2.2.2.2.2.2.2.1 hx hI v1 v2 v3 v4 v5 kk) ?_
  refine And.intro (fun _ => st_hopeless h0 h.2.2.2.2.2.2.2.2.2.2.2.2.2.2.2.2.2.2.2.2.2.2.2.2.2.1 hx hI v1 v2 v3 v4 v5 kk) ?_
  refine And.intro (fun _ => st_solve h0 h.2.2.2.2.2.2.2.2.2.2.2.2.2.2.2.2.2.2.2.2.2.2.2.2.2.2.1 hx hI v1 v2 v3 v4 v5 kk) ?_
  refine And.intro (fun _ => st_best h0 h.2.2.2.2.2.2.2.2.2.2.2.2.2.2.2.2.2.2.2.2.2.2.2.2.2.2.2.1 hx hI v1 v2 v3 v4 v5 kk) ?_
  refine And.intro (fun _ => st_bests h0 h.2.2.2.2.2.2.2.2.2.2.2.2.2.2.2.2.2.2.2.2.2.2.2.2.2.2.2.2.1 hx hI v1 v2 v3 v4 v5 kk) ?_
  refine And.intro (fun _ => st_bestAt h0 h.2.2.2.2.2.2.2.2.2.2.2.2.2.2.2.2.2.2.2.2.2.2.2.2.2.2.2.2.2.1 hx hI v1 v2 v3 v4 v5 kk) ?_
  refine And.intro (fun _ => st_feasibles h0 h.2.2.2.2.2.2.2.2.2.2.2.2.2.2.2.2.2.2.2.2.2.2.2.2.2.2.2.2.2.2.1 hx hI v1 v2 v3 v4 v5 kk) ?_
  refine And.intro (fun _ => st_feasibleAt h0 h.2.2.2.2.2.2.2.2.2.2.2.2.2.2.2.2.2.2.2.2.2.2.2.2.2.2.2.2.2.2.2.1 hx hI v1 v2 v3 v4 v5 kk) ?_
  refine And.intro (fun _ => st_has h0 h.2.2.2.2.2.2.2.2.2.2.2.2.2.2.2.2.2.2.2.2.2.2.2.2.2.2.2.2.2.2.2.2.1 hx hI v1 v2 v3 v4 v5 kk) ?_
  refine And.intro (fun _ => st_choices h0 h.2.2.2.2.2.2.2.2.2.2.2.2.2.2.2.2.2.2.2.2.2.2.2.2.2.2.2.2.2.2.2.2.2.1 hx hI v1 v2 v3 v4 v5 kk) ?_
  refine And.intro (fun _ => st_mend h0 h.2.2.2.2.2.2.2.2.2.2.2.2.2.2.2.2.2.2.2.2.2.2.2.2.2.2.2.2.2.2.2.2.2.2.1 hx hI v1 v2 v3 v4 v5 kk) ?_
  refine And.intro (fun _ => st_front h0 h.2.2.2.2.2.2.2.2.2.2.2.2.2.2.2.2.2.2.2.2.2.2.2.2.2.2.2.2.2.2.2.2.2.2.2.1 hx hI v1 v2 v3 v4 v5 kk) ?_
  refine And.intro (fun _ => st_frontAt h0 h.2.2.2.2.2.2.2.2.2.2.2.2.2.2.2.2.2.2.2.2.2.2.2.2.2.2.2.2.2.2.2.2.2.2.2.2.1 hx hI v1 v2 v3 v4 v5 kk) ?_
  refine And.intro (fun _ => st_frontPlan h0 h.2.2.2.2.2.2.2.2.2.2.2.2.2.2.2.2.2.2.2.2.2.2.2.2.2.2.2.2.2.2.2.2.2.2.2.2.2.1 hx hI v1 v2 v3 v4 v5 kk) ?_
  refine And.intro (fun _ => st_near h0 h.2.2.2.2.2.2.2.2.2.2.2.2.2.2.2.2.2.2.2.2.2.2.2.2.2.2.2.2.2.2.2.2.2.2.2.2.2.2.1 hx hI v1 v2 v3 v4 v5 kk) ?_
  refine And.intro (fun _ => st_clash h0 h.2.2.2.2.2.2.2.2.2.2.2.2.2.2.2.2.2.2.2.2.2.2.2.2.2.2.2.2.2.2.2.2.2.2.2.2.2.2.2.1 hx hI v1 v2 v3 v4 v5 kk) ?_
  refine And.intro (fun _ => st_fewest h0 h.2.2.2.2.2.2.2.2.2.2.2.2.2.2.2.2.2.2.2.2.2.2.2.2.2.2.2.2.2.2.2.2.2.2.2.2.2.2.2.2.1 hx hI v1 v2 v3 v4 v5 kk) ?_
  refine And.intro (fun _ => st_relax h0 h.2.2.2.2.2.2.2.2.2.2.2.2.2.2.2.2.2.2.2.2.2.2.2.2.2.2.2.2.2.2.2.2.2.2.2.2.2.2.2.2.2.1 hx hI v1 v2 v3 v4 v5 kk) ?_
  refine And.intro (fun _ => st_without h0 h.2.2.2.2.2.2.2.2.2.2.2.2.2.2.2.2.2.2.2.2.2.2.2.2.2.2.2.2.2.2.2.2.2.2.2.2.2.2.2.2.2.2.1 hx hI v1 v2 v3 v4 v5 kk) ?_
  refine And.intro (fun _ => st_whyNot h0 h.2.2.2.2.2.2.2.2.2.2.2.2.2.2.2.2.2.2.2.2.2.2.2.2.2.2.2.2.2.2.2.2.2.2.2.2.2.2.2.2.2.2.2.1 hx hI v1 v2 v3 v4 v5 kk) ?_
  refine And.intro (fun _ => st_because h0 h.2.2.2.2.2.2.2.2.2.2.2.2.2.2.2.2.2.2.2.2.2.2.2.2.2.2.2.2.2.2.2.2.2.2.2.2.2.2.2.2.2.2.2.2.1 hx hI v1 v2 v3 v4 v5 kk) ?_
  refine And.intro (fun _ => st_future h0 h.2.2.2.2.2.2.2.2.2.2.2.2.2.2.2.2.2.2.2.2.2.2.2.2.2.2.2.2.2.2.2.2.2.2.2.2.2.2.2.2.2.2.2.2.2.1 hx hI v1 v2 v3 v4 v5 kk) ?_
  refine And.intro (fun _ => st_told h0 h.2.2.2.2.2.2.2.2.2.2.2.2.2.2.2.2.2.2.2.2.2.2.2.2.2.2.2.2.2.2.2.2.2.2.2.2.2.2.2.2.2.2.2.2.2.2.1 hx hI v1 v2 v3 v4 v5 kk) ?_
  refine And.intro (fun _ => st_unfold h0 h.2.2.2.2.2.2.2.2.2.2.2.2.2.2.2.2.2.2.2.2.2.2.2.2.2.2.2.2.2.2.2.2.2.2.2.2.2.2.2.2.2.2.2.2.2.2.2.1 hx hI v1 v2 v3 v4 v5 kk) ?_
  refine And.intro (fun _ => st_robust h0 h.2.2.2.2.2.2.2.2.2.2.2.2.2.2.2.2.2.2.2.2.2.2.2.2.2.2.2.2.2.2.2.2.2.2.2.2.2.2.2.2.2.2.2.2.2.2.2.2.1 hx hI v1 v2 v3 v4 v5 kk) ?_
  refine And.intro (fun _ => st_expected h0 h.2.2.2.2.2.2.2.2.2.2.2.2.2.2.2.2.2.2.2.2.2.2.2.2.2.2.2.2.2.2.2.2.2.2.2.2.2.2.2.2.2.2.2.2.2.2.2.2.2.1 hx hI v1 v2 v3 v4 v5 kk) ?_
  refine And.intro (fun _ => st_regret h0 h.2.2.2.2.2.2.2.2.2.2.2.2.2.2.2.2.2.2.2.2.2.2.2.2.2.2.2.2.2.2.2.2.2.2.2.2.2.2.2.2.2.2.2.2.2.2.2.2.2.2.1 hx hI v1 v2 v3 v4 v5 kk) ?_
  refine And.intro (fun _ => st_search h0 h.2.2.2.2.2.2.2.2.2.2.2.2.2.2.2.2.2.2.2.2.2.2.2.2.2.2.2.2.2.2.2.2.2.2.2.2.2.2.2.2.2.2.2.2.2.2.2.2.2.2.2.1 hx hI v1 v2 v3 v4 v5 kk) ?_
  refine And.intro (fun _ => st_searched h0 h.2.2.2.2.2.2.2.2.2.2.2.2.2.2.2.2.2.2.2.2.2.2.2.2.2.2.2.2.2.2.2.2.2.2.2.2.2.2.2.2.2.2.2.2.2.2.2.2.2.2.2.2.1 hx hI v1 v2 v3 v4 v5 kk) ?_
  refine And.intro (fun _ => st_check h0 h.2.2.2.2.2.2.2.2.2.2.2.2.2.2.2.2.2.2.2.2.2.2.2.2.2.2.2.2.2.2.2.2.2.2.2.2.2.2.2.2.2.2.2.2.2.2.2.2.2.2.2.2.2.1 hx hI v1 v2 v3 v4 v5 kk) ?_
  refine And.intro (fun _ => st_prove h0 h.2.2.2.2.2.2.2.2.2.2.2.2.2.2.2.2.2.2.2.2.2.2.2.2.2.2.2.2.2.2.2.2.2.2.2.2.2.2.2.2.2.2.2.2.2.2.2.2.2.2.2.2.2.2.1 hx hI v1 v2 v3 v4 v5 kk) ?_
  refine And.intro (fun _ => st_above h0 h.2.2.2.2.2.2.2.2.2.2.2.2.2.2.2.2.2.2.2.2.2.2.2.2.2.2.2.2.2.2.2.2.2.2.2.2.2.2.2.2.2.2.2.2.2.2.2.2.2.2.2.2.2.2.2.1 hx hI v1 v2 v3 v4 v5 kk) ?_
  refine And.intro (fun _ => st_below h0 h.2.2.2.2.2.2.2.2.2.2.2.2.2.2.2.2.2.2.2.2.2.2.2.2.2.2.2.2.2.2.2.2.2.2.2.2.2.2.2.2.2.2.2.2.2.2.2.2.2.2.2.2.2.2.2.2.1 hx hI v1 v2 v3 v4 v5 kk) ?_
  refine And.intro (fun _ => st_save h0 h.2.2.2.2.2.2.2.2.2.2.2.2.2.2.2.2.2.2.2.2.2.2.2.2.2.2.2.2.2.2.2.2.2.2.2.2.2.2.2.2.2.2.2.2.2.2.2.2.2.2.2.2.2.2.2.2.2.1 hx hI v1 v2 v3 v4 v5 kk) ?_
  refine And.intro (fun _ => st_load h0 h.2.2.2.2.2.2.2.2.2.2.2.2.2.2.2.2.2.2.2.2.2.2.2.2.2.2.2.2.2.2.2.2.2.2.2.2.2.2.2.2.2.2.2.2.2.2.2.2.2.2.2.2.2.2.2.2.2.2.1 hx hI v1 v2 v3 v4 v5 kk) ?_
  refine And.intro (fun _ => st_rows h0 h.2.2.2.2.2.2.2.2.2.2.2.2.2.2.2.2.2.2.2.2.2.2.2.2.2.2.2.2.2.2.2.2.2.2.2.2.2.2.2.2.2.2.2.2.2.2.2.2.2.2.2.2.2.2.2.2.2.2.2.1 hx hI v1 v2 v3 v4 v5 kk) ?_
  refine And.intro (fun _ => st_size h0 h.2.2.2.2.2.2.2.2.2.2.2.2.2.2.2.2.2.2.2.2.2.2.2.2.2.2.2.2.2.2.2.2.2.2.2.2.2.2.2.2.2.2.2.2.2.2.2.2.2.2.2.2.2.2.2.2.2.2.2.2.1 hx hI v1 v2 v3 v4 v5 kk) ?_
  refine And.intro (fun _ => st_byteAt h0 h.2.2.2.2.2.2.2.2.2.2.2.2.2.2.2.2.2.2.2.2.2.2.2.2.2.2.2.2.2.2.2.2.2.2.2.2.2.2.2.2.2.2.2.2.2.2.2.2.2.2.2.2.2.2.2.2.2.2.2.2.2.1 hx hI v1 v2 v3 v4 v5 kk) ?_
  refine And.intro (fun _ => st_crash h0 h.2.2.2.2.2.2.2.2.2.2.2.2.2.2.2.2.2.2.2.2.2.2.2.2.2.2.2.2.2.2.2.2.2.2.2.2.2.2.2.2.2.2.2.2.2.2.2.2.2.2.2.2.2.2.2.2.2.2.2.2.2.2.1 hx hI v1 v2 v3 v4 v5 kk) ?_
  refine And.intro (fun _ => st_take h0 h.2.2.2.2.2.2.2.2.2.2.2.2.2.2.2.2.2.2.2.2.2.2.2.2.2.2.2.2.2.2.2.2.2.2.2.2.2.2.2.2.2.2.2.2.2.2.2.2.2.2.2.2.2.2.2.2.2.2.2.2.2.2.2.1 hx hI v1 v2 v3 v4 v5 kk) ?_
  refine And.intro (fun _ => st_bring h0 h.2.2.2.2.2.2.2.2.2.2.2.2.2.2.2.2.2.2.2.2.2.2.2.2.2.2.2.2.2.2.2.2.2.2.2.2.2.2.2.2.2.2.2.2.2.2.2.2.2.2.2.2.2.2.2.2.2.2.2.2.2.2.2.2 hx hI v1 v2 v3 v4 v5 kk) ?_
  intros
  exact kk G (hII hI)

