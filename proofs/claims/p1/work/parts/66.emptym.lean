/-! the reference reads a text of no byte -/
section
variable {E : EE} {d : Nat} {V : VH}
def em (V V' : VH) : Prop := Fc V V' (fun a _ _ => a = 6)
theorem c_passBlanks_end {K : VH → Prop} (h0 : 0 < d) (hl : vI V 6 0 39 ≤ vI V 6 0 40) (hk : K V) : vMV E d M_X12_passBlanks [sl 6 0] V K :=
  w_X12_passBlanks_0 (w_X12_passBlanks_2 h0 ⟨fun q => absurd q (by decide), fun _ => ⟨fun _ => hk, fun q => absurd hl q⟩⟩)
theorem c_next_end {K : VH → Prop} (h0 : 1 < d) (hl : vI V 6 0 39 ≤ vI V 6 0 40) (hk : ∀ V', Fc V V' (fun a f i => a = 6 ∧ f = 0 ∧ (i = 41 ∨ i = 43 ∨ i = 44)) → vI V' 6 0 41 = 0 → vI V' 6 0 43 = vI V 6 0 40 → K V') : vMV E d M_X12_next [sl 6 0] V K := by
  refine w_X12_next_0 (by omega) (c_passBlanks_end (by omega) hl (fun V3 e3 V4 e4 => ?_))
  have l4 : vI V4 6 0 40 = vI V 6 0 40 := by rw [e4, wrI_ne (fun z => by omega), e3, wrI_ne (fun z => by omega)]
  have l39 : vI V4 6 0 39 = vI V 6 0 39 := by rw [e4, wrI_ne (fun z => by omega), e3, wrI_ne (fun z => by omega)]
  rw [l4, l39]
  refine ⟨fun q => absurd hl (Int32.not_le.mpr q), fun _ V14 e14 => hk V14 ?_ ?_ ?_⟩
  · rw [e14, e4, e3]; exact ((Fc_wrI ⟨rfl, rfl, by omega⟩).trans (Fc_wrI ⟨rfl, rfl, by omega⟩)).trans (Fc_wrI ⟨rfl, rfl, by omega⟩)
  · rw [e14]; exact wrI_at
  · rw [e14, wrI_ne (fun z => by omega), e4, wrI_ne (fun z => by omega), e3]; exact wrI_at
theorem c_mfail {c p : Int32} {K : VH → Prop} (hw : vI V 6 0 45 = 0) (hk : ∀ V', Fc V V' (fun a f i => a = 6 ∧ f = 0 ∧ (i = 45 ∨ i = 46)) → vI V' 6 0 45 = c → vI V' 6 0 46 = p → K V') : vMV E d M_X12_fail [sl 6 0, wi c, wi p] V K := by
  refine w_X12_fail_0 ⟨fun q => absurd hw q, fun _ V1 e1 V2 e2 => hk V2 ?_ ?_ ?_⟩
  · rw [e2, e1]; exact (Fc_wrI ⟨rfl, rfl, by omega⟩).trans (Fc_wrI ⟨rfl, rfl, by omega⟩)
  · rw [e2, wrI_ne (fun z => by omega), e1]; exact wrI_at
  · rw [e2]; exact wrI_at
theorem c_failHere {K : VH → Prop} (h0 : 0 < d) (hw : vI V 6 0 45 = 0) (hk : ∀ V', Fc V V' (fun a f i => a = 6 ∧ f = 0 ∧ (i = 45 ∨ i = 46)) → vI V' 6 0 45 = (if vI V 6 0 41 = 3 then 1 else 2) → vI V' 6 0 46 = vI V 6 0 43 → K V') : vMV E d M_X12_failHere [sl 6 0] V K := by
  refine w_X12_failHere_0 ⟨fun q => w_X12_failHere_14 h0 (c_mfail hw (fun V' f a b => hk V' f ?_ b)), fun q => w_X12_failHere_14 h0 (c_mfail hw (fun V' f a b => hk V' f ?_ b))⟩
  · rw [if_neg q]; exact a
  · rw [if_pos q]; exact a
end
