/-! System.arraycopy between two rows of one kind -/
def cpI (G : AH) (a0 a sp dp n : Nat) : AH := (G.1, G.2.1, G.2.2.1, u1 G.2.2.2.1 a (va_cpy (gI G a0) (gI G a) sp dp n), G.2.2.2.2.1, G.2.2.2.2.2)
def cpJ (G : AH) (a0 a sp dp n : Nat) : AH := (G.1, G.2.1, G.2.2.1, G.2.2.2.1, u1 G.2.2.2.2.1 a (va_cpy (gJ G a0) (gJ G a) sp dp n), G.2.2.2.2.2)
theorem pd_cpI (G : AH) (a0 a sp dp n : Nat) : Pd G (cpI G a0 a sp dp n) a := ⟨rfl, rfl, rfl, fun b hb => ⟨if_neg hb, rfl, rfl⟩⟩
theorem pd_cpJ (G : AH) (a0 a sp dp n : Nat) : Pd G (cpJ G a0 a sp dp n) a := ⟨rfl, rfl, rfl, fun b hb => ⟨rfl, if_neg hb, rfl⟩⟩
theorem cpy_W {p : Program} {l : Launch} {e : Env} {R : Room} {s : State} {m : MethodId} {args : Array Value} {below : List Frame} {meth : Method} {c : Code} {H : Heap} {locs : List Loc} {cells slots : Nat} {Z : State → Prop} {cc : ByteArray} {pc : Nat} {ls : Array Slot} {rest : List Value}
    (hexec : p.tables.exec = Jvm.exec) (hb : c.code = cc) (hml : c.maxLocals = ls.size) {own : String} {index : Nat} (hown : s.vm.findClass own = some m.cls) (hlink : (Cond.methodLink own index arraycopyName).before args s = true) (hnat : (Cond.native arraycopyName).before args s = true) (hstat : (Cond.static arraycopyName).before args s = true) (hini : (Cond.initialized "java/lang/System").before args s = true)
    {a0 a : Nat} {c0 : ClassId} {n0 n1 : Nat} {f g : Nat → Value} {ty : FieldType} (hc0 : H[a0]? = some (arrV c0 n0 f)) (hc1 : H[a]? = some (arrV c0 n1 g)) (hat : ArrOfT s c0 ty) (hprim : refKind ty = false)
    {sp dp n : Int32} (h1 : ¬ sp < 0) (h2 : ¬ dp < 0) (h3 : ¬ n < 0) (h4 : sp.toNatClampNeg + n.toNatClampNeg ≤ n0) (h5 : dp.toNatClampNeg + n.toNatClampNeg ≤ n1) (hfit : ∀ i, i < n.toNatClampNeg → fits ty (f (sp.toNatClampNeg + i)) = true ∧ ∀ r, f (sp.toNatClampNeg + i) ≠ .ref r)
    (hframes : 1 ≤ R.frames) (hlocals : (rest.map fun v => v.category).sum + (nativeFrameWords "java/lang/System" "arraycopy" 5 + 11) ≤ R.locals) (hdg : decode cc pc = .ok (.invokestatic index, 3))
    (kk : ∀ (H1 : Heap) (L : List Loc), H1[a]? = some (arrV c0 n1 (va_cpy f g sp.toNatClampNeg dp.toNatClampNeg n.toNatClampNeg)) → H1.size = H.size → (∀ q, q ≠ a → H1[q]? = H[q]?) → (∀ q ∈ L, q.base = a) → W p l e R s m args below meth c H1 (locs ++ L) cells slots Z (F0 m (pc + 3) ls rest)) : W p l e R s m args below meth c H locs cells slots Z (F0 m pc ls (.int n :: .int dp :: .ref a :: .int sp :: .ref a0 :: rest)) := by
  have nn : ∀ z : Int32, ¬ z < 0 → z.toInt = (z.toNatClampNeg : Int) := by
    intro z hz
    have hz0 : (0 : Int) ≤ z.toInt := by
      have := Int32.not_lt.mp hz
      simpa using Int32.le_iff_toInt_le.mp this
    show z.toInt = ((z.toInt.toNat : Nat) : Int)
    omega
  intro T hT X
  obtain ⟨-, k0, hk0, cm0, hkk0⟩ := hat n0 f
  obtain ⟨-, k1, hk1, cm1, hkk1⟩ := hat n1 g
  obtain ⟨vm', X', step⟩ := X.arraycopy hexec hown hlink hnat hstat hini (src := a0) (dst := a) (cs := arrV c0 n0 f) (cd := arrV c0 n1 g) (srcPos := sp) (destPos := dp) (n := n) (by rw [hT]; exact hc0) (by rw [hT]; exact hc1)
    (fun _ h => by cases h) (fun _ h => by cases h) (fun h => by cases h) (fun h => by cases h) hk0 hk1 hkk0 hkk1 (by simp [hprim]) h1 h2 h3
    (by rw [nn sp h1, nn n h3]; show ¬ _ > ((arrV c0 n0 f).slots.size : Int); rw [arrV_size]; omega)
    (by rw [nn dp h2, nn n h3]; show ¬ _ > ((arrV c0 n1 g).slots.size : Int); rw [arrV_size]; omega)
    (fun vm₁ _ i hi => by
      have e : (arrV c0 n0 f).slots.getD (sp.toNatClampNeg + i) .null = f (sp.toNatClampNeg + i) := by
        rw [Array.getD_eq_getD_getElem?, arrV_read _ _ (by omega)]
        rfl
      refine ⟨?_, ?_⟩
      · rw [e]
        exact (hfit i hi).1
      · rw [e]
        have hnr := (hfit i hi).2
        generalize f (sp.toNatClampNeg + i) = z at hnr
        cases z <;> first | exact trivial | exact absurd rfl (hnr _))
    (g := F0 m pc ls (.int n :: .int dp :: .ref a :: .int sp :: .ref a0 :: rest)) rfl (by rw [hml]) (rest := rest) rfl (by rw [hb]; exact hdg) hframes (by show 2 * 0 + _ + _ ≤ _; omega)
  have e1 : copied (arrV c0 n0 f) (arrV c0 n1 g) sp dp n = arrV c0 n1 (va_cpy f g sp.toNatClampNeg dp.toNatClampNeg n.toNatClampNeg) := va_copied (fun z => z) c0 c0 f g h4
  rw [e1] at X' step
  have hl : a < H.size := (Array.getElem?_eq_some_iff.mp hc1).1
  have hheap : ((T.setVm vm').setCell a (arrV c0 n1 (va_cpy f g sp.toNatClampNeg dp.toNatClampNeg n.toNatClampNeg))).heap = H.setIfInBounds a (arrV c0 n1 (va_cpy f g sp.toNatClampNeg dp.toNatClampNeg n.toNatClampNeg)) := by rw [← hT]; rfl
  obtain ⟨t, a1, b1⟩ := kk (H.setIfInBounds a (arrV c0 n1 (va_cpy f g sp.toNatClampNeg dp.toNatClampNeg n.toNatClampNeg))) _ (by simp [Array.getElem?_setIfInBounds, hl]) (by simp) (fun q hq => by simp [Array.getElem?_setIfInBounds, Ne.symm hq]) (fun q hq => by
      obtain ⟨z, -, hz⟩ := List.mem_map.mp hq
      rw [← hz]) _ hheap X'
  exact ⟨t, step t a1, b1⟩
theorem cpy_vI {E : EE} {G : AH} {a0 a sp dp n c : Nat} (hc : c ≠ 15 ∧ c ≠ 17) : va_cpy (fun j => vE c (gI G a0 j) (gJ G a0 j) (gR G a0 j)) (fun j => vE c (gI G a j) (gJ G a j) (gR G a j)) sp dp n = fun j => vE c (gI (cpI G a0 a sp dp n) a j) (gJ (cpI G a0 a sp dp n) a j) (gR (cpI G a0 a sp dp n) a j) := by
  funext j
  have e : gI (cpI G a0 a sp dp n) a = va_cpy (gI G a0) (gI G a) sp dp n := if_pos rfl
  unfold vE
  rw [e]
  simp only [if_neg hc.1, if_neg hc.2]
  unfold va_cpy
  split <;> rfl
theorem cpy_vJ {E : EE} {G : AH} {a0 a sp dp n : Nat} : va_cpy (fun j => vE 15 (gI G a0 j) (gJ G a0 j) (gR G a0 j)) (fun j => vE 15 (gI G a j) (gJ G a j) (gR G a j)) sp dp n = fun j => vE 15 (gI (cpJ G a0 a sp dp n) a j) (gJ (cpJ G a0 a sp dp n) a j) (gR (cpJ G a0 a sp dp n) a j) := by
  funext j
  have e : gJ (cpJ G a0 a sp dp n) a = va_cpy (gJ G a0) (gJ G a) sp dp n := if_pos rfl
  unfold vE
  rw [e]
  simp only [if_pos]
  unfold va_cpy
  split <;> rfl
theorem nfw_le : nativeFrameWords "java/lang/System" "arraycopy" 5 + 11 ≤ 40 := by decide
section
variable {E : EE} {d : Nat} {M : MD} {pc idx : Nat} {lv : List (Option AV)} {st : List AV} {G : AH} {Q : Option AV → AH → Prop} {a0 a c : Nat} {sp dp n : Int32}
theorem wp_cpy {G1 : AH} {ty : FieldType} (hd : decode M.2.1 pc = .ok (.invokestatic idx, 3)) (hl : Cond.methodLink M.1.cls idx arraycopyName ∈ TB) (hnat : Cond.native arraycopyName ∈ TB) (hstat : Cond.static arraycopyName ∈ TB) (hini : Cond.initialized "java/lang/System" ∈ TB) (h0 : 0 < d)
    (hc : 13 ≤ c) (hcc : (tys5 E)[c - 13]? = some (eC E c, ty)) (hprim : refKind ty = false) (ha0 : isO E G a0 c) (ha : isO E G a c) (h1 : ¬ sp < 0) (h2 : ¬ dp < 0) (h3 : ¬ n < 0) (h4 : sp.toNatClampNeg + n.toNatClampNeg ≤ gN G a0) (h5 : dp.toNatClampNeg + n.toNatClampNeg ≤ gN G a)
    (hfit : ∀ i, i < n.toNatClampNeg → fits ty (vE c (gI G a0 (sp.toNatClampNeg + i)) (gJ G a0 (sp.toNatClampNeg + i)) (gR G a0 (sp.toNatClampNeg + i))) = true ∧ ∀ r, vE c (gI G a0 (sp.toNatClampNeg + i)) (gJ G a0 (sp.toNatClampNeg + i)) (gR G a0 (sp.toNatClampNeg + i)) ≠ .ref r)
    (hr : catS st ≤ 8) (hp : Pd G G1 a) (hv : va_cpy (fun j => vE c (gI G a0 j) (gJ G a0 j) (gR G a0 j)) (fun j => vE c (gI G a j) (gJ G a j) (gR G a j)) sp.toNatClampNeg dp.toNatClampNeg n.toNatClampNeg = fun j => vE c (gI G1 a j) (gJ G1 a j) (gR G1 a j))
    (kk : wp E d M (pc + 3) lv st G1 Q) : wp E d M pc lv (vi n :: vi dp :: vr a :: vi sp :: vr a0 :: st) G Q := by
  obtain ⟨r, G', ⟨t1, u1, hX⟩, hq⟩ := kk
  obtain ⟨eT, eU⟩ := pd_TU hp
  refine ⟨r, G', ⟨by omega, by omega, fun p e s m args below meth c' n0 w0 H locs ls C hn hw hW hS hlo => ?_⟩, hq⟩
  obtain ⟨hx, hb, hml, hrt, hlk, hown, hts, hK, hR, -⟩ := id C
  show W p E.1 e _ s m args below meth c' H locs _ _ _ (F0 m pc ls (.int n :: .int dp :: rv a :: .int sp :: rv a0 :: st.map cv))
  rw [rv_ne (ha.ne hR), rv_ne (ha0.ne hR)]
  refine cpy_W hx hb (hml.trans hlo.1.symm) hown (hts _ hl) (hts _ hnat) (hts _ hstat) (hts _ hini) (wd_arr hW ha0 hc) (wd_arr hW ha hc) (hK.2 _ _ hcc).1 hprim h1 h2 h3 h4 h5 hfit (by show 1 ≤ d; omega) (by rw [catS_eq]; have := nfw_le; show _ ≤ 64 * d; omega) hd (fun H1 L e1 z o1 hL => ?_)
  have q := hX p e s m args below meth c' n0 w0 H1 (locs ++ L) ls C (by omega) (by omega) (hW.set hp z o1 ?_) ⟨by rw [z]; exact hS.1, fun q g1 g2 => ?_, fun q hq => ?_⟩ hlo
  · rw [eT, eU] at q
    exact q
  · unfold cellOk
    rw [hp.2.1, hp.2.2.1, ha.2.2, if_neg (by omega), e1, hv]
  · rw [o1 q (fun e => g2 (by rw [e]; exact ha.1))]
    exact hS.2.1 q g1 g2
  · rcases List.mem_append.mp hq with h | h
    · exact hS.2.2 q h
    · show eB E ≤ q.base
      rw [hL q h]; exact ha.1
end
/-! Math, Object.<init> -/
theorem wp_goR {E : EE} {d : Nat} {M : MD} {pc pc' : Nat} {lv lv' : List (Option AV)} {st st' : List AV} {G : AH} {Q : Option AV → AH → Prop}
    (h : ∀ (p : Program) (e : Env) (s : State) (m : MethodId) (args : Array Value) (below : List Frame) (meth : Method) (c : Code) (H : Heap) (locs : List Loc) (ls : Array Slot) (cells slots nc ns : Nat) (Z : State → Prop),
      Cx E M p s m args meth c → Wd E G H → va_S (eA E) s.heap H locs → lh ls M.2.2.1 lv → cells ≤ nc → slots ≤ ns →
      (∀ ls' : Array Slot, lh ls' M.2.2.1 lv' → W p E.1 e (rmm d nc ns) s m args below meth c H locs cells slots Z (F0 m pc' ls' (st'.map cv))) →
      W p E.1 e (rmm d nc ns) s m args below meth c H locs cells slots Z (F0 m pc ls (st.map cv)))
    (k : wp E d M pc' lv' st' G Q) : wp E d M pc lv st G Q := by
  obtain ⟨r, G', ⟨h1, h2, h3⟩, hq⟩ := k
  exact ⟨r, G', ⟨h1, h2, fun p e s m args below meth c n0 w0 H locs ls C hn hw hW hS hl => h p e s m args below meth c H locs ls _ _ _ _ _ C hW hS hl (by omega) (by omega) (fun ls' hl' => h3 p e s m args below meth c n0 w0 H locs ls' C hn hw hW hS hl')⟩, hq⟩
def imax (x y : Int32) : Int32 := if x < y then y else x
def imin (x y : Int32) : Int32 := if y < x then y else x
section
variable {E : EE} {d : Nat} {M : MD} {pc idx : Nat} {lv : List (Option AV)} {st : List AV} {G : AH} {Q : Option AV → AH → Prop}
theorem wp_imax {x y : Int32} (hd : decode M.2.1 pc = .ok (.invokestatic idx, 3)) (hl : Cond.methodLink M.1.cls idx Lib.Math.max.name ∈ TB) (hst : Cond.static Lib.Math.max.name ∈ TB) (hini : Cond.initialized "java/lang/Math" ∈ TB) (hco : Cond.code Lib.Math.max.name Lib.Math.max.code 2 (some .int) ∈ TB) (h0 : 0 < d) (hr : catS st ≤ 8) (k : wp E d M (pc + 3) lv (vi (imax x y) :: st) G Q) : wp E d M pc lv (vi y :: vi x :: st) G Q :=
  wp_goR (fun p e s m args below meth c H locs ls cells slots nc ns Z C hW hS hlo hc hs kk => va_mmax C.1 C.2.1 (C.2.2.1.trans hlo.1.symm) C.2.2.2.2.2.1 (C.2.2.2.2.2.2.1 _ hl) (C.2.2.2.2.2.2.1 _ hst) (C.2.2.2.2.2.2.1 _ hini) (C.2.2.2.2.2.2.1 _ hco) (by show 1 ≤ d; omega) (by rw [catS_eq]; show _ ≤ 64 * d; omega) hc hs hd (kk ls hlo)) k
theorem wp_imin {x y : Int32} (hd : decode M.2.1 pc = .ok (.invokestatic idx, 3)) (hl : Cond.methodLink M.1.cls idx Lib.Math.min.name ∈ TB) (hst : Cond.static Lib.Math.min.name ∈ TB) (hini : Cond.initialized "java/lang/Math" ∈ TB) (hco : Cond.code Lib.Math.min.name Lib.Math.min.code 2 (some .int) ∈ TB) (h0 : 0 < d) (hr : catS st ≤ 8) (k : wp E d M (pc + 3) lv (vi (imin x y) :: st) G Q) : wp E d M pc lv (vi y :: vi x :: st) G Q :=
  wp_goR (fun p e s m args below meth c H locs ls cells slots nc ns Z C hW hS hlo hc hs kk => va_mmin C.1 C.2.1 (C.2.2.1.trans hlo.1.symm) C.2.2.2.2.2.1 (C.2.2.2.2.2.2.1 _ hl) (C.2.2.2.2.2.2.1 _ hst) (C.2.2.2.2.2.2.1 _ hini) (C.2.2.2.2.2.2.1 _ hco) (by show 1 ≤ d; omega) (by rw [catS_eq]; show _ ≤ 64 * d; omega) hc hs hd (kk ls hlo)) k
theorem wp_objI {a c : Nat} (hd : decode M.2.1 pc = .ok (.invokespecial idx, 3)) (hl : Cond.methodLink M.1.cls idx Lib.objectInit ∈ TB) (hin : Cond.instanceMethod Lib.objectInit ∈ TB) (hco : Cond.code Lib.objectInit ⟨#[0xb1]⟩ 1 none ∈ TB) (h0 : 0 < d) (ha : isO E G a c) (hr : catS st ≤ 8) (k : wp E d M (pc + 3) lv st G Q) : wp E d M pc lv (vr a :: st) G Q := by
  refine wp_goR (fun p e s m args below meth c H locs ls cells slots nc ns Z C hW hS hlo hc hs kk => ?_) k
  show W p E.1 e _ s m args below meth c H locs cells slots Z (F0 m pc ls (rv a :: st.map cv))
  rw [rv_ne (ha.ne C.2.2.2.2.2.2.2.2.1)]
  exact W.objInit C.1 C.2.1 C.2.2.2.2.2.1 (C.2.2.2.2.2.2.1 _ hl) (C.2.2.2.2.2.2.1 _ hin) (C.2.2.2.2.2.2.1 _ hco) rfl (hlo.1.trans C.2.2.1.symm) rfl hd (by show 1 ≤ d; omega) (by rw [catS_eq]; show 2 * 0 + _ + _ ≤ 64 * d; omega) (kk ls hlo)
end
