/-! THE ENGINE: abstract values, heaps and worlds; 'wp': from here the method returns, and what then holds -/
/-- an int, a long, a reference to a cell of ours (0: null), a reference to what is only read -/
abbrev AV : Type := Int32 ⊕ Int64 ⊕ Nat ⊕ Nat
abbrev vi (x : Int32) : AV := Sum.inl x
abbrev vj (x : Int64) : AV := Sum.inr (Sum.inl x)
abbrev vr (a : Nat) : AV := Sum.inr (Sum.inr (Sum.inl a))
abbrev vs (a : Nat) : AV := Sum.inr (Sum.inr (Sum.inr a))
/-- a reference: 0 is null -/
def rv (a : Nat) : Value := if a = 0 then .null else .ref a
def cv : AV → Value := fun v => match v with
  | .inl x => .int x
  | .inr (.inl x) => .long x
  | .inr (.inr (.inl a)) => rv a
  | .inr (.inr (.inr a)) => .ref a
theorem rv_ne {a : Nat} (h : a ≠ 0) : rv a = .ref a := if_neg h
theorem rv_0 : rv 0 = .null := if_pos rfl
theorem rv_cat (a : Nat) : (rv a).category = 1 := by unfold rv; split <;> rfl
/-- a heap: (top, slots used), kind of each address, length, ints, longs, references -/
abbrev AH : Type := (Nat × Nat) × (Nat → Nat) × (Nat → Nat) × (Nat → Nat → Int32) × (Nat → Nat → Int64) × (Nat → Nat → Nat)
def gT (G : AH) : Nat := G.1.1
def gU (G : AH) : Nat := G.1.2
def gK (G : AH) : Nat → Nat := G.2.1
def gN (G : AH) : Nat → Nat := G.2.2.1
def gI (G : AH) : Nat → Nat → Int32 := G.2.2.2.1
def gJ (G : AH) : Nat → Nat → Int64 := G.2.2.2.2.1
def gR (G : AH) : Nat → Nat → Nat := G.2.2.2.2.2
def u1 {α : Type} (f : Nat → α) (a : Nat) (v : α) : Nat → α := fun b => if b = a then v else f b
def u2 {α : Type} (f : Nat → Nat → α) (a k : Nat) (v : α) : Nat → Nat → α := fun b j => if b = a ∧ j = k then v else f b j
def sI (G : AH) (a k : Nat) (v : Int32) : AH := (G.1, G.2.1, G.2.2.1, u2 G.2.2.2.1 a k v, G.2.2.2.2.1, G.2.2.2.2.2)
def sJ (G : AH) (a k : Nat) (v : Int64) : AH := (G.1, G.2.1, G.2.2.1, G.2.2.2.1, u2 G.2.2.2.2.1 a k v, G.2.2.2.2.2)
def sR (G : AH) (a k : Nat) (v : Nat) : AH := (G.1, G.2.1, G.2.2.1, G.2.2.2.1, G.2.2.2.2.1, u2 G.2.2.2.2.2 a k v)
/-- a new cell, at the top: its kind, its length (of arrays), its slots -/
def nw (G : AH) (kd n sz : Nat) : AH := ((gT G + 1, gU G + sz), u1 (gK G) (gT G) kd, u1 (gN G) (gT G) n, u1 (gI G) (gT G) (fun _ => 0), u1 (gJ G) (gT G) (fun _ => 0), u1 (gR G) (gT G) (fun _ => 0))
/-- what stays the same: launch; classes; array classes by kind; the first address; the script; WORDS; the texts' addresses, and those of their bytes -/
abbrev EE : Type := Launch × va_G × (Nat → ClassId) × Nat × (Nat × Nat × (Nat → Int32)) × Nat × (Nat → Nat) × (Nat → Nat) × AV
def eD (E : EE) : va_G := E.2.1
def eC (E : EE) : Nat → ClassId := E.2.2.1
def eB (E : EE) : Nat := E.2.2.2.1
def eS (E : EE) : Nat × Nat × (Nat → Int32) := E.2.2.2.2.1
def eW (E : EE) : Nat := E.2.2.2.2.2.1
def eK (E : EE) : Nat → Nat := E.2.2.2.2.2.2.1
def eV (E : EE) : Nat → Nat := E.2.2.2.2.2.2.2.1
/-- a static of the JDK's, null or not -/
def eF (E : EE) : AV := E.2.2.2.2.2.2.2.2
def eA (E : EE) : Nat → Prop := fun q => eB E ≤ q
/-- a method: name, bytes, locals, what it returns -/
abbrev MD : Type := MethodName × ByteArray × Nat × Option FieldType
def rmm (d c s : Nat) : Room := { frames := d, cells := c, slots := s, locals := 64 * d }
def tys5 (E : EE) : List (ClassId × FieldType) := [(eC E 13, .byte), (eC E 14, .int), (eC E 15, .long), (eC E 16, .boolean), (eC E 17, .object "PlanningHouse$Problem")]
/-- the static row WORDS -/
def wordsL : List Int64 := [0x66616374, 0x766172, 0x696e, 0x72756c65, 0x6174, 0x61696d, 0x616c6c, 0x726f77, 0x6c6578, 0x72696e67, 0x6175746f, 0x62757379, 0x6170617274, 0x616273, 0x6d696e, 0x6d6178, 0x7069636b]
def wordsF (j : Nat) : Int64 := wordsL.getD j 0
/-- the texts: whose constant, its entry, the text -/
def txts : List (String × Nat × String) := [
  ("PlanningHouse$Reader", 237, "vvnn"),
  ("PlanningHouse$Reader", 246, "vnn"),
  ("PlanningHouse$Reader", 252, "i"),
  ("PlanningHouse$Reader", 254, "sis"),
  ("PlanningHouse$Tokens", 98, ";=#<>+-*()[]{},:&|~!."),
  ("PlanningHouseModel", 253, "fact"),
  ("PlanningHouseModel", 259, "var"),
  ("PlanningHouseModel", 261, "in"),
  ("PlanningHouseModel", 263, "rule"),
  ("PlanningHouseModel", 265, "at"),
  ("PlanningHouseModel", 266, "aim"),
  ("PlanningHouseModel", 268, "all"),
  ("PlanningHouseModel", 270, "row"),
  ("PlanningHouseModel", 271, "lex"),
  ("PlanningHouseModel", 273, "ring"),
  ("PlanningHouseModel", 275, "auto"),
  ("PlanningHouseModel", 277, "busy"),
  ("PlanningHouseModel", 279, "apart"),
  ("PlanningHouseModel", 281, "abs"),
  ("PlanningHouseModel", 283, "min"),
  ("PlanningHouseModel", 285, "max"),
  ("PlanningHouseModel", 287, "pick")]
def txLen : List Nat := [4, 3, 1, 3, 21, 4, 3, 2, 4, 2, 3, 3, 3, 3, 4, 4, 4, 5, 3, 3, 3, 4]
def txByt : List (List Int32) := [[118, 118, 110, 110], [118, 110, 110], [105], [115, 105, 115], [59, 61, 35, 60, 62, 43, 45, 42, 40, 41, 91, 93, 123, 125, 44, 58, 38, 124, 126, 33, 46], [102, 97, 99, 116], [118, 97, 114], [105, 110], [114, 117, 108, 101], [97, 116], [97, 105, 109], [97, 108, 108], [114, 111, 119], [108, 101, 120], [114, 105, 110, 103], [97, 117, 116, 111], [98, 117, 115, 121], [97, 112, 97, 114, 116], [97, 98, 115], [109, 105, 110], [109, 97, 120], [112, 105, 99, 107]]
/-- the words that stay -/
def TB : List Cond := lw_tbl.filter goodWord
theorem inTB {w : Cond} (h : w ∈ lw_tbl) (hg : goodWord w = true) : w ∈ TB := List.mem_filter.mpr ⟨h, hg⟩
/-- what is only read -/
def RO (E : EE) (U : State) : Prop :=
  va_X (eS E).1 (eS E).2.1 (eS E).2.2 U U.heap ∧ (eS E).1 < eB E ∧ eB E ≤ U.heap.size ∧
  va_Z "PlanningHouse$Tokens" "WORDS" "[J" (.ref (eW E)) (eA E) U U.heap ∧ va_T .long (eW E) 17 (fun j => .long (wordsF j)) (eA E) U U.heap ∧
  va_Z "java/lang/String" "COMPACT_STRINGS" "Z" (.int 1) (eA E) U U.heap ∧
  (∀ (i : Nat) (q : String × Nat × String), txts[i]? = some q → vk_R q.1 q.2.1 q.2.2 (eK E i) U) ∧
  vk_S 22 txLen txByt (eK E) (eV E) (eA E) U U.heap ∧ va_AO "PlanningHouse$Problem" U ∧
  va_Z "jdk/internal/util/Preconditions" "SIOOBE_FORMATTER" "Ljava/util/function/BiFunction;" (cv (eF E)) (eA E) U U.heap
def vF (c k : Nat) (i : Int32) (j : Int64) (r : Nat) : Value := match tyOf c k with
  | .long => .long j
  | .object _ => rv r
  | .array _ => rv r
  | _ => .int i
def vE (kd : Nat) (i : Int32) (j : Int64) (r : Nat) : Value := if kd = 15 then .long j else if kd = 17 then rv r else .int i
def cellOk (E : EE) (G : AH) (H : Heap) (a : Nat) : Prop :=
  if gK G a < 13 then ∃ r : vw_C, cls13[gK G a]? = some r ∧ t_OB a ((eD E).1 (gK G a)) r.2.2 ((eD E).2 (gK G a)) H (fun k => vF (gK G a) k (gI G a k) (gJ G a k) (gR G a k))
  else H[a]? = some (arrV (eC E (gK G a)) (gN G a) (fun j => vE (gK G a) (gI G a j) (gJ G a j) (gR G a j)))
def Wd (E : EE) (G : AH) (H : Heap) : Prop := H.size = gT G ∧ ∀ a : Nat, eB E ≤ a → a < gT G → cellOk E G H a
/-- an object, or an array, of kind c at a -/
def isO (E : EE) (G : AH) (a c : Nat) : Prop := eB E ≤ a ∧ a < gT G ∧ gK G a = c
/-- the locals -/
def lh (ls : Array Slot) (n : Nat) (lv : List (Option AV)) : Prop := ls.size = n ∧ lv_wf ls ∧ ∀ (i : Nat) (v : AV), lv[i]? = some (some v) → ls[i]? = some (.val (cv v))
def Cx (E : EE) (M : MD) (p : Program) (s : State) (m : MethodId) (args : Array Value) (meth : Method) (c : Code) : Prop :=
  p.tables.exec = Jvm.exec ∧ c.code = M.2.1 ∧ c.maxLocals = M.2.2.1 ∧ meth.sig.returnType = M.2.2.2 ∧ meth.locks = false ∧ s.vm.findClass M.1.cls = some m.cls ∧ (∀ w ∈ TB, w.before args s = true) ∧ va_K (eD E) cls13 (tys5 E) s ∧ RO E s ∧ meth.name = M.1.name
def Pc (E : EE) (as : List AV) (G : AH) : Array Value → State → Prop := fun v U => v = (as.map cv).toArray ∧ Wd E G U.heap ∧ va_K (eD E) cls13 (tys5 E) U ∧ RO E U
def Qc (E : EE) (r : Option AV) (G : AH) : Array Value → State → Outcome → State → Prop := fun _ st o t => o = .returned (r.map cv) ∧ Wd E G t.heap ∧ va_F (eA E) st t
/-- from here the method returns r, and the heap is G' then -/
def XX (E : EE) (d : Nat) (M : MD) (pc : Nat) (lv : List (Option AV)) (st : List AV) (G : AH) (r : Option AV) (G' : AH) : Prop :=
  gT G ≤ gT G' ∧ gU G ≤ gU G' ∧ ∀ (p : Program) (e : Env) (s : State) (m : MethodId) (args : Array Value) (below : List Frame) (meth : Method) (c : Code) (n0 w0 : Nat) (H : Heap) (locs : List Loc) (ls : Array Slot),
    Cx E M p s m args meth c → n0 ≤ gT G → w0 ≤ gU G → Wd E G H → va_S (eA E) s.heap H locs → lh ls M.2.2.1 lv →
    W p E.1 e (rmm d (gT G' - n0) (gU G' - w0)) s m args below meth c H locs (gT G - n0) (gU G - w0) (MQ below (Qc E r G') args s (gT G' - n0) (gU G' - w0) (eA E)) (F0 m pc ls (st.map cv))
def wp (E : EE) (d : Nat) (M : MD) (pc : Nat) (lv : List (Option AV)) (st : List AV) (G : AH) (Q : Option AV → AH → Prop) : Prop := ∃ (r : Option AV) (G' : AH), XX E d M pc lv st G r G' ∧ Q r G'
def wsM (N : MD) : List Cond := Cond.code N.1 N.2.1 N.2.2.1 N.2.2.2 :: TB
/-- method N, called with these, from this heap, returns r, and the heap is G' then; d: how deep it may go -/
def RR (E : EE) (d : Nat) (N : MD) (as : List AV) (G : AH) (r : Option AV) (G' : AH) : Prop :=
  gT G ≤ gT G' ∧ gU G ≤ gU G' ∧ Met E.1 N.1 (wsM N) (rmm d (gT G' - gT G) (gU G' - gU G)) (Pc E as G) (Qc E r G') (gT G' - gT G) (gU G' - gU G) (eA E)
def wpM (E : EE) (d : Nat) (N : MD) (as : List AV) (G : AH) (Q : Option AV → AH → Prop) : Prop := ∃ (r : Option AV) (G' : AH), RR E d N as G r G' ∧ Q r G'
theorem wp.mono {E : EE} {d : Nat} {M : MD} {pc : Nat} {lv : List (Option AV)} {st : List AV} {G : AH} {Q Q' : Option AV → AH → Prop} (h : wp E d M pc lv st G Q) (hq : ∀ r G', Q r G' → Q' r G') : wp E d M pc lv st G Q' := by
  obtain ⟨r, G', h1, h2⟩ := h
  exact ⟨r, G', h1, hq r G' h2⟩
theorem wpM.mono {E : EE} {d : Nat} {N : MD} {as : List AV} {G : AH} {Q Q' : Option AV → AH → Prop} (h : wpM E d N as G Q) (hq : ∀ r G', Q r G' → Q' r G') : wpM E d N as G Q' := by
  obtain ⟨r, G', h1, h2⟩ := h
  exact ⟨r, G', h1, hq r G' h2⟩
/-- an instruction that leaves the heap -/
def Go (E : EE) (M : MD) (G : AH) (pc : Nat) (lv : List (Option AV)) (st : List AV) (pc' : Nat) (lv' : List (Option AV)) (st' : List AV) : Prop :=
  ∀ (p : Program) (e : Env) (R : Room) (s : State) (m : MethodId) (args : Array Value) (below : List Frame) (meth : Method) (c : Code) (H : Heap) (locs : List Loc) (ls : Array Slot) (cells slots : Nat) (Z : State → Prop),
    Cx E M p s m args meth c → Wd E G H → va_S (eA E) s.heap H locs → lh ls M.2.2.1 lv →
    (∀ ls' : Array Slot, lh ls' M.2.2.1 lv' → W p E.1 e R s m args below meth c H locs cells slots Z (F0 m pc' ls' (st'.map cv))) →
    W p E.1 e R s m args below meth c H locs cells slots Z (F0 m pc ls (st.map cv))
theorem wp_go {E : EE} {d : Nat} {M : MD} {pc pc' : Nat} {lv lv' : List (Option AV)} {st st' : List AV} {G : AH} {Q : Option AV → AH → Prop} (h : Go E M G pc lv st pc' lv' st') (k : wp E d M pc' lv' st' G Q) : wp E d M pc lv st G Q := by
  obtain ⟨r, G', ⟨h1, h2, h3⟩, hq⟩ := k
  exact ⟨r, G', ⟨h1, h2, fun p e s m args below meth c n0 w0 H locs ls C hn hw hW hS hl => h p e _ s m args below meth c H locs ls _ _ _ C hW hS hl (fun ls' hl' => h3 p e s m args below meth c n0 w0 H locs ls' C hn hw hW hS hl')⟩, hq⟩
/-- an instruction that changes the heap -/
def Mv (E : EE) (M : MD) (G G1 : AH) (pc : Nat) (lv : List (Option AV)) (st : List AV) (pc' : Nat) (st' : List AV) : Prop :=
  ∀ (p : Program) (e : Env) (R : Room) (s : State) (m : MethodId) (args : Array Value) (below : List Frame) (meth : Method) (c : Code) (H : Heap) (locs : List Loc) (ls : Array Slot) (cells slots : Nat) (Z : State → Prop),
    Cx E M p s m args meth c → Wd E G H → va_S (eA E) s.heap H locs → lh ls M.2.2.1 lv → cells + (gT G1 - gT G) ≤ R.cells → slots + (gU G1 - gU G) ≤ R.slots →
    (∀ (H1 : Heap) (locs1 : List Loc), Wd E G1 H1 → va_S (eA E) s.heap H1 locs1 → W p E.1 e R s m args below meth c H1 locs1 (cells + (gT G1 - gT G)) (slots + (gU G1 - gU G)) Z (F0 m pc' ls (st'.map cv))) →
    W p E.1 e R s m args below meth c H locs cells slots Z (F0 m pc ls (st.map cv))
theorem wp_mv {E : EE} {d : Nat} {M : MD} {pc pc' : Nat} {lv : List (Option AV)} {st st' : List AV} {G G1 : AH} {Q : Option AV → AH → Prop} (hT : gT G ≤ gT G1) (hU : gU G ≤ gU G1) (h : Mv E M G G1 pc lv st pc' st') (k : wp E d M pc' lv st' G1 Q) : wp E d M pc lv st G Q := by
  obtain ⟨r, G', ⟨h1, h2, h3⟩, hq⟩ := k
  refine ⟨r, G', ⟨Nat.le_trans hT h1, Nat.le_trans hU h2, fun p e s m args below meth c n0 w0 H locs ls C hn hw hW hS hl => ?_⟩, hq⟩
  refine h p e _ s m args below meth c H locs ls _ _ _ C hW hS hl (by show _ ≤ gT G' - n0; omega) (by show _ ≤ gU G' - w0; omega) (fun H1 locs1 hW1 hS1 => ?_)
  have q := h3 p e s m args below meth c n0 w0 H1 locs1 ls C (by omega) (by omega) hW1 hS1 hl
  rw [show gT G - n0 + (gT G1 - gT G) = gT G1 - n0 by omega, show gU G - w0 + (gU G1 - gU G) = gU G1 - w0 by omega]
  exact q

