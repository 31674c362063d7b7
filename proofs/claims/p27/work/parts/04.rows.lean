def sO : Nat → String := fun i => match i with
  | 0 => "LearnedCount$LibraryReader"
  | 1 => "LearnedCount$Tokens"
  | 2 => "LearnedCount$RuleReader"
  | 3 => "LearnedCount$RuleReader"
  | 4 => "LearnedCount$RuleReader"
  | _ => "LearnedCount$RuleReader"
def sI : Nat → Nat := fun i => match i with
  | 0 => 38
  | 1 => 91
  | 2 => 35
  | 3 => 73
  | 4 => 87
  | _ => 92
def sX : Nat → String := fun i => match i with
  | 0 => "word cite against note like law in copies"
  | 1 => "no yes"
  | 2 => "main copies notes two head silent laws"
  | 3 => "none later special"
  | 4 => "no yes open"
  | _ => "none later first"
def slen : List Nat := [41, 6, 38, 18, 11, 16]
def sbyt : List (List Int32) := [[119, 111, 114, 100, 32, 99, 105, 116, 101, 32, 97, 103, 97, 105, 110, 115, 116, 32, 110, 111, 116, 101, 32, 108, 105, 107, 101, 32, 108, 97, 119, 32, 105, 110, 32, 99, 111, 112, 105, 101, 115], [110, 111, 32, 121, 101, 115], [109, 97, 105, 110, 32, 99, 111, 112, 105, 101, 115, 32, 110, 111, 116, 101, 115, 32, 116, 119, 111, 32, 104, 101, 97, 100, 32, 115, 105, 108, 101, 110, 116, 32, 108, 97, 119, 115], [110, 111, 110, 101, 32, 108, 97, 116, 101, 114, 32, 115, 112, 101, 99, 105, 97, 108], [110, 111, 32, 121, 101, 115, 32, 111, 112, 101, 110], [110, 111, 110, 101, 32, 108, 97, 116, 101, 114, 32, 102, 105, 114, 115, 116]]
def nestl : List (String × Nat × MethodName × String) := [("LearnedCount$Library", 101, ⟨"LearnedCount", "holds", "(II)Z"⟩, "LearnedCount"), ("LearnedCount$Library", 124, ⟨"LearnedCount", "agreed", "(II)I"⟩, "LearnedCount"), ("LearnedCount$Tokens", 70, ⟨"LearnedCount", "holds", "(II)Z"⟩, "LearnedCount"), ("LearnedCount$LibraryReader", 66, ⟨"LearnedCount", "holds", "(II)Z"⟩, "LearnedCount"), ("LearnedCount$RuleReader", 45, ⟨"LearnedCount", "holds", "(II)Z"⟩, "LearnedCount"), ("LearnedCount$Weighing", 103, ⟨"LearnedCount", "agreed", "(II)I"⟩, "LearnedCount"), ("LearnedCount$Finding", 68, ⟨"LearnedCount", "holds", "(II)Z"⟩, "LearnedCount")]
def tys (g : Ev) : List (ClassId × FieldType) := [(eA g 0, aT 0), (eA g 1, aT 1), (eA g 2, aT 2), (eA g 3, aT 3), (eA g 4, aT 4), (eA g 5, aT 5)]
/-- what the tables and the cells that were there say, at a state and a heap: n, xs is the script -/
def KU (g : Ev) (n : Nat) (xs : Nat → Int32) (U : State) (H : Heap) : Prop :=
  va_K (eD g) KC (tys g) U ∧ (∀ q ∈ nestl, va_Nw (.methodLinkNest q.1 q.2.1 q.2.2.1 q.2.2.2) U) ∧ (va_AO "LearnedCount$Word" U ∧ va_AO "LearnedCount$Sheet" U) ∧ eb g ≤ H.size ∧ (∀ i, i < 6 → vk_R (sO i) (sI i) (sX i) (eK g i) U) ∧ vk_S 6 slen sbyt (eK g) (eV g) (fA g) U H ∧ (va_Z "java/lang/String" "COMPACT_STRINGS" "Z" (.int 1) (fA g) U H ∧ va_Z "jdk/internal/util/Preconditions" "SIOOBE_FORMATTER" "Ljava/util/function/BiFunction;" (va_rf (ef g)) (fA g) U H) ∧ va_X (es g) n xs U H ∧ es g < eb g
theorem ku_mv {g : Ev} {n : Nat} {xs : Nat → Int32} {s U : State} {H0 H : Heap} (h : KU g n xs s H0) (hW : s.WarmedH U.vm) (hz : H0.size ≤ H.size) (hk : ∀ q : Nat, q < H0.size → ¬ fA g q → H[q]? = H0[q]?) : KU g n xs U H := by
  obtain ⟨h1, h2, ⟨h3, h3'⟩, h4, h5, h6, h7, h8, h9⟩ := h
  refine ⟨va_K.moved hW.alike h1, fun q hq => va_Nw.warmM hW (h2 q hq), ⟨va_AO.moved hW.alike h3, va_AO.moved hW.alike h3'⟩, Nat.le_trans h4 hz, fun i hi => vk_R.warm hW (h5 i hi), (vk_S.moved hW.alike h6).kept hk, ⟨(va_Z.moved hW.alike h7.1).kept hk, (va_Z.moved hW.alike h7.2).kept hk⟩, (va_X.moved hW.alike h8).kept (hk _ (Nat.lt_of_lt_of_le h9 h4) (Nat.not_le.mpr h9)), h9⟩
theorem ku_same {g : Ev} {n : Nat} {xs : Nat → Int32} {u U : State} {H : Heap} (h : KU g n xs u H) (hv : u.vm = U.vm) : KU g n xs U H := by
  obtain ⟨h1, h2, ⟨h3, h3'⟩, h4, h5, h6, h7, h8, h9⟩ := h
  have hW : u.vm.Alike U.vm := by rw [hv]; exact Vm.Alike.refl _
  exact ⟨va_K.moved hW h1, fun q hq => va_Nw.same rfl hv (h2 q hq), ⟨va_AO.moved hW h3, va_AO.moved hW h3'⟩, h4, fun i hi => vk_R.same hv.symm (h5 i hi), vk_S.moved hW h6, ⟨va_Z.moved hW h7.1, va_Z.moved hW h7.2⟩, va_X.moved hW h8, h9⟩
/-- what stands while a method runs -/
def Cx (m : MI) (g : Ev) (n : Nat) (xs : Nat → Int32) (p : Program) (R : Room) (s : State) (mid : MethodId) (args : Array Value) (meth : Method) (c : Code) : Prop :=
  p.tables.exec = Jvm.exec ∧ c.code = mB m ∧ c.maxLocals = mL m ∧ s.vm.findClass (mY m).cls = some mid.cls ∧ (∀ w ∈ TG, w.before args s = true) ∧ (mF m ≤ R.frames ∧ mO m ≤ R.locals ∧ mC m ≤ R.cells ∧ mS m ≤ R.slots) ∧ meth.name = (mY m).name ∧ KU g n xs s s.heap
def retD (m : MI) (pc : Nat) (r : Option Value) : Prop := match r with
  | none => decode (mB m) pc = .ok (.return_, 1) ∧ mT m = none
  | some (.int v) => decode (mB m) pc = .ok (.ireturn, 1) ∧ ∃ ty, mT m = some ty ∧ narrow ty (.int v) = .int v
  | some (.long _) => decode (mB m) pc = .ok (.lreturn, 1) ∧ mT m = some .long
  | _ => False
/-- what a method's end is worth -/
def Rt (m : MI) (g : Ev) (p : Program) (l : Launch) (e : Env) (R : Room) (s : State) (mid : MethodId) (args : Array Value) (below : List Frame) (meth : Method) (c : Code) (Z : State → Prop) (M : Mm) (Q : Option Value → Mm → Prop) : Prop :=
  ∀ (r : Option Value) (N : Mm) (H : Heap) (locs : List Loc) (cells slots pc : Nat) (ls : Array Slot), Q r N → retD m pc r → HR g N H → WF N → KM M N → va_S (fA g) s.heap H locs → cells ≤ mC m → slots ≤ mS m → W p l e R s mid args below meth c H locs cells slots Z (F0 mid pc ls r.toList)
def cq (g : Ev) (q : Nat × Value) : Nat × Value := (q.1, cz g q.2)
/-- from pc, with these locals, this stack, this memory, and room for b cells and slots, the method comes to an end with Q -/
def X (m : MI) (pc : Nat) (L : List (Nat × Value)) (S : List Value) (M : Mm) (b : Nat × Nat) (Q : Option Value → Mm → Prop) : Prop :=
  ∀ (g : Ev) (p : Program) (l : Launch) (e : Env) (R : Room) (s : State) (mid : MethodId) (args : Array Value) (below : List Frame) (meth : Method) (c : Code) (Z : State → Prop), Cx m g M.1.2 (gi M 62) p R s mid args meth c → Rt m g p l e R s mid args below meth c Z M Q →
  ∀ (H : Heap) (locs : List Loc) (cells slots : Nat) (ls : Array Slot), HR g M H → WF M → (∀ q ∈ L, okv M q.2) → (∀ v ∈ S, okv M v) → lv_has ls (mL m) (L.map (cq g)) → va_S (fA g) s.heap H locs → cells + b.1 ≤ mC m → slots + b.2 ≤ mS m →
  W p l e R s mid args below meth c H locs cells slots Z (F0 mid pc ls (S.map (cz g)))
def ushr (x y : Int32) : Int32 := (x.toUInt32 >>> (y.toUInt32 &&& Int32.toUInt32 31)).toInt32
def lushr (x : Int64) (y : Int32) : Int64 := (x.toUInt64 >>> (y.toInt64.toUInt64 &&& Int64.toUInt64 63)).toInt64
theorem cz_str (g : Ev) (j : Nat) : cz g (.ref (64 * j + 63)) = .ref (eK g j) := by
  show Value.ref (ca g (64 * j + 63)) = _
  unfold ca
  rw [if_pos (by omega), show (64 * j + 63) / 64 = j by omega]
theorem okv_str {M : Mm} {j : Nat} (h : j < 6) : okv M (.ref (64 * j + 63)) := by
  refine Or.inl ⟨Or.inl ?_, ?_⟩
  · show (64 * j + 63) % 64 = 63
    omega
  · show (64 * j + 63) / 64 < 6
    omega
section ROWS
variable {m : MI} {pc : Nat} {L : List (Nat × Value)} {S : List Value} {M : Mm} {b : Nat × Nat} {Q : Option Value → Mm → Prop}
theorem tl {v : Value} (h : ∀ w ∈ v :: S, okv M w) : ∀ w ∈ S, okv M w := fun w hw => h w (List.mem_cons_of_mem _ hw)
theorem ok1 {v : Value} (h : ∀ w ∈ S, okv M w) (hv : okv M v) : ∀ w ∈ v :: S, okv M w := fun w hw => (List.mem_cons.mp hw).elim (fun e => e ▸ hv) (h w)
theorem okL1 {v : Value} {i : Nat} {F : Nat × Value → Bool} (h : ∀ q ∈ L, okv M q.2) (hv : okv M v) : ∀ q ∈ (i, v) :: L.filter F, okv M q.2 := fun q hq => (List.mem_cons.mp hq).elim (fun e => e ▸ hv) (fun hq => h q (List.mem_filter.mp hq).1)
theorem lmap {g : Ev} {q i : Nat} {v : Value} (h : L[q]? = some (i, v)) : (L.map (cq g))[q]? = some (i, cz g v) := by
  rw [List.getElem?_map, h]
  rfl
theorem lfilm (g : Ev) (L : List (Nat × Value)) (F : Nat × Value → Bool) (h : ∀ q, F (cq g q) = F q) : (L.map (cq g)).filter F = (L.filter F).map (cq g) := by
  rw [List.filter_map]
  congr 1
  refine List.filter_congr (fun q _ => h q)
theorem lfil1 (g : Ev) (L : List (Nat × Value)) (i : Nat) (v : Value) : (i, cz g v) :: (L.map (cq g)).filter (fun q => !(q.1 == i) && !(q.1 + 1 == i && q.2.category == 2)) = ((i, v) :: L.filter (fun q => !(q.1 == i) && !(q.1 + 1 == i && q.2.category == 2))).map (cq g) := by
  rw [lfilm g L _ (fun q => by simp only [cq, cz_cat])]
  rfl
theorem lfil2 (g : Ev) (L : List (Nat × Value)) (i : Nat) (v : Value) : (i, cz g v) :: (L.map (cq g)).filter (fun q => !(q.1 == i) && (!(q.1 == i + 1) && !(q.1 + 1 == i && q.2.category == 2))) = ((i, v) :: L.filter (fun q => !(q.1 == i) && (!(q.1 == i + 1) && !(q.1 + 1 == i && q.2.category == 2)))).map (cq g) := by
  rw [lfilm g L _ (fun q => by simp only [cq, cz_cat])]
  rfl
/-- a step that leaves the memory -/
theorem X_pu {pc' : Nat} {L' : List (Nat × Value)} {S' : List Value} (h : X m pc' L' S' M b Q) (hk : (∀ q ∈ L, okv M q.2) → (∀ v ∈ S, okv M v) → (∀ q ∈ L', okv M q.2) ∧ (∀ v ∈ S', okv M v))
    (st : ∀ {g : Ev} {p : Program} {l : Launch} {e : Env} {R : Room} {s : State} {mid : MethodId} {args : Array Value} {below : List Frame} {meth : Method} {c : Code} {Z : State → Prop} {H : Heap} {locs : List Loc} {cells slots : Nat} {ls : Array Slot}, Cx m g M.1.2 (gi M 62) p R s mid args meth c → lv_has ls (mL m) (L.map (cq g)) → (∀ ls', lv_has ls' (mL m) (L'.map (cq g)) → W p l e R s mid args below meth c H locs cells slots Z (F0 mid pc' ls' (S'.map (cz g)))) → W p l e R s mid args below meth c H locs cells slots Z (F0 mid pc ls (S.map (cz g)))) : X m pc L S M b Q := by
  intro g p l e R s mid args below meth c Z C hR H locs cells slots ls hH hw hL hS hl hs hc hc2
  obtain ⟨k1, k2⟩ := hk hL hS
  exact st C hl (fun ls' hl' => h g p l e R s mid args below meth c Z C hR H locs cells slots ls' hH hw k1 k2 hl' hs hc hc2)
/-- fewer locals, in another order -/
theorem x_loc {L' : List (Nat × Value)} (ks : List Nat) (he : lv_pick L ks = L') (h : X m pc L' S M b Q) : X m pc L S M b Q := by
  have hsub : ∀ q ∈ L', q ∈ L := by
    intro q hq
    rw [← he] at hq
    obtain ⟨k, -, hk⟩ := List.mem_filterMap.mp hq
    exact List.mem_of_getElem? hk
  exact X_pu h (fun hL hS => ⟨fun q hq => hL q (hsub q hq), hS⟩) (fun C hl k => k _ (by
    refine ⟨hl.1, hl.2.1, fun q hq => ?_⟩
    obtain ⟨q0, h0, rfl⟩ := List.mem_map.mp hq
    exact hl.2.2 _ (List.mem_map.mpr ⟨q0, hsub q0 h0, rfl⟩)))
/-- the memory is well made: a fact to use -/
theorem x_wf (h : WF M → X m pc L S M b Q) : X m pc L S M b Q := fun g p l e R s mid args below meth c Z C hR H locs cells slots ls hH hw => h hw g p l e R s mid args below meth c Z C hR H locs cells slots ls hH hw

theorem x_iadd {x y : Int32} (hd : decode (mB m) pc = .ok (.iadd, 1)) (h : X m (pc + 1) L (.int (x + y) :: S) M b Q) : X m pc L (.int y :: .int x :: S) M b Q := X_pu h (fun hL hS => ⟨hL, ok1 (tl (tl hS)) trivial⟩) (fun C hl k => lv_iadd C.1 C.2.1 hd (k _ hl))
theorem x_isub {x y : Int32} (hd : decode (mB m) pc = .ok (.isub, 1)) (h : X m (pc + 1) L (.int (x - y) :: S) M b Q) : X m pc L (.int y :: .int x :: S) M b Q := X_pu h (fun hL hS => ⟨hL, ok1 (tl (tl hS)) trivial⟩) (fun C hl k => lv_isub C.1 C.2.1 hd (k _ hl))
theorem x_imul {x y : Int32} (hd : decode (mB m) pc = .ok (.imul, 1)) (h : X m (pc + 1) L (.int (x * y) :: S) M b Q) : X m pc L (.int y :: .int x :: S) M b Q := X_pu h (fun hL hS => ⟨hL, ok1 (tl (tl hS)) trivial⟩) (fun C hl k => lv_imul C.1 C.2.1 hd (k _ hl))
theorem x_iand {x y : Int32} (hd : decode (mB m) pc = .ok (.iand, 1)) (h : X m (pc + 1) L (.int (x &&& y) :: S) M b Q) : X m pc L (.int y :: .int x :: S) M b Q := X_pu h (fun hL hS => ⟨hL, ok1 (tl (tl hS)) trivial⟩) (fun C hl k => lv_iand C.1 C.2.1 hd (k _ hl))
theorem x_ior {x y : Int32} (hd : decode (mB m) pc = .ok (.ior, 1)) (h : X m (pc + 1) L (.int (x ||| y) :: S) M b Q) : X m pc L (.int y :: .int x :: S) M b Q := X_pu h (fun hL hS => ⟨hL, ok1 (tl (tl hS)) trivial⟩) (fun C hl k => lv_ior C.1 C.2.1 hd (k _ hl))
theorem x_ixor {x y : Int32} (hd : decode (mB m) pc = .ok (.ixor, 1)) (h : X m (pc + 1) L (.int (x ^^^ y) :: S) M b Q) : X m pc L (.int y :: .int x :: S) M b Q := X_pu h (fun hL hS => ⟨hL, ok1 (tl (tl hS)) trivial⟩) (fun C hl k => lv_ixor C.1 C.2.1 hd (k _ hl))
theorem x_ishl {x y : Int32} (hd : decode (mB m) pc = .ok (.ishl, 1)) (h : X m (pc + 1) L (.int (x <<< (y &&& 31)) :: S) M b Q) : X m pc L (.int y :: .int x :: S) M b Q := X_pu h (fun hL hS => ⟨hL, ok1 (tl (tl hS)) trivial⟩) (fun C hl k => lv_ishl C.1 C.2.1 hd (k _ hl))
theorem x_ishr {x y : Int32} (hd : decode (mB m) pc = .ok (.ishr, 1)) (h : X m (pc + 1) L (.int (x >>> (y &&& 31)) :: S) M b Q) : X m pc L (.int y :: .int x :: S) M b Q := X_pu h (fun hL hS => ⟨hL, ok1 (tl (tl hS)) trivial⟩) (fun C hl k => lv_ishr C.1 C.2.1 hd (k _ hl))
theorem x_idiv {x y : Int32} (hd : decode (mB m) pc = .ok (.idiv, 1)) (hz : ¬ y = 0) (h : X m (pc + 1) L (.int (x / y) :: S) M b Q) : X m pc L (.int y :: .int x :: S) M b Q := X_pu h (fun hL hS => ⟨hL, ok1 (tl (tl hS)) trivial⟩) (fun C hl k => lv_idiv C.1 C.2.1 hd hz (k _ hl))
theorem x_irem {x y : Int32} (hd : decode (mB m) pc = .ok (.irem, 1)) (hz : ¬ y = 0) (h : X m (pc + 1) L (.int (x - x / y * y) :: S) M b Q) : X m pc L (.int y :: .int x :: S) M b Q := X_pu h (fun hL hS => ⟨hL, ok1 (tl (tl hS)) trivial⟩) (fun C hl k => lv_irem C.1 C.2.1 hd hz (k _ hl))
theorem x_iushr {x y : Int32} (hd : decode (mB m) pc = .ok (.iushr, 1)) (h : X m (pc + 1) L (.int (ushr x y) :: S) M b Q) : X m pc L (.int y :: .int x :: S) M b Q := X_pu h (fun hL hS => ⟨hL, ok1 (tl (tl hS)) trivial⟩) (fun C hl k => lv_iushr C.1 C.2.1 hd rfl (k _ hl))
theorem x_ladd {x y : Int64} (hd : decode (mB m) pc = .ok (.ladd, 1)) (h : X m (pc + 1) L (.long (x + y) :: S) M b Q) : X m pc L (.long y :: .long x :: S) M b Q := X_pu h (fun hL hS => ⟨hL, ok1 (tl (tl hS)) trivial⟩) (fun C hl k => lv_ladd C.1 C.2.1 hd (k _ hl))
theorem x_lsub {x y : Int64} (hd : decode (mB m) pc = .ok (.lsub, 1)) (h : X m (pc + 1) L (.long (x - y) :: S) M b Q) : X m pc L (.long y :: .long x :: S) M b Q := X_pu h (fun hL hS => ⟨hL, ok1 (tl (tl hS)) trivial⟩) (fun C hl k => lv_lsub C.1 C.2.1 hd (k _ hl))
theorem x_land {x y : Int64} (hd : decode (mB m) pc = .ok (.land, 1)) (h : X m (pc + 1) L (.long (x &&& y) :: S) M b Q) : X m pc L (.long y :: .long x :: S) M b Q := X_pu h (fun hL hS => ⟨hL, ok1 (tl (tl hS)) trivial⟩) (fun C hl k => lv_land C.1 C.2.1 hd (k _ hl))
theorem x_lor {x y : Int64} (hd : decode (mB m) pc = .ok (.lor, 1)) (h : X m (pc + 1) L (.long (x ||| y) :: S) M b Q) : X m pc L (.long y :: .long x :: S) M b Q := X_pu h (fun hL hS => ⟨hL, ok1 (tl (tl hS)) trivial⟩) (fun C hl k => lv_lor C.1 C.2.1 hd (k _ hl))
theorem x_lxor {x y : Int64} (hd : decode (mB m) pc = .ok (.lxor, 1)) (h : X m (pc + 1) L (.long (x ^^^ y) :: S) M b Q) : X m pc L (.long y :: .long x :: S) M b Q := X_pu h (fun hL hS => ⟨hL, ok1 (tl (tl hS)) trivial⟩) (fun C hl k => lv_lxor C.1 C.2.1 hd (k _ hl))
theorem x_lcmp {x y : Int64} (hd : decode (mB m) pc = .ok (.lcmp, 1)) (h : X m (pc + 1) L (.int (lg_cmp x y) :: S) M b Q) : X m pc L (.long y :: .long x :: S) M b Q := X_pu h (fun hL hS => ⟨hL, ok1 (tl (tl hS)) trivial⟩) (fun C hl k => W.lcmp C.1 C.2.1 hd (k _ hl))
theorem x_lushr {x : Int64} {y : Int32} (hd : decode (mB m) pc = .ok (.lushr, 1)) (h : X m (pc + 1) L (.long (lushr x y) :: S) M b Q) : X m pc L (.int y :: .long x :: S) M b Q := X_pu h (fun hL hS => ⟨hL, ok1 (tl (tl hS)) trivial⟩) (fun C hl k => lv_lushr C.1 C.2.1 hd rfl (k _ hl))
theorem x_lshl {x : Int64} {y : Int32} (hd : decode (mB m) pc = .ok (.lshl, 1)) (h : X m (pc + 1) L (.long (x <<< (y.toInt64 &&& 63)) :: S) M b Q) : X m pc L (.int y :: .long x :: S) M b Q := X_pu h (fun hL hS => ⟨hL, ok1 (tl (tl hS)) trivial⟩) (fun C hl k => lv_lshl C.1 C.2.1 hd rfl (k _ hl))
theorem x_lshr {x : Int64} {y : Int32} (hd : decode (mB m) pc = .ok (.lshr, 1)) (h : X m (pc + 1) L (.long (x >>> (y.toInt64 &&& 63)) :: S) M b Q) : X m pc L (.int y :: .long x :: S) M b Q := X_pu h (fun hL hS => ⟨hL, ok1 (tl (tl hS)) trivial⟩) (fun C hl k => lv_lshr C.1 C.2.1 hd rfl (k _ hl))
theorem x_i2l {x : Int32} (hd : decode (mB m) pc = .ok (.i2l, 1)) (h : X m (pc + 1) L (.long (x.toInt64) :: S) M b Q) : X m pc L (.int x :: S) M b Q := X_pu h (fun hL hS => ⟨hL, ok1 (tl hS) trivial⟩) (fun C hl k => lv_i2l C.1 C.2.1 hd rfl (k _ hl))
theorem x_l2i {x : Int64} (hd : decode (mB m) pc = .ok (.l2i, 1)) (h : X m (pc + 1) L (.int (x.toInt32) :: S) M b Q) : X m pc L (.long x :: S) M b Q := X_pu h (fun hL hS => ⟨hL, ok1 (tl hS) trivial⟩) (fun C hl k => lv_l2i C.1 C.2.1 hd rfl (k _ hl))
theorem x_i2b {x : Int32} (hd : decode (mB m) pc = .ok (.i2b, 1)) (h : X m (pc + 1) L (.int (x.toInt8.toInt32) :: S) M b Q) : X m pc L (.int x :: S) M b Q := X_pu h (fun hL hS => ⟨hL, ok1 (tl hS) trivial⟩) (fun C hl k => lv_i2b C.1 C.2.1 hd rfl (k _ hl))
theorem x_i2s {x : Int32} (hd : decode (mB m) pc = .ok (.i2s, 1)) (h : X m (pc + 1) L (.int (x.toInt16.toInt32) :: S) M b Q) : X m pc L (.int x :: S) M b Q := X_pu h (fun hL hS => ⟨hL, ok1 (tl hS) trivial⟩) (fun C hl k => lv_i2s C.1 C.2.1 hd rfl (k _ hl))
theorem x_ineg {x : Int32} (hd : decode (mB m) pc = .ok (.ineg, 1)) (h : X m (pc + 1) L (.int (-x) :: S) M b Q) : X m pc L (.int x :: S) M b Q := X_pu h (fun hL hS => ⟨hL, ok1 (tl hS) trivial⟩) (fun C hl k => lv_ineg C.1 C.2.1 hd (k _ hl))
theorem x_iconst {n : Int} {v : Int32} (hd : decode (mB m) pc = .ok (.iconst n, 1)) (hv : Int32.ofInt n = v) (h : X m (pc + 1) L (.int v :: S) M b Q) : X m pc L S M b Q := X_pu h (fun hL hS => ⟨hL, ok1 hS trivial⟩) (fun C hl k => lv_iconst C.1 C.2.1 hd hv (k _ hl))
theorem x_bipush {n : Int} {v : Int32} (hd : decode (mB m) pc = .ok (.bipush n, 2)) (hv : (Int8.ofInt n).toInt32 = v) (h : X m (pc + 2) L (.int v :: S) M b Q) : X m pc L S M b Q := X_pu h (fun hL hS => ⟨hL, ok1 hS trivial⟩) (fun C hl k => lv_bipush C.1 C.2.1 hd hv (k _ hl))
theorem x_sipush {n : Int} {v : Int32} (hd : decode (mB m) pc = .ok (.sipush n, 3)) (hv : (Int16.ofInt n).toInt32 = v) (h : X m (pc + 3) L (.int v :: S) M b Q) : X m pc L S M b Q := X_pu h (fun hL hS => ⟨hL, ok1 hS trivial⟩) (fun C hl k => lv_sipush C.1 C.2.1 hd hv (k _ hl))
theorem x_lconst {n : Fin 2} {v : Int64} (hd : decode (mB m) pc = .ok (.lconst n, 1)) (hv : Int64.ofNat (n : Nat) = v) (h : X m (pc + 1) L (.long v :: S) M b Q) : X m pc L S M b Q := X_pu h (fun hL hS => ⟨hL, ok1 hS trivial⟩) (fun C hl k => lv_lconst C.1 C.2.1 hd hv (k _ hl))
theorem x_ldc {i : Nat} {v : Int32} (hd : decode (mB m) pc = .ok (.ldc i, 2)) (hc : Cond.constant (mY m).cls i v ∈ TG) (h : X m (pc + 2) L (.int v :: S) M b Q) : X m pc L S M b Q := X_pu h (fun hL hS => ⟨hL, ok1 hS trivial⟩) (fun C hl k => lv_ldc C.1 C.2.1 C.2.2.2.1 (C.2.2.2.2.1 _ hc) hd (k _ hl))
theorem x_ldcw {i : Nat} {v : Int32} (hd : decode (mB m) pc = .ok (.ldc_w i, 3)) (hc : Cond.constant (mY m).cls i v ∈ TG) (h : X m (pc + 3) L (.int v :: S) M b Q) : X m pc L S M b Q := X_pu h (fun hL hS => ⟨hL, ok1 hS trivial⟩) (fun C hl k => lv_ldcw C.1 C.2.1 C.2.2.2.1 (C.2.2.2.2.1 _ hc) hd (k _ hl))
theorem x_ldc2 {i : Nat} {v : Int64} (hd : decode (mB m) pc = .ok (.ldc2_w i, 3)) (hc : Cond.constantLong (mY m).cls i v ∈ TG) (h : X m (pc + 3) L (.long v :: S) M b Q) : X m pc L S M b Q := X_pu h (fun hL hS => ⟨hL, ok1 hS trivial⟩) (fun C hl k => lv_ldc2 C.1 C.2.1 C.2.2.2.1 (C.2.2.2.2.1 _ hc) hd (k _ hl))
theorem x_ldcS {i j : Nat} (hd : decode (mB m) pc = .ok (.ldc i, 2)) (hj : j < 6) (hs : sO j = (mY m).cls ∧ sI j = i) (h : X m (pc + 2) L (.ref (64 * j + 63) :: S) M b Q) : X m pc L S M b Q := X_pu h (fun hL hS => ⟨hL, ok1 hS (okv_str hj)⟩) (fun {g} {p} {l} {e} {R} {s} {mid} {args} {below} {meth} {c} {Z} {H} {locs} {cells} {slots} {ls} C hl k => va_ldcS C.1 C.2.1 C.2.2.2.1 (tx := sX j) (q := eK g j) (by have := C.2.2.2.2.2.2.2.2.2.2.2.1 j hj; rw [hs.1, hs.2] at this; exact this) hd (by have := k _ hl; rwa [List.map_cons, cz_str] at this))
theorem x_iload_n {k : Fin 4} {i q : Nat} {x : Int32} (hd : decode (mB m) pc = .ok (.iload_n k, 1)) (hi : (k : Nat) = i) (hk : L[q]? = some (i, .int x)) (h : X m (pc + 1) L (.int x :: S) M b Q) : X m pc L S M b Q := X_pu h (fun hL hS => ⟨hL, ok1 hS trivial⟩) (fun C hl k => lv_iload_n C.1 C.2.1 hd hi (lv_at hl q (lmap hk)) (k _ hl))
theorem x_iload {i q : Nat} {x : Int32} (hd : decode (mB m) pc = .ok (.iload i, 2)) (hk : L[q]? = some (i, .int x)) (h : X m (pc + 2) L (.int x :: S) M b Q) : X m pc L S M b Q := X_pu h (fun hL hS => ⟨hL, ok1 hS trivial⟩) (fun C hl k => lv_iload C.1 C.2.1 hd (lv_at hl q (lmap hk)) (k _ hl))
theorem x_lload_n {k : Fin 4} {i q : Nat} {x : Int64} (hd : decode (mB m) pc = .ok (.lload_n k, 1)) (hi : (k : Nat) = i) (hk : L[q]? = some (i, .long x)) (h : X m (pc + 1) L (.long x :: S) M b Q) : X m pc L S M b Q := X_pu h (fun hL hS => ⟨hL, ok1 hS trivial⟩) (fun C hl k => lv_lload_n C.1 C.2.1 hd hi (lv_at hl q (lmap hk)) (k _ hl))
theorem x_lload {i q : Nat} {x : Int64} (hd : decode (mB m) pc = .ok (.lload i, 2)) (hk : L[q]? = some (i, .long x)) (h : X m (pc + 2) L (.long x :: S) M b Q) : X m pc L S M b Q := X_pu h (fun hL hS => ⟨hL, ok1 hS trivial⟩) (fun C hl k => lv_lload C.1 C.2.1 hd (lv_at hl q (lmap hk)) (k _ hl))
theorem x_aload_n {k : Fin 4} {i q : Nat} {x : Nat} (hd : decode (mB m) pc = .ok (.aload_n k, 1)) (hi : (k : Nat) = i) (hk : L[q]? = some (i, .ref x)) (h : X m (pc + 1) L (.ref x :: S) M b Q) : X m pc L S M b Q := X_pu h (fun hL hS => ⟨hL, ok1 hS (hL _ (List.mem_of_getElem? hk))⟩) (fun C hl k => lv_aload_n C.1 C.2.1 hd hi (lv_at hl q (lmap hk)) (k _ hl))
theorem x_aload {i q : Nat} {x : Nat} (hd : decode (mB m) pc = .ok (.aload i, 2)) (hk : L[q]? = some (i, .ref x)) (h : X m (pc + 2) L (.ref x :: S) M b Q) : X m pc L S M b Q := X_pu h (fun hL hS => ⟨hL, ok1 hS (hL _ (List.mem_of_getElem? hk))⟩) (fun C hl k => lv_aload C.1 C.2.1 hd (lv_at hl q (lmap hk)) (k _ hl))
theorem x_istore_n {k : Fin 4} {i : Nat} {x : Int32} {L' : List (Nat × Value)} (hd : decode (mB m) pc = .ok (.istore_n k, 1)) (hi : (k : Nat) = i) (hn : i < mL m) (he : (i, Value.int x) :: L.filter (fun q => !(q.1 == i) && !(q.1 + 1 == i && q.2.category == 2)) = L') (h : X m (pc + 1) L' S M b Q) : X m pc L (.int x :: S) M b Q := by
  subst he
  exact X_pu h (fun hL hS => ⟨okL1 hL trivial, tl hS⟩) (fun C hl k => lv_istore_n C.1 C.2.1 hd hi hl hn (lfil1 _ _ _ (.int x)) (fun ls hl => k ls hl))
theorem x_istore {i : Nat} {x : Int32} {L' : List (Nat × Value)} (hd : decode (mB m) pc = .ok (.istore i, 2)) (hn : i < mL m) (he : (i, Value.int x) :: L.filter (fun q => !(q.1 == i) && !(q.1 + 1 == i && q.2.category == 2)) = L') (h : X m (pc + 2) L' S M b Q) : X m pc L (.int x :: S) M b Q := by
  subst he
  exact X_pu h (fun hL hS => ⟨okL1 hL trivial, tl hS⟩) (fun C hl k => lv_istore C.1 C.2.1 hd hl hn (lfil1 _ _ _ (.int x)) (fun ls hl => k ls hl))
theorem x_lstore_n {k : Fin 4} {i : Nat} {x : Int64} {L' : List (Nat × Value)} (hd : decode (mB m) pc = .ok (.lstore_n k, 1)) (hi : (k : Nat) = i) (hn : i + 1 < mL m) (he : (i, Value.long x) :: L.filter (fun q => !(q.1 == i) && (!(q.1 == i + 1) && !(q.1 + 1 == i && q.2.category == 2))) = L') (h : X m (pc + 1) L' S M b Q) : X m pc L (.long x :: S) M b Q := by
  subst he
  exact X_pu h (fun hL hS => ⟨okL1 hL trivial, tl hS⟩) (fun C hl k => lv_lstore_n C.1 C.2.1 hd hi hl hn (lfil2 _ _ _ (.long x)) (fun ls hl => k ls hl))
theorem x_lstore {i : Nat} {x : Int64} {L' : List (Nat × Value)} (hd : decode (mB m) pc = .ok (.lstore i, 2)) (hn : i + 1 < mL m) (he : (i, Value.long x) :: L.filter (fun q => !(q.1 == i) && (!(q.1 == i + 1) && !(q.1 + 1 == i && q.2.category == 2))) = L') (h : X m (pc + 2) L' S M b Q) : X m pc L (.long x :: S) M b Q := by
  subst he
  exact X_pu h (fun hL hS => ⟨okL1 hL trivial, tl hS⟩) (fun C hl k => lv_lstore C.1 C.2.1 hd hl hn (lfil2 _ _ _ (.long x)) (fun ls hl => k ls hl))
theorem x_astore_n {k : Fin 4} {i : Nat} {x : Nat} {L' : List (Nat × Value)} (hd : decode (mB m) pc = .ok (.astore_n k, 1)) (hi : (k : Nat) = i) (hn : i < mL m) (he : (i, Value.ref x) :: L.filter (fun q => !(q.1 == i) && !(q.1 + 1 == i && q.2.category == 2)) = L') (h : X m (pc + 1) L' S M b Q) : X m pc L (.ref x :: S) M b Q := by
  subst he
  exact X_pu h (fun hL hS => ⟨okL1 hL (hS _ List.mem_cons_self), tl hS⟩) (fun C hl k => lv_astore_n C.1 C.2.1 hd hi hl hn (lfil1 _ _ _ (.ref x)) (fun ls hl => k ls hl))
theorem x_astore {i : Nat} {x : Nat} {L' : List (Nat × Value)} (hd : decode (mB m) pc = .ok (.astore i, 2)) (hn : i < mL m) (he : (i, Value.ref x) :: L.filter (fun q => !(q.1 == i) && !(q.1 + 1 == i && q.2.category == 2)) = L') (h : X m (pc + 2) L' S M b Q) : X m pc L (.ref x :: S) M b Q := by
  subst he
  exact X_pu h (fun hL hS => ⟨okL1 hL (hS _ List.mem_cons_self), tl hS⟩) (fun C hl k => lv_astore C.1 C.2.1 hd hl hn (lfil1 _ _ _ (.ref x)) (fun ls hl => k ls hl))
theorem x_iinc {i q : Nat} {n : Int} {x v : Int32} {L' : List (Nat × Value)} (hd : decode (mB m) pc = .ok (.iinc i n, 3)) (hk : L[q]? = some (i, .int x)) (hv : x + Int32.ofInt n = v) (hn : i < mL m) (he : (i, Value.int v) :: L.filter (fun q => !(q.1 == i) && !(q.1 + 1 == i && q.2.category == 2)) = L') (h : X m (pc + 3) L' S M b Q) : X m pc L S M b Q := by
  subst he
  exact X_pu h (fun hL hS => ⟨okL1 hL trivial, hS⟩) (fun C hl k => lv_iinc C.1 C.2.1 hd hl (lmap hk) hv hn (lfil1 _ _ _ (.int v)) (fun ls hl => k ls hl))
theorem x_dup {v : Value} (hd : decode (mB m) pc = .ok (.dup, 1)) (hc : v.category = 1) (h : X m (pc + 1) L (v :: v :: S) M b Q) : X m pc L (v :: S) M b Q := X_pu h (fun hL hS => ⟨hL, ok1 hS (hS _ List.mem_cons_self)⟩) (fun C hl k => lv_dup C.1 C.2.1 hd ((cz_cat _ v).trans hc) (k _ hl))
theorem x_pop {v : Value} (hd : decode (mB m) pc = .ok (.pop, 1)) (hc : v.category = 1) (h : X m (pc + 1) L S M b Q) : X m pc L (v :: S) M b Q := X_pu h (fun hL hS => ⟨hL, tl hS⟩) (fun C hl k => lv_pop C.1 C.2.1 hd ((cz_cat _ v).trans hc) (k _ hl))
theorem x_dup2 {v w : Value} (hd : decode (mB m) pc = .ok (.dup2, 1)) (hc : v.category = 1) (hw : w.category = 1) (h : X m (pc + 1) L (v :: w :: v :: w :: S) M b Q) : X m pc L (v :: w :: S) M b Q := X_pu h (fun hL hS => ⟨hL, ok1 (ok1 hS ((tl hS) _ List.mem_cons_self)) (hS _ List.mem_cons_self)⟩) (fun C hl k => lv_dup2_11 C.1 C.2.1 hd ((cz_cat _ v).trans hc) ((cz_cat _ w).trans hw) (k _ hl))
theorem x_dup2L {x : Int64} (hd : decode (mB m) pc = .ok (.dup2, 1)) (h : X m (pc + 1) L (.long x :: .long x :: S) M b Q) : X m pc L (.long x :: S) M b Q := X_pu h (fun hL hS => ⟨hL, ok1 hS trivial⟩) (fun C hl k => lv_dup2_2 C.1 C.2.1 hd rfl (k _ hl))
theorem x_goto {off : Int} {t : Nat} (hd : decode (mB m) pc = .ok (.goto off, 3)) (ht : (pc : Int) + off = (t : Int)) (h : X m t L S M b Q) : X m pc L S M b Q := X_pu h (fun hL hS => ⟨hL, hS⟩) (fun C hl k => lv_goto C.1 C.2.1 hd ht (k _ hl))
theorem x_if_eq {x : Int32} {off : Int} {t : Nat} (hd : decode (mB m) pc = .ok (.ifCond .eq off, 3)) (ht : (pc : Int) + off = (t : Int)) (h1 : x = 0 → X m t L S M b Q) (h2 : ¬ x = 0 → X m (pc + 3) L S M b Q) : X m pc L (.int x :: S) M b Q := by
  intro g p l e R s mid args below meth c Z C hR H locs cells slots ls hH hw hL hS hl hs hc hc2
  exact lv_if_eq C.1 C.2.1 hd ht (fun q => h1 q g p l e R s mid args below meth c Z C hR H locs cells slots ls hH hw hL (tl hS) hl hs hc hc2) (fun q => h2 q g p l e R s mid args below meth c Z C hR H locs cells slots ls hH hw hL (tl hS) hl hs hc hc2)
theorem x_icmp_eq {x y : Int32} {off : Int} {t : Nat} (hd : decode (mB m) pc = .ok (.if_icmp .eq off, 3)) (ht : (pc : Int) + off = (t : Int)) (h1 : x = y → X m t L S M b Q) (h2 : ¬ x = y → X m (pc + 3) L S M b Q) : X m pc L (.int y :: .int x :: S) M b Q := by
  intro g p l e R s mid args below meth c Z C hR H locs cells slots ls hH hw hL hS hl hs hc hc2
  exact lv_icmp_eq C.1 C.2.1 hd ht (fun q => h1 q g p l e R s mid args below meth c Z C hR H locs cells slots ls hH hw hL (tl (tl hS)) hl hs hc hc2) (fun q => h2 q g p l e R s mid args below meth c Z C hR H locs cells slots ls hH hw hL (tl (tl hS)) hl hs hc hc2)
theorem x_if_ne {x : Int32} {off : Int} {t : Nat} (hd : decode (mB m) pc = .ok (.ifCond .ne off, 3)) (ht : (pc : Int) + off = (t : Int)) (h1 : ¬ x = 0 → X m t L S M b Q) (h2 : x = 0 → X m (pc + 3) L S M b Q) : X m pc L (.int x :: S) M b Q := by
  intro g p l e R s mid args below meth c Z C hR H locs cells slots ls hH hw hL hS hl hs hc hc2
  exact lv_if_ne C.1 C.2.1 hd ht (fun q => h1 q g p l e R s mid args below meth c Z C hR H locs cells slots ls hH hw hL (tl hS) hl hs hc hc2) (fun q => h2 q g p l e R s mid args below meth c Z C hR H locs cells slots ls hH hw hL (tl hS) hl hs hc hc2)
theorem x_icmp_ne {x y : Int32} {off : Int} {t : Nat} (hd : decode (mB m) pc = .ok (.if_icmp .ne off, 3)) (ht : (pc : Int) + off = (t : Int)) (h1 : ¬ x = y → X m t L S M b Q) (h2 : x = y → X m (pc + 3) L S M b Q) : X m pc L (.int y :: .int x :: S) M b Q := by
  intro g p l e R s mid args below meth c Z C hR H locs cells slots ls hH hw hL hS hl hs hc hc2
  exact lv_icmp_ne C.1 C.2.1 hd ht (fun q => h1 q g p l e R s mid args below meth c Z C hR H locs cells slots ls hH hw hL (tl (tl hS)) hl hs hc hc2) (fun q => h2 q g p l e R s mid args below meth c Z C hR H locs cells slots ls hH hw hL (tl (tl hS)) hl hs hc hc2)
theorem x_if_lt {x : Int32} {off : Int} {t : Nat} (hd : decode (mB m) pc = .ok (.ifCond .lt off, 3)) (ht : (pc : Int) + off = (t : Int)) (h1 : x < 0 → X m t L S M b Q) (h2 : ¬ x < 0 → X m (pc + 3) L S M b Q) : X m pc L (.int x :: S) M b Q := by
  intro g p l e R s mid args below meth c Z C hR H locs cells slots ls hH hw hL hS hl hs hc hc2
  exact lv_if_lt C.1 C.2.1 hd ht (fun q => h1 q g p l e R s mid args below meth c Z C hR H locs cells slots ls hH hw hL (tl hS) hl hs hc hc2) (fun q => h2 q g p l e R s mid args below meth c Z C hR H locs cells slots ls hH hw hL (tl hS) hl hs hc hc2)
theorem x_icmp_lt {x y : Int32} {off : Int} {t : Nat} (hd : decode (mB m) pc = .ok (.if_icmp .lt off, 3)) (ht : (pc : Int) + off = (t : Int)) (h1 : x < y → X m t L S M b Q) (h2 : ¬ x < y → X m (pc + 3) L S M b Q) : X m pc L (.int y :: .int x :: S) M b Q := by
  intro g p l e R s mid args below meth c Z C hR H locs cells slots ls hH hw hL hS hl hs hc hc2
  exact lv_icmp_lt C.1 C.2.1 hd ht (fun q => h1 q g p l e R s mid args below meth c Z C hR H locs cells slots ls hH hw hL (tl (tl hS)) hl hs hc hc2) (fun q => h2 q g p l e R s mid args below meth c Z C hR H locs cells slots ls hH hw hL (tl (tl hS)) hl hs hc hc2)
theorem x_if_ge {x : Int32} {off : Int} {t : Nat} (hd : decode (mB m) pc = .ok (.ifCond .ge off, 3)) (ht : (pc : Int) + off = (t : Int)) (h1 : 0 ≤ x → X m t L S M b Q) (h2 : ¬ 0 ≤ x → X m (pc + 3) L S M b Q) : X m pc L (.int x :: S) M b Q := by
  intro g p l e R s mid args below meth c Z C hR H locs cells slots ls hH hw hL hS hl hs hc hc2
  exact lv_if_ge C.1 C.2.1 hd ht (fun q => h1 q g p l e R s mid args below meth c Z C hR H locs cells slots ls hH hw hL (tl hS) hl hs hc hc2) (fun q => h2 q g p l e R s mid args below meth c Z C hR H locs cells slots ls hH hw hL (tl hS) hl hs hc hc2)
theorem x_icmp_ge {x y : Int32} {off : Int} {t : Nat} (hd : decode (mB m) pc = .ok (.if_icmp .ge off, 3)) (ht : (pc : Int) + off = (t : Int)) (h1 : y ≤ x → X m t L S M b Q) (h2 : ¬ y ≤ x → X m (pc + 3) L S M b Q) : X m pc L (.int y :: .int x :: S) M b Q := by
  intro g p l e R s mid args below meth c Z C hR H locs cells slots ls hH hw hL hS hl hs hc hc2
  exact lv_icmp_ge C.1 C.2.1 hd ht (fun q => h1 q g p l e R s mid args below meth c Z C hR H locs cells slots ls hH hw hL (tl (tl hS)) hl hs hc hc2) (fun q => h2 q g p l e R s mid args below meth c Z C hR H locs cells slots ls hH hw hL (tl (tl hS)) hl hs hc hc2)
theorem x_if_gt {x : Int32} {off : Int} {t : Nat} (hd : decode (mB m) pc = .ok (.ifCond .gt off, 3)) (ht : (pc : Int) + off = (t : Int)) (h1 : 0 < x → X m t L S M b Q) (h2 : ¬ 0 < x → X m (pc + 3) L S M b Q) : X m pc L (.int x :: S) M b Q := by
  intro g p l e R s mid args below meth c Z C hR H locs cells slots ls hH hw hL hS hl hs hc hc2
  exact lv_if_gt C.1 C.2.1 hd ht (fun q => h1 q g p l e R s mid args below meth c Z C hR H locs cells slots ls hH hw hL (tl hS) hl hs hc hc2) (fun q => h2 q g p l e R s mid args below meth c Z C hR H locs cells slots ls hH hw hL (tl hS) hl hs hc hc2)
theorem x_icmp_gt {x y : Int32} {off : Int} {t : Nat} (hd : decode (mB m) pc = .ok (.if_icmp .gt off, 3)) (ht : (pc : Int) + off = (t : Int)) (h1 : y < x → X m t L S M b Q) (h2 : ¬ y < x → X m (pc + 3) L S M b Q) : X m pc L (.int y :: .int x :: S) M b Q := by
  intro g p l e R s mid args below meth c Z C hR H locs cells slots ls hH hw hL hS hl hs hc hc2
  exact lv_icmp_gt C.1 C.2.1 hd ht (fun q => h1 q g p l e R s mid args below meth c Z C hR H locs cells slots ls hH hw hL (tl (tl hS)) hl hs hc hc2) (fun q => h2 q g p l e R s mid args below meth c Z C hR H locs cells slots ls hH hw hL (tl (tl hS)) hl hs hc hc2)
theorem x_if_le {x : Int32} {off : Int} {t : Nat} (hd : decode (mB m) pc = .ok (.ifCond .le off, 3)) (ht : (pc : Int) + off = (t : Int)) (h1 : x ≤ 0 → X m t L S M b Q) (h2 : ¬ x ≤ 0 → X m (pc + 3) L S M b Q) : X m pc L (.int x :: S) M b Q := by
  intro g p l e R s mid args below meth c Z C hR H locs cells slots ls hH hw hL hS hl hs hc hc2
  exact lv_if_le C.1 C.2.1 hd ht (fun q => h1 q g p l e R s mid args below meth c Z C hR H locs cells slots ls hH hw hL (tl hS) hl hs hc hc2) (fun q => h2 q g p l e R s mid args below meth c Z C hR H locs cells slots ls hH hw hL (tl hS) hl hs hc hc2)
theorem x_icmp_le {x y : Int32} {off : Int} {t : Nat} (hd : decode (mB m) pc = .ok (.if_icmp .le off, 3)) (ht : (pc : Int) + off = (t : Int)) (h1 : x ≤ y → X m t L S M b Q) (h2 : ¬ x ≤ y → X m (pc + 3) L S M b Q) : X m pc L (.int y :: .int x :: S) M b Q := by
  intro g p l e R s mid args below meth c Z C hR H locs cells slots ls hH hw hL hS hl hs hc hc2
  exact lv_icmp_le C.1 C.2.1 hd ht (fun q => h1 q g p l e R s mid args below meth c Z C hR H locs cells slots ls hH hw hL (tl (tl hS)) hl hs hc hc2) (fun q => h2 q g p l e R s mid args below meth c Z C hR H locs cells slots ls hH hw hL (tl (tl hS)) hl hs hc hc2)
/-! fields -/
def FL (own : String) (i c k : Nat) : Prop := c < 12 ∧ k < kN c ∧ Cond.fieldLink own i (kT c k).1 (kT c k).2.1 (kT c k).2.2.1 ∈ TG
theorem okA_of {a : Nat} (h : okv M (.ref a)) (hk : a % 64 < 61) : okA M a := by
  have h' : ((a % 64 = 63 ∨ a % 64 = 61) ∧ a / 64 < 6) ∨ a = 62 ∨ okA M a := h
  rcases h' with h | h | h
  · omega
  · omega
  · exact h
theorem kd62 {a k : Nat} (h : a % 64 = k) (hk : k < 61) : a % 64 < 61 := by omega
theorem x_getV {a i c k : Nat} {v : Value} (hd : decode (mB m) pc = .ok (.getfield i, 3)) (ha : a % 64 = c) (hl : FL (mY m).cls i c k) (hv : ∀ g : Ev, WF M → fv g M c a k = cz g v) (hok : WF M → okv M v) (h : X m (pc + 3) L (v :: S) M b Q) : X m pc L (.ref a :: S) M b Q := by
  intro g p l e R s mid args below meth cc Z C hR H locs cells slots ls hH hw hL hS hl2 hs hc hc2
  obtain ⟨h12, hk, hlk⟩ := hl
  have hA : okA M a := okA_of (hS _ List.mem_cons_self) (by omega)
  have K := h g p l e R s mid args below meth cc Z C hR H locs cells slots ls hH hw hL (ok1 (tl hS) (hok hw)) hl2 hs hc hc2
  show W p l e R s mid args below meth cc H locs cells slots Z (F0 mid pc ls (.ref (ca g a) :: S.map (cz g)))
  rw [ca_ok hw hA]
  refine va_get C.1 C.2.1 (Ts := TG) C.2.2.2.2.1 (k_i h12) C.2.2.2.1 C.2.2.2.2.2.2.2.1 hH.2 (a / 64) (fs := (List.range (kN c)).map (fv g M c a)) (by rw [wl_at hA, ha, ce_O h12]) (k_c h12) k hk (C.2.2.2.2.1 _ hlk) (fun x h => h) (v := cz g v) (by rw [List.getElem?_map, List.getElem?_range hk, ← hv g hw]; rfl) hd K
theorem x_getI {a i c k : Nat} (hd : decode (mB m) pc = .ok (.getfield i, 3)) (ha : a % 64 = c) (hl : FL (mY m).cls i c k) (ht : isI (kY c k) = true) (h : X m (pc + 3) L (.int (gi M a k) :: S) M b Q) : X m pc L (.ref a :: S) M b Q :=
  x_getV (v := .int (gi M a k)) hd ha hl (fun g _ => by unfold fv; rw [if_pos ht]; rfl) (fun _ => trivial) h
theorem x_getR {a i c k r : Nat} (hd : decode (mB m) pc = .ok (.getfield i, 3)) (ha : a % 64 = c) (hl : FL (mY m).cls i c k) (ht : isI (kY c k) = false) (hr : gr M a k = some r) (h : X m (pc + 3) L (.ref r :: S) M b Q) : X m pc L (.ref a :: S) M b Q :=
  x_getV (v := .ref r) hd ha hl (fun g _ => by unfold fv; rw [if_neg (by rw [ht]; decide), hr]; rfl) (fun hw => Or.inr (Or.inr (hw.2 _ _ _ hr).1)) h
theorem ls_ok {N : Mm} (h : KM M N) (k : ∀ q ∈ L, okv M q.2) : ∀ q ∈ L, okv N q.2 := fun q hq => km_okv h (k q hq)
theorem st_ok {N : Mm} (h : KM M N) (k : ∀ q ∈ S, okv M q) : ∀ q ∈ S, okv N q := fun q hq => km_okv h (k q hq)
theorem cx_km {g : Ev} {p : Program} {R : Room} {s : State} {mid : MethodId} {args : Array Value} {meth : Method} {c : Code} {N : Mm} (h : KM M N) (C : Cx m g M.1.2 (gi M 62) p R s mid args meth c) : Cx m g N.1.2 (gi N 62) p R s mid args meth c := by
  have e : gi N 62 = gi M 62 := funext h.2.2
  rw [h.2.1, e]
  exact C
theorem rt_km {g : Ev} {p : Program} {l : Launch} {e : Env} {R : Room} {s : State} {mid : MethodId} {args : Array Value} {below : List Frame} {meth : Method} {c : Code} {Z : State → Prop} {N : Mm} (h : KM M N) (C : Rt m g p l e R s mid args below meth c Z M Q) : Rt m g p l e R s mid args below meth c Z N Q :=
  fun r O H locs cells slots pc ls h1 h2 h3 h4 h5 => C r O H locs cells slots pc ls h1 h2 h3 h4 (km_tr h h5)
/-- one cell is written: the world behind it -/
theorem hr_set {g : Ev} {H H1 : Heap} {N : Mm} {a : Nat} (hH : HR g M H) (hw : WF M) (hA : okA M a) (hs : N.1.1 = M.1.1) (hI : ∀ b, b ≠ a → gi N b = gi M b ∧ gl N b = gl M b ∧ gr N b = gr M b) (hz : H1.size = H.size) (oq : ∀ q : Nat, q ≠ eb g + a / 64 → H1[q]? = H[q]?) (hat : va_at (eD g) KC (eb g + a / 64, ce g N (a % 64) a) H1) : HR g N H1 :=
  ⟨by rw [hz, hs]; exact hH.1, wl_set (g := g) hw hA hs hI rfl ▸ va_P.set hH.2 (wl_D g M) (wl_at hA) hat oq⟩
theorem fA_a {g : Ev} {a : Nat} : fA g (eb g + a / 64) := Nat.le_add_right _ _
theorem x_putV {a i c k : Nat} {v : Value} {N : Mm} (hd : decode (mB m) pc = .ok (.putfield i, 3)) (ha : a % 64 = c) (hl : FL (mY m).cls i c k) (hf : (kT c k).2.2.2 = false ∨ ((kT c k).2.2.2 = true ∧ (mY m).name = "<init>" ∧ (kT c k).1 = (mY m).cls))
    (hn : ∀ g, narrow (kY c k) (cz g v) = cz g v) (hfit : ∀ g, fits (kY c k) (cz g v) = true) (hs : N.1.1 = M.1.1) (hkm : KM M N) (hwf : WF M → okA M a → okv M v → WF N) (hI : ∀ b, b ≠ a → gi N b = gi M b ∧ gl N b = gl M b ∧ gr N b = gr M b) (he : ∀ g : Ev, ((List.range (kN c)).map (fv g M c a)).set k (cz g v) = (List.range (kN c)).map (fv g N c a)) (h : X m (pc + 3) L S N b Q) : X m pc L (v :: .ref a :: S) M b Q := by
  intro g p l e R s mid args below meth cc Z C hR H locs cells slots ls hH hw hL hS hl2 hss hc hc2
  obtain ⟨h12, hk, hlk⟩ := hl
  have hA : okA M a := okA_of (hS _ (List.mem_cons_of_mem _ List.mem_cons_self)) (by omega)
  have hlen : k < ((List.range (kN c)).map (fv g M c a)).length := by simpa using hk
  show W p l e R s mid args below meth cc H locs cells slots Z (F0 mid pc ls (cz g v :: .ref (ca g a) :: S.map (cz g)))
  rw [ca_ok hw hA]
  have hat : (wl g M)[a / 64]? = some (eb g + a / 64, .inr (c, (List.range (kN c)).map (fv g M c a))) := by rw [wl_at hA, ha, ce_O h12]
  have hts := C.2.2.2.2.1
  have hK := C.2.2.2.2.2.2.2.1
  have hap := va_apart (own := (mY m).cls) hts (k_i h12) (kY c) (k_p h12) (k_n h12) hK (k_c h12)
  obtain ⟨r, h1, cell, q1, q2, q3, q4⟩ := hH.2 _ _ hat
  have hr : r = (kC c, kT c, kN c) := Option.some.inj (h1.symm.trans (k_c h12))
  subst hr
  obtain ⟨hSl, hfc, kC', hkC, hkind⟩ := hK.1 c _ (k_c h12)
  obtain ⟨cf, kf, fi, f, hi, hsl⟩ := hSl k hk
  have hlay := u_lays hts (k_i h12) hk
  have hst := (u_facts hfc hkC hlay hi).1
  have h6 := u_fits hfc hkC hkind hlay hi (k_p h12 k hk) (hn g) (hfit g)
  have hfin : hasFlag f.accessFlags Acc.final = false ∨ (mid.cls = cf ∧ meth.name = "<init>") := by
    have hl0 := hts _ (k_i h12 _ (u_in_lay hk))
    unfold u_lay at hl0
    rcases hf with hf | ⟨hf, hi2, hdc⟩
    · rw [if_neg (by rw [hf]; decide)] at hl0
      obtain ⟨c0, k0, cf', kf', fi', fd', -, -, hi', -, hfi, -⟩ := Cond.lays_spec hl0
      cases hi.symm.trans hi'
      exact Or.inl hfi
    · rw [if_pos hf] at hl0
      obtain ⟨_, _, c', _, _, _, -, -, hf', -, -, -, hown2, -⟩ := Cond.laysFinal_spec hl0
      have e1 : c' = cf := by have := hi.symm.trans hf'; simp at this; exact this.1.symm
      rw [hdc] at hown2
      exact Or.inr ⟨by rw [← e1]; exact Option.some.inj (C.2.2.2.1.symm.trans hown2), C.2.2.2.2.2.2.1.trans hi2⟩
  refine W.putf C.1 C.2.1 C.2.2.2.1 (hts _ hlk) hi hst hfin q1 (by rw [q3]; exact fun h => by cases h) (by rw [hsl]; exact k2_hasslot (q4 k hk)) h6.1 (by rw [q2, q3]; exact h6.2) rfl rfl hd ?_
  have hlt : eb g + a / 64 < H.size := (Array.getElem?_eq_some_iff.mp q1).1
  generalize hH1 : H.setIfInBounds (eb g + a / 64) (cell.setSlot f.slot (cz g v)) = H1
  have z : H1.size = H.size := by rw [← hH1]; simp
  have oq : ∀ q : Nat, q ≠ eb g + a / 64 → H1[q]? = H[q]? := fun q hq => by rw [← hH1]; simp [Array.getElem?_setIfInBounds, Ne.symm hq]
  have e1 : H1[eb g + a / 64]? = some (cell.setSlot f.slot (cz g v)) := by rw [← hH1]; simp [Array.getElem?_setIfInBounds, hlt]
  rw [hsl] at e1
  have hat1 : va_at (eD g) KC (eb g + a / 64, ce g N (a % 64) a) H1 := by
    rw [ha, ce_O h12, ← he g]
    exact ⟨_, k_c h12, t_OB.to (V := updV (vp_V ((List.range (kN c)).map (fv g M c a))) k (cz g v)) ⟨_, e1, q2, q3, t_set q4 hap hk (cz g v)⟩ (fun j _ => vp_updV_set hlen (cz g v) j)⟩
  exact h g p l e R s mid args below meth cc Z (cx_km hkm C) (rt_km hkm hR) H1 _ cells slots ls (hr_set hH hw hA hs hI z oq hat1) (hwf hw hA (hS _ List.mem_cons_self)) (ls_ok hkm hL) (st_ok hkm (tl (tl hS))) hl2 (hss.put z oq fA_a) hc hc2
theorem fv_si (g : Ev) {c a k : Nat} {x : Int32} (ht : isI (kY c k) = true) : ((List.range (kN c)).map (fv g M c a)).set k (cz g (.int x)) = (List.range (kN c)).map (fv g (si M a k x) c a) := by
  refine range_set _ _ _ _ _ ?_
  funext j
  unfold fv
  by_cases hk : j = k
  · subst hk
    rw [if_pos ht, if_pos rfl, gi_at]
    simp [cz]
  · rw [if_neg hk, gi_at]
    simp only [if_neg hk]
    rfl
theorem fv_sr (g : Ev) {c a k r : Nat} (ht : isI (kY c k) = false) : ((List.range (kN c)).map (fv g M c a)).set k (cz g (.ref r)) = (List.range (kN c)).map (fv g (sr M a k (some r)) c a) := by
  refine range_set _ _ _ _ _ ?_
  funext j
  unfold fv
  by_cases hk : j = k
  · subst hk
    rw [if_neg (by rw [ht]; decide), if_pos rfl, gr_at]
    simp [va_rf, cz]
  · rw [if_neg hk, gr_at]
    simp only [if_neg hk]
    rfl
theorem x_putI {a i c k : Nat} {x : Int32} (hd : decode (mB m) pc = .ok (.putfield i, 3)) (ha : a % 64 = c) (hl : FL (mY m).cls i c k) (hf : (kT c k).2.2.2 = false) (ht : kY c k = .int) (h : X m (pc + 3) L S (si M a k x) b Q) : X m pc L (.int x :: .ref a :: S) M b Q :=
  x_putV (v := .int x) (N := si M a k x) hd ha hl (Or.inl hf) (fun g => by rw [ht]; rfl) (fun g => by rw [ht]; rfl) rfl (km_si (fun e => by subst e; have := hl.1; omega)) (fun hw _ _ => wf_si hw) (fun b hb => ⟨gi_ne hb, rfl, rfl⟩) (fun g => fv_si g (by rw [ht]; rfl)) h
theorem x_putZ {a i c k : Nat} {x : Int32} (hd : decode (mB m) pc = .ok (.putfield i, 3)) (ha : a % 64 = c) (hl : FL (mY m).cls i c k) (hf : (kT c k).2.2.2 = false) (ht : kY c k = .boolean) (hx : x = 0 ∨ x = 1) (h : X m (pc + 3) L S (si M a k x) b Q) : X m pc L (.int x :: .ref a :: S) M b Q :=
  x_putV (v := .int x) (N := si M a k x) hd ha hl (Or.inl hf) (fun g => by rw [ht]; rcases hx with rfl | rfl <;> rfl) (fun g => by rw [ht]; rcases hx with rfl | rfl <;> rfl) rfl (km_si (fun e => by subst e; have := hl.1; omega)) (fun hw _ _ => wf_si hw) (fun b hb => ⟨gi_ne hb, rfl, rfl⟩) (fun g => fv_si g (by rw [ht]; rfl)) h
theorem x_putR {a i c k r : Nat} (hd : decode (mB m) pc = .ok (.putfield i, 3)) (ha : a % 64 = c) (hl : FL (mY m).cls i c k) (hf : (kT c k).2.2.2 = false ∨ ((kT c k).2.2.2 = true ∧ (mY m).name = "<init>" ∧ (kT c k).1 = (mY m).cls)) (ht : (∃ n, kY c k = .object n) ∨ ∃ t, kY c k = .array t) (hr : r % 64 = rK c k) (hr2 : rK c k < 61) (h : X m (pc + 3) L S (sr M a k (some r)) b Q) : X m pc L (.ref r :: .ref a :: S) M b Q := by
  refine x_putV (v := .ref r) (N := sr M a k (some r)) hd ha hl hf (fun g => ?_) (fun g => ?_) rfl km_sr (fun hw _ hv => wf_sr hw (okA_of hv (by omega)) (by rw [ha]; exact hr)) (fun b hb => ⟨rfl, rfl, gr_ne hb⟩) (fun g => fv_sr g (by rcases ht with ⟨n, e⟩ | ⟨n, e⟩ <;> rw [e] <;> rfl)) h
  · rcases ht with ⟨n, e⟩ | ⟨n, e⟩ <;> rw [e] <;> rfl
  · rcases ht with ⟨n, e⟩ | ⟨n, e⟩ <;> rw [e] <;> rfl
/-! arrays -/
/-- an array of this kind: not an object; its type t, its length n -/
def AK (k t n : Nat) : Prop := ¬ k < 12 ∧ k < 61 ∧ aK k = (t, n) ∧ t < 6
theorem ty_at (g : Ev) {t : Nat} (h : t < 6) : (tys g)[t]? = some (eA g t, aT t) := by
  match t, h with
  | 0, _ => rfl
  | 1, _ => rfl
  | 2, _ => rfl
  | 3, _ => rfl
  | 4, _ => rfl
  | 5, _ => rfl
theorem x_aldI {a k t n : Nat} {ins : Instr} {i : Int32} (ht : (t = 0 ∧ ins = .iaload) ∨ (t = 2 ∧ ins = .baload) ∨ (t = 3 ∧ ins = .baload)) (hd : decode (mB m) pc = .ok (ins, 1)) (ha : a % 64 = k) (hk : AK k t n) (hi : vp_in i n) (h : X m (pc + 1) L (.int (gi M a i.toNatClampNeg) :: S) M b Q) : X m pc L (.int i :: .ref a :: S) M b Q := by
  intro g p l e R s mid args below meth cc Z C hR H locs cells slots ls hH hw hL hS hl2 hss hc hc2
  obtain ⟨k1, k2, k3, k4⟩ := hk
  have hA : okA M a := okA_of ((tl hS) _ List.mem_cons_self) (by omega)
  have K := h g p l e R s mid args below meth cc Z C hR H locs cells slots ls hH hw hL (ok1 (tl (tl hS)) trivial) hl2 hss hc hc2
  show W p l e R s mid args below meth cc H locs cells slots Z (F0 mid pc ls (.int i :: .ref (ca g a) :: S.map (cz g)))
  rw [ca_ok hw hA]
  have hat : (wl g M)[a / 64]? = some (eb g + a / 64, .inl (eA g t, n, .inl (gi M a))) := by
    rw [wl_at hA, ha, ce_I k1 (by rw [k3]; show t ≠ 1; rcases ht with h | h | h <;> omega) (by rw [k3]; show t < 4; rcases ht with h | h | h <;> omega), k3]
  have hK := C.2.2.2.2.2.2.2.1
  rcases ht with ⟨rfl, rfl⟩ | ⟨rfl, rfl⟩ | ⟨rfl, rfl⟩
  · exact va_iald C.1 C.2.1 hK hH.2 (a / 64) 0 hat (ty_at g (by omega)) hi hd K
  · exact va_bald C.1 C.2.1 hK hH.2 (a / 64) 2 hat (ty_at g (by omega)) hi hd K
  · exact va_zald C.1 C.2.1 hK hH.2 (a / 64) 3 hat (ty_at g (by omega)) hi hd K
theorem x_aldL {a k n : Nat} {i : Int32} (hd : decode (mB m) pc = .ok (.laload, 1)) (ha : a % 64 = k) (hk : AK k 1 n) (hi : vp_in i n) (h : X m (pc + 1) L (.long (gl M a i.toNatClampNeg) :: S) M b Q) : X m pc L (.int i :: .ref a :: S) M b Q := by
  intro g p l e R s mid args below meth cc Z C hR H locs cells slots ls hH hw hL hS hl2 hss hc hc2
  obtain ⟨k1, k2, k3, k4⟩ := hk
  have hA : okA M a := okA_of ((tl hS) _ List.mem_cons_self) (by omega)
  have K := h g p l e R s mid args below meth cc Z C hR H locs cells slots ls hH hw hL (ok1 (tl (tl hS)) trivial) hl2 hss hc hc2
  show W p l e R s mid args below meth cc H locs cells slots Z (F0 mid pc ls (.int i :: .ref (ca g a) :: S.map (cz g)))
  rw [ca_ok hw hA]
  exact va_lald C.1 C.2.1 C.2.2.2.2.2.2.2.1 hH.2 (a / 64) 1 (by rw [wl_at hA, ha, ce_L k1 (by rw [k3]), k3]) (ty_at g (by omega)) hi hd K
theorem x_aldR {a k t n r : Nat} {i : Int32} (ht : t = 4 ∨ t = 5) (hd : decode (mB m) pc = .ok (.aaload, 1)) (ha : a % 64 = k) (hk : AK k t n) (hi : vp_in i n) (hr : gr M a i.toNatClampNeg = some r) (h : X m (pc + 1) L (.ref r :: S) M b Q) : X m pc L (.int i :: .ref a :: S) M b Q := by
  intro g p l e R s mid args below meth cc Z C hR H locs cells slots ls hH hw hL hS hl2 hss hc hc2
  obtain ⟨k1, k2, k3, k4⟩ := hk
  have hA : okA M a := okA_of ((tl hS) _ List.mem_cons_self) (by omega)
  have K := h g p l e R s mid args below meth cc Z C hR H locs cells slots ls hH hw hL (ok1 (tl (tl hS)) (Or.inr (Or.inr (hw.2 _ _ _ hr).1))) hl2 hss hc hc2
  show W p l e R s mid args below meth cc H locs cells slots Z (F0 mid pc ls (.int i :: .ref (ca g a) :: S.map (cz g)))
  rw [ca_ok hw hA]
  have hat : (wl g M)[a / 64]? = some (eb g + a / 64, .inl (eA g t, n, .inr (.inr (.inr (.inr (fun j => (gr M a j).map (ca g))))))) := by
    rw [wl_at hA, ha, ce_R k1 (by rw [k3]; show t ≠ 1; omega) (by rw [k3]; show ¬ t < 4; omega), k3]
  have e2 : va_rf ((gr M a i.toNatClampNeg).map (ca g)) = cz g (.ref r) := by rw [hr]; rfl
  have hK := C.2.2.2.2.2.2.2.1
  rcases ht with rfl | rfl
  · exact va_aldq C.1 C.2.1 hK hH.2 (a / 64) 4 hat (ty_at g (by omega)) hi hd (e2 ▸ K)
  · exact va_aldq C.1 C.2.1 hK hH.2 (a / 64) 5 hat (ty_at g (by omega)) hi hd (e2 ▸ K)
theorem x_alen {a k t n : Nat} {v : Int32} (hd : decode (mB m) pc = .ok (.arraylength, 1)) (ha : a % 64 = k) (hk : AK k t n) (hv : Int32.ofNat n = v) (h : X m (pc + 1) L (.int v :: S) M b Q) : X m pc L (.ref a :: S) M b Q := by
  intro g p l e R s mid args below meth cc Z C hR H locs cells slots ls hH hw hL hS hl2 hss hc hc2
  obtain ⟨k1, k2, k3, k4⟩ := hk
  have hA : okA M a := okA_of (hS _ List.mem_cons_self) (by omega)
  have K := h g p l e R s mid args below meth cc Z C hR H locs cells slots ls hH hw hL (ok1 (tl hS) trivial) hl2 hss hc hc2
  show W p l e R s mid args below meth cc H locs cells slots Z (F0 mid pc ls (.ref (ca g a) :: S.map (cz g)))
  rw [ca_ok hw hA]
  obtain ⟨y, hy⟩ : ∃ y, (wl g M)[a / 64]? = some (eb g + a / 64, .inl (eA g t, n, y)) := by
    rw [wl_at hA, ha]
    by_cases h1 : t = 1
    · subst h1
      exact ⟨_, by rw [ce_L k1 (by rw [k3]), k3]⟩
    · by_cases h4 : t < 4
      · exact ⟨_, by rw [ce_I k1 (by rw [k3]; exact h1) (by rw [k3]; exact h4), k3]⟩
      · exact ⟨_, by rw [ce_R k1 (by rw [k3]; exact h1) (by rw [k3]; exact h4), k3]⟩
  exact va_alen C.1 C.2.1 C.2.2.2.2.2.2.2.1 hH.2 (a / 64) t hy (ty_at g k4) hv hd K
theorem arr_at {s0 : State} {g : Ev} {t : Nat} (hK : va_K (eD g) KC (tys g) s0) (ht : t < 6) : ArrOfT s0 (eA g t) (aT t) := (hK.2 t _ (ty_at g ht)).1
end ROWS

