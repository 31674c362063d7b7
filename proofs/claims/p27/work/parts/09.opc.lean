/-! ===== a lemma for each opcode: what decode makes of bytes ===== -/
def gb (b : ByteArray) (p : Nat) : Nat := if h : p < b.size then b[p].toNat else 256
def gk (b : ByteArray) : Nat → List Nat → Bool
  | _, [] => true
  | p, x :: l => Nat.ble x 255 && (Nat.beq (gb b p) x && gk b (p + 1) l)
section OPC
variable {b : ByteArray} {p q x y : Nat} {l : List Nat}
theorem gk_c (h : gk b p (x :: l) = true) : (p < b.size ∧ gb b p = x) ∧ gk b (p + 1) l = true := by
  have h' : (Nat.ble x 255 && (Nat.beq (gb b p) x && gk b (p + 1) l)) = true := h
  rw [Bool.and_eq_true, Bool.and_eq_true] at h'
  have e := Nat.eq_of_beq_eq_true h'.2.1
  have lx := Nat.le_of_ble_eq_true h'.1
  refine ⟨⟨?_, e⟩, h'.2.2⟩
  by_cases z : p < b.size
  · exact z
  · unfold gb at e
    rw [dif_neg z] at e
    omega
theorem u1r (h : p < b.size ∧ gb b p = x) : Jvm.ClassFile.Reader.runAt (Jvm.ClassFile.Reader.u1 : Jvm.ClassFile.Decoder Nat) b p = .ok (x, p + 1) := by
  obtain ⟨hp, e⟩ := h
  unfold gb at e
  rw [dif_pos hp] at e
  subst e
  unfold Jvm.ClassFile.Reader.u1
  show (dite (p < b.size) _ _ : Jvm.ClassFile.Decoder Nat) b p = _
  rw [dif_pos hp]
  rfl
theorem bd_at {α β : Type} {m : Jvm.ClassFile.Decoder α} {g : α → Jvm.ClassFile.Decoder β} {a : α} (h : Jvm.ClassFile.Reader.runAt m b p = .ok (a, q)) : Jvm.ClassFile.Reader.runAt (m >>= g) b p = Jvm.ClassFile.Reader.runAt (g a) b q := by
  show ((Jvm.ClassFile.Reader.runAt m b p) >>= fun y => Jvm.ClassFile.Reader.runAt (g y.1) b y.2) = _
  rw [h]
  rfl
theorem mp_at {α β : Type} {m : Jvm.ClassFile.Decoder α} {g : α → β} {a : α} (h : Jvm.ClassFile.Reader.runAt m b p = .ok (a, q)) : Jvm.ClassFile.Reader.runAt (g <$> m) b p = .ok (g a, q) := by
  show ((Jvm.ClassFile.Reader.runAt m b p) >>= fun y => pure (g y.1, y.2)) = _
  rw [h]
  rfl
theorem u2r (h : p < b.size ∧ gb b p = x) (h2 : p + 1 < b.size ∧ gb b (p + 1) = y) : Jvm.ClassFile.Reader.runAt (Jvm.ClassFile.Reader.u2 : Jvm.ClassFile.Decoder Nat) b p = .ok (x * 256 + y, p + 1 + 1) := by
  unfold Jvm.ClassFile.Reader.u2
  rw [bd_at (u1r h), bd_at (u1r h2)]
  rfl
theorem s1r (h : p < b.size ∧ gb b p = x) : Jvm.ClassFile.Reader.runAt (Jvm.ClassFile.Reader.s1 : Jvm.ClassFile.Decoder Int) b p = .ok (Jvm.ClassFile.Reader.signed 8 x, p + 1) := by
  unfold Jvm.ClassFile.Reader.s1
  exact mp_at (u1r h)
theorem s2r (h : p < b.size ∧ gb b p = x) (h2 : p + 1 < b.size ∧ gb b (p + 1) = y) : Jvm.ClassFile.Reader.runAt (Jvm.ClassFile.Reader.s2 : Jvm.ClassFile.Decoder Int) b p = .ok (Jvm.ClassFile.Reader.signed 16 (x * 256 + y), p + 1 + 1) := by
  unfold Jvm.ClassFile.Reader.s2
  exact mp_at (u2r h h2)
theorem dc_of {i : Instr} {n : Nat} (h : Jvm.ClassFile.Reader.runAt (Jvm.ClassFile.Decoder.instr p) b p = .ok (i, q)) (hq : q - p = n) : decode b p = .ok (i, n) := by
  unfold decode
  rw [h]
  show Except.ok (i, q - p) = _
  rw [hq]
/-- bytes of a piece of a long array -/
def gkc : List Nat → Nat → List Nat → Bool
  | _, _, [] => true
  | c, j, x :: l => Nat.beq ((c[j]?).getD 256) x && (Nat.ble x 255 && gkc c (j + 1) l)
theorem gk_ch {s n : Nat} {c : List Nat} (h : ((b.data.toList.drop s).take n).map UInt8.toNat = c) : ∀ (l : List Nat) (j : Nat), gkc c j l = true → gk b (s + j) l = true
  | [], _, _ => rfl
  | x :: l, j, hk => by
    have hk' : (Nat.beq ((c[j]?).getD 256) x && (Nat.ble x 255 && gkc c (j + 1) l)) = true := hk
    rw [Bool.and_eq_true, Bool.and_eq_true] at hk'
    obtain ⟨h1, h2, h3⟩ := hk'
    have ih := gk_ch h l (j + 1) h3
    have lx := Nat.le_of_ble_eq_true h2
    have e1 := Nat.eq_of_beq_eq_true h1
    have key : gb b (s + j) = x := by
      cases e : c[j]? with
      | none =>
        rw [e] at e1
        have : (256 : Nat) = x := e1
        omega
      | some y =>
        rw [e] at e1
        have exy : y = x := e1
        rw [← h, List.getElem?_map, Option.map_eq_some_iff] at e
        obtain ⟨u, hu, eu⟩ := e
        rw [List.getElem?_take] at hu
        by_cases q : j < n
        · rw [if_pos q, List.getElem?_drop] at hu
          obtain ⟨hlt, hu2⟩ := List.getElem?_eq_some_iff.mp hu
          unfold gb
          have lt : s + j < b.size := hlt
          rw [dif_pos lt, ← exy, ← eu, ← hu2]
          rfl
        · rw [if_neg q] at hu
          cases hu
    have ih' : gk b (s + j + 1) l = true := ih
    show (Nat.ble x 255 && (Nat.beq (gb b (s + j)) x && gk b (s + j + 1) l)) = true
    rw [h2, key, Nat.beq_refl, ih']
    rfl
theorem op2 (h : gk b p [2] = true) : decode b p = .ok (.iconst (-1), 1) := dc_of (q := p + 1) (by unfold Jvm.ClassFile.Decoder.instr; exact (bd_at (u1r (gk_c h).1)).trans rfl) (by omega)
theorem op3 (h : gk b p [3] = true) : decode b p = .ok (.iconst 0, 1) := dc_of (q := p + 1) (by unfold Jvm.ClassFile.Decoder.instr; exact (bd_at (u1r (gk_c h).1)).trans rfl) (by omega)
theorem op4 (h : gk b p [4] = true) : decode b p = .ok (.iconst 1, 1) := dc_of (q := p + 1) (by unfold Jvm.ClassFile.Decoder.instr; exact (bd_at (u1r (gk_c h).1)).trans rfl) (by omega)
theorem op5 (h : gk b p [5] = true) : decode b p = .ok (.iconst 2, 1) := dc_of (q := p + 1) (by unfold Jvm.ClassFile.Decoder.instr; exact (bd_at (u1r (gk_c h).1)).trans rfl) (by omega)
theorem op6 (h : gk b p [6] = true) : decode b p = .ok (.iconst 3, 1) := dc_of (q := p + 1) (by unfold Jvm.ClassFile.Decoder.instr; exact (bd_at (u1r (gk_c h).1)).trans rfl) (by omega)
theorem op7 (h : gk b p [7] = true) : decode b p = .ok (.iconst 4, 1) := dc_of (q := p + 1) (by unfold Jvm.ClassFile.Decoder.instr; exact (bd_at (u1r (gk_c h).1)).trans rfl) (by omega)
theorem op8 (h : gk b p [8] = true) : decode b p = .ok (.iconst 5, 1) := dc_of (q := p + 1) (by unfold Jvm.ClassFile.Decoder.instr; exact (bd_at (u1r (gk_c h).1)).trans rfl) (by omega)
theorem op9 (h : gk b p [9] = true) : decode b p = .ok (.lconst 0, 1) := dc_of (q := p + 1) (by unfold Jvm.ClassFile.Decoder.instr; exact (bd_at (u1r (gk_c h).1)).trans rfl) (by omega)
theorem op10 (h : gk b p [10] = true) : decode b p = .ok (.lconst 1, 1) := dc_of (q := p + 1) (by unfold Jvm.ClassFile.Decoder.instr; exact (bd_at (u1r (gk_c h).1)).trans rfl) (by omega)
theorem op16 (x0 : Nat) (h : gk b p [16, x0] = true) : decode b p = .ok (.bipush (Jvm.ClassFile.Reader.signed 8 x0), 2) := dc_of (q := p + 1 + 1) (by unfold Jvm.ClassFile.Decoder.instr; exact (bd_at (u1r (gk_c h).1)).trans ((bd_at (s1r (gk_c (gk_c h).2).1)).trans rfl)) (by omega)
theorem op17 (x0 y0 : Nat) (h : gk b p [17, x0, y0] = true) : decode b p = .ok (.sipush (Jvm.ClassFile.Reader.signed 16 (x0 * 256 + y0)), 3) := dc_of (q := p + 1 + 1 + 1) (by unfold Jvm.ClassFile.Decoder.instr; exact (bd_at (u1r (gk_c h).1)).trans ((bd_at (s2r (gk_c (gk_c h).2).1 (gk_c (gk_c (gk_c h).2).2).1)).trans rfl)) (by omega)
theorem op18 (x0 : Nat) (h : gk b p [18, x0] = true) : decode b p = .ok (.ldc x0, 2) := dc_of (q := p + 1 + 1) (by unfold Jvm.ClassFile.Decoder.instr; exact (bd_at (u1r (gk_c h).1)).trans ((bd_at (u1r (gk_c (gk_c h).2).1)).trans rfl)) (by omega)
theorem op19 (x0 y0 : Nat) (h : gk b p [19, x0, y0] = true) : decode b p = .ok (.ldc_w (x0 * 256 + y0), 3) := dc_of (q := p + 1 + 1 + 1) (by unfold Jvm.ClassFile.Decoder.instr; exact (bd_at (u1r (gk_c h).1)).trans ((bd_at (u2r (gk_c (gk_c h).2).1 (gk_c (gk_c (gk_c h).2).2).1)).trans rfl)) (by omega)
theorem op20 (x0 y0 : Nat) (h : gk b p [20, x0, y0] = true) : decode b p = .ok (.ldc2_w (x0 * 256 + y0), 3) := dc_of (q := p + 1 + 1 + 1) (by unfold Jvm.ClassFile.Decoder.instr; exact (bd_at (u1r (gk_c h).1)).trans ((bd_at (u2r (gk_c (gk_c h).2).1 (gk_c (gk_c (gk_c h).2).2).1)).trans rfl)) (by omega)
theorem op21 (x0 : Nat) (h : gk b p [21, x0] = true) : decode b p = .ok (.iload x0, 2) := dc_of (q := p + 1 + 1) (by unfold Jvm.ClassFile.Decoder.instr; exact (bd_at (u1r (gk_c h).1)).trans ((bd_at (u1r (gk_c (gk_c h).2).1)).trans rfl)) (by omega)
theorem op22 (x0 : Nat) (h : gk b p [22, x0] = true) : decode b p = .ok (.lload x0, 2) := dc_of (q := p + 1 + 1) (by unfold Jvm.ClassFile.Decoder.instr; exact (bd_at (u1r (gk_c h).1)).trans ((bd_at (u1r (gk_c (gk_c h).2).1)).trans rfl)) (by omega)
theorem op25 (x0 : Nat) (h : gk b p [25, x0] = true) : decode b p = .ok (.aload x0, 2) := dc_of (q := p + 1 + 1) (by unfold Jvm.ClassFile.Decoder.instr; exact (bd_at (u1r (gk_c h).1)).trans ((bd_at (u1r (gk_c (gk_c h).2).1)).trans rfl)) (by omega)
theorem op26 (h : gk b p [26] = true) : decode b p = .ok (.iload_n 0, 1) := dc_of (q := p + 1) (by unfold Jvm.ClassFile.Decoder.instr; exact (bd_at (u1r (gk_c h).1)).trans rfl) (by omega)
theorem op27 (h : gk b p [27] = true) : decode b p = .ok (.iload_n 1, 1) := dc_of (q := p + 1) (by unfold Jvm.ClassFile.Decoder.instr; exact (bd_at (u1r (gk_c h).1)).trans rfl) (by omega)
theorem op28 (h : gk b p [28] = true) : decode b p = .ok (.iload_n 2, 1) := dc_of (q := p + 1) (by unfold Jvm.ClassFile.Decoder.instr; exact (bd_at (u1r (gk_c h).1)).trans rfl) (by omega)
theorem op29 (h : gk b p [29] = true) : decode b p = .ok (.iload_n 3, 1) := dc_of (q := p + 1) (by unfold Jvm.ClassFile.Decoder.instr; exact (bd_at (u1r (gk_c h).1)).trans rfl) (by omega)
theorem op30 (h : gk b p [30] = true) : decode b p = .ok (.lload_n 0, 1) := dc_of (q := p + 1) (by unfold Jvm.ClassFile.Decoder.instr; exact (bd_at (u1r (gk_c h).1)).trans rfl) (by omega)
theorem op31 (h : gk b p [31] = true) : decode b p = .ok (.lload_n 1, 1) := dc_of (q := p + 1) (by unfold Jvm.ClassFile.Decoder.instr; exact (bd_at (u1r (gk_c h).1)).trans rfl) (by omega)
theorem op32 (h : gk b p [32] = true) : decode b p = .ok (.lload_n 2, 1) := dc_of (q := p + 1) (by unfold Jvm.ClassFile.Decoder.instr; exact (bd_at (u1r (gk_c h).1)).trans rfl) (by omega)
theorem op33 (h : gk b p [33] = true) : decode b p = .ok (.lload_n 3, 1) := dc_of (q := p + 1) (by unfold Jvm.ClassFile.Decoder.instr; exact (bd_at (u1r (gk_c h).1)).trans rfl) (by omega)
theorem op42 (h : gk b p [42] = true) : decode b p = .ok (.aload_n 0, 1) := dc_of (q := p + 1) (by unfold Jvm.ClassFile.Decoder.instr; exact (bd_at (u1r (gk_c h).1)).trans rfl) (by omega)
theorem op43 (h : gk b p [43] = true) : decode b p = .ok (.aload_n 1, 1) := dc_of (q := p + 1) (by unfold Jvm.ClassFile.Decoder.instr; exact (bd_at (u1r (gk_c h).1)).trans rfl) (by omega)
theorem op44 (h : gk b p [44] = true) : decode b p = .ok (.aload_n 2, 1) := dc_of (q := p + 1) (by unfold Jvm.ClassFile.Decoder.instr; exact (bd_at (u1r (gk_c h).1)).trans rfl) (by omega)
theorem op45 (h : gk b p [45] = true) : decode b p = .ok (.aload_n 3, 1) := dc_of (q := p + 1) (by unfold Jvm.ClassFile.Decoder.instr; exact (bd_at (u1r (gk_c h).1)).trans rfl) (by omega)
theorem op46 (h : gk b p [46] = true) : decode b p = .ok (.iaload, 1) := dc_of (q := p + 1) (by unfold Jvm.ClassFile.Decoder.instr; exact (bd_at (u1r (gk_c h).1)).trans rfl) (by omega)
theorem op47 (h : gk b p [47] = true) : decode b p = .ok (.laload, 1) := dc_of (q := p + 1) (by unfold Jvm.ClassFile.Decoder.instr; exact (bd_at (u1r (gk_c h).1)).trans rfl) (by omega)
theorem op50 (h : gk b p [50] = true) : decode b p = .ok (.aaload, 1) := dc_of (q := p + 1) (by unfold Jvm.ClassFile.Decoder.instr; exact (bd_at (u1r (gk_c h).1)).trans rfl) (by omega)
theorem op51 (h : gk b p [51] = true) : decode b p = .ok (.baload, 1) := dc_of (q := p + 1) (by unfold Jvm.ClassFile.Decoder.instr; exact (bd_at (u1r (gk_c h).1)).trans rfl) (by omega)
theorem op54 (x0 : Nat) (h : gk b p [54, x0] = true) : decode b p = .ok (.istore x0, 2) := dc_of (q := p + 1 + 1) (by unfold Jvm.ClassFile.Decoder.instr; exact (bd_at (u1r (gk_c h).1)).trans ((bd_at (u1r (gk_c (gk_c h).2).1)).trans rfl)) (by omega)
theorem op55 (x0 : Nat) (h : gk b p [55, x0] = true) : decode b p = .ok (.lstore x0, 2) := dc_of (q := p + 1 + 1) (by unfold Jvm.ClassFile.Decoder.instr; exact (bd_at (u1r (gk_c h).1)).trans ((bd_at (u1r (gk_c (gk_c h).2).1)).trans rfl)) (by omega)
theorem op58 (x0 : Nat) (h : gk b p [58, x0] = true) : decode b p = .ok (.astore x0, 2) := dc_of (q := p + 1 + 1) (by unfold Jvm.ClassFile.Decoder.instr; exact (bd_at (u1r (gk_c h).1)).trans ((bd_at (u1r (gk_c (gk_c h).2).1)).trans rfl)) (by omega)
theorem op59 (h : gk b p [59] = true) : decode b p = .ok (.istore_n 0, 1) := dc_of (q := p + 1) (by unfold Jvm.ClassFile.Decoder.instr; exact (bd_at (u1r (gk_c h).1)).trans rfl) (by omega)
theorem op60 (h : gk b p [60] = true) : decode b p = .ok (.istore_n 1, 1) := dc_of (q := p + 1) (by unfold Jvm.ClassFile.Decoder.instr; exact (bd_at (u1r (gk_c h).1)).trans rfl) (by omega)
theorem op61 (h : gk b p [61] = true) : decode b p = .ok (.istore_n 2, 1) := dc_of (q := p + 1) (by unfold Jvm.ClassFile.Decoder.instr; exact (bd_at (u1r (gk_c h).1)).trans rfl) (by omega)
theorem op62 (h : gk b p [62] = true) : decode b p = .ok (.istore_n 3, 1) := dc_of (q := p + 1) (by unfold Jvm.ClassFile.Decoder.instr; exact (bd_at (u1r (gk_c h).1)).trans rfl) (by omega)
theorem op63 (h : gk b p [63] = true) : decode b p = .ok (.lstore_n 0, 1) := dc_of (q := p + 1) (by unfold Jvm.ClassFile.Decoder.instr; exact (bd_at (u1r (gk_c h).1)).trans rfl) (by omega)
theorem op65 (h : gk b p [65] = true) : decode b p = .ok (.lstore_n 2, 1) := dc_of (q := p + 1) (by unfold Jvm.ClassFile.Decoder.instr; exact (bd_at (u1r (gk_c h).1)).trans rfl) (by omega)
theorem op66 (h : gk b p [66] = true) : decode b p = .ok (.lstore_n 3, 1) := dc_of (q := p + 1) (by unfold Jvm.ClassFile.Decoder.instr; exact (bd_at (u1r (gk_c h).1)).trans rfl) (by omega)
theorem op76 (h : gk b p [76] = true) : decode b p = .ok (.astore_n 1, 1) := dc_of (q := p + 1) (by unfold Jvm.ClassFile.Decoder.instr; exact (bd_at (u1r (gk_c h).1)).trans rfl) (by omega)
theorem op77 (h : gk b p [77] = true) : decode b p = .ok (.astore_n 2, 1) := dc_of (q := p + 1) (by unfold Jvm.ClassFile.Decoder.instr; exact (bd_at (u1r (gk_c h).1)).trans rfl) (by omega)
theorem op78 (h : gk b p [78] = true) : decode b p = .ok (.astore_n 3, 1) := dc_of (q := p + 1) (by unfold Jvm.ClassFile.Decoder.instr; exact (bd_at (u1r (gk_c h).1)).trans rfl) (by omega)
theorem op79 (h : gk b p [79] = true) : decode b p = .ok (.iastore, 1) := dc_of (q := p + 1) (by unfold Jvm.ClassFile.Decoder.instr; exact (bd_at (u1r (gk_c h).1)).trans rfl) (by omega)
theorem op80 (h : gk b p [80] = true) : decode b p = .ok (.lastore, 1) := dc_of (q := p + 1) (by unfold Jvm.ClassFile.Decoder.instr; exact (bd_at (u1r (gk_c h).1)).trans rfl) (by omega)
theorem op83 (h : gk b p [83] = true) : decode b p = .ok (.aastore, 1) := dc_of (q := p + 1) (by unfold Jvm.ClassFile.Decoder.instr; exact (bd_at (u1r (gk_c h).1)).trans rfl) (by omega)
theorem op84 (h : gk b p [84] = true) : decode b p = .ok (.bastore, 1) := dc_of (q := p + 1) (by unfold Jvm.ClassFile.Decoder.instr; exact (bd_at (u1r (gk_c h).1)).trans rfl) (by omega)
theorem op87 (h : gk b p [87] = true) : decode b p = .ok (.pop, 1) := dc_of (q := p + 1) (by unfold Jvm.ClassFile.Decoder.instr; exact (bd_at (u1r (gk_c h).1)).trans rfl) (by omega)
theorem op88 (h : gk b p [88] = true) : decode b p = .ok (.pop2, 1) := dc_of (q := p + 1) (by unfold Jvm.ClassFile.Decoder.instr; exact (bd_at (u1r (gk_c h).1)).trans rfl) (by omega)
theorem op89 (h : gk b p [89] = true) : decode b p = .ok (.dup, 1) := dc_of (q := p + 1) (by unfold Jvm.ClassFile.Decoder.instr; exact (bd_at (u1r (gk_c h).1)).trans rfl) (by omega)
theorem op92 (h : gk b p [92] = true) : decode b p = .ok (.dup2, 1) := dc_of (q := p + 1) (by unfold Jvm.ClassFile.Decoder.instr; exact (bd_at (u1r (gk_c h).1)).trans rfl) (by omega)
theorem op96 (h : gk b p [96] = true) : decode b p = .ok (.iadd, 1) := dc_of (q := p + 1) (by unfold Jvm.ClassFile.Decoder.instr; exact (bd_at (u1r (gk_c h).1)).trans rfl) (by omega)
theorem op97 (h : gk b p [97] = true) : decode b p = .ok (.ladd, 1) := dc_of (q := p + 1) (by unfold Jvm.ClassFile.Decoder.instr; exact (bd_at (u1r (gk_c h).1)).trans rfl) (by omega)
theorem op100 (h : gk b p [100] = true) : decode b p = .ok (.isub, 1) := dc_of (q := p + 1) (by unfold Jvm.ClassFile.Decoder.instr; exact (bd_at (u1r (gk_c h).1)).trans rfl) (by omega)
theorem op101 (h : gk b p [101] = true) : decode b p = .ok (.lsub, 1) := dc_of (q := p + 1) (by unfold Jvm.ClassFile.Decoder.instr; exact (bd_at (u1r (gk_c h).1)).trans rfl) (by omega)
theorem op104 (h : gk b p [104] = true) : decode b p = .ok (.imul, 1) := dc_of (q := p + 1) (by unfold Jvm.ClassFile.Decoder.instr; exact (bd_at (u1r (gk_c h).1)).trans rfl) (by omega)
theorem op108 (h : gk b p [108] = true) : decode b p = .ok (.idiv, 1) := dc_of (q := p + 1) (by unfold Jvm.ClassFile.Decoder.instr; exact (bd_at (u1r (gk_c h).1)).trans rfl) (by omega)
theorem op112 (h : gk b p [112] = true) : decode b p = .ok (.irem, 1) := dc_of (q := p + 1) (by unfold Jvm.ClassFile.Decoder.instr; exact (bd_at (u1r (gk_c h).1)).trans rfl) (by omega)
theorem op116 (h : gk b p [116] = true) : decode b p = .ok (.ineg, 1) := dc_of (q := p + 1) (by unfold Jvm.ClassFile.Decoder.instr; exact (bd_at (u1r (gk_c h).1)).trans rfl) (by omega)
theorem op120 (h : gk b p [120] = true) : decode b p = .ok (.ishl, 1) := dc_of (q := p + 1) (by unfold Jvm.ClassFile.Decoder.instr; exact (bd_at (u1r (gk_c h).1)).trans rfl) (by omega)
theorem op121 (h : gk b p [121] = true) : decode b p = .ok (.lshl, 1) := dc_of (q := p + 1) (by unfold Jvm.ClassFile.Decoder.instr; exact (bd_at (u1r (gk_c h).1)).trans rfl) (by omega)
theorem op122 (h : gk b p [122] = true) : decode b p = .ok (.ishr, 1) := dc_of (q := p + 1) (by unfold Jvm.ClassFile.Decoder.instr; exact (bd_at (u1r (gk_c h).1)).trans rfl) (by omega)
theorem op123 (h : gk b p [123] = true) : decode b p = .ok (.lshr, 1) := dc_of (q := p + 1) (by unfold Jvm.ClassFile.Decoder.instr; exact (bd_at (u1r (gk_c h).1)).trans rfl) (by omega)
theorem op124 (h : gk b p [124] = true) : decode b p = .ok (.iushr, 1) := dc_of (q := p + 1) (by unfold Jvm.ClassFile.Decoder.instr; exact (bd_at (u1r (gk_c h).1)).trans rfl) (by omega)
theorem op125 (h : gk b p [125] = true) : decode b p = .ok (.lushr, 1) := dc_of (q := p + 1) (by unfold Jvm.ClassFile.Decoder.instr; exact (bd_at (u1r (gk_c h).1)).trans rfl) (by omega)
theorem op126 (h : gk b p [126] = true) : decode b p = .ok (.iand, 1) := dc_of (q := p + 1) (by unfold Jvm.ClassFile.Decoder.instr; exact (bd_at (u1r (gk_c h).1)).trans rfl) (by omega)
theorem op127 (h : gk b p [127] = true) : decode b p = .ok (.land, 1) := dc_of (q := p + 1) (by unfold Jvm.ClassFile.Decoder.instr; exact (bd_at (u1r (gk_c h).1)).trans rfl) (by omega)
theorem op128 (h : gk b p [128] = true) : decode b p = .ok (.ior, 1) := dc_of (q := p + 1) (by unfold Jvm.ClassFile.Decoder.instr; exact (bd_at (u1r (gk_c h).1)).trans rfl) (by omega)
theorem op129 (h : gk b p [129] = true) : decode b p = .ok (.lor, 1) := dc_of (q := p + 1) (by unfold Jvm.ClassFile.Decoder.instr; exact (bd_at (u1r (gk_c h).1)).trans rfl) (by omega)
theorem op130 (h : gk b p [130] = true) : decode b p = .ok (.ixor, 1) := dc_of (q := p + 1) (by unfold Jvm.ClassFile.Decoder.instr; exact (bd_at (u1r (gk_c h).1)).trans rfl) (by omega)
theorem op131 (h : gk b p [131] = true) : decode b p = .ok (.lxor, 1) := dc_of (q := p + 1) (by unfold Jvm.ClassFile.Decoder.instr; exact (bd_at (u1r (gk_c h).1)).trans rfl) (by omega)
theorem op132 (x0 x1 : Nat) (h : gk b p [132, x0, x1] = true) : decode b p = .ok (.iinc x0 (Jvm.ClassFile.Reader.signed 8 x1), 3) := dc_of (q := p + 1 + 1 + 1) (by unfold Jvm.ClassFile.Decoder.instr; exact (bd_at (u1r (gk_c h).1)).trans ((bd_at (u1r (gk_c (gk_c h).2).1)).trans ((bd_at (s1r (gk_c (gk_c (gk_c h).2).2).1)).trans rfl))) (by omega)
theorem op133 (h : gk b p [133] = true) : decode b p = .ok (.i2l, 1) := dc_of (q := p + 1) (by unfold Jvm.ClassFile.Decoder.instr; exact (bd_at (u1r (gk_c h).1)).trans rfl) (by omega)
theorem op136 (h : gk b p [136] = true) : decode b p = .ok (.l2i, 1) := dc_of (q := p + 1) (by unfold Jvm.ClassFile.Decoder.instr; exact (bd_at (u1r (gk_c h).1)).trans rfl) (by omega)
theorem op145 (h : gk b p [145] = true) : decode b p = .ok (.i2b, 1) := dc_of (q := p + 1) (by unfold Jvm.ClassFile.Decoder.instr; exact (bd_at (u1r (gk_c h).1)).trans rfl) (by omega)
theorem op146 (h : gk b p [146] = true) : decode b p = .ok (.i2c, 1) := dc_of (q := p + 1) (by unfold Jvm.ClassFile.Decoder.instr; exact (bd_at (u1r (gk_c h).1)).trans rfl) (by omega)
theorem op147 (h : gk b p [147] = true) : decode b p = .ok (.i2s, 1) := dc_of (q := p + 1) (by unfold Jvm.ClassFile.Decoder.instr; exact (bd_at (u1r (gk_c h).1)).trans rfl) (by omega)
theorem op148 (h : gk b p [148] = true) : decode b p = .ok (.lcmp, 1) := dc_of (q := p + 1) (by unfold Jvm.ClassFile.Decoder.instr; exact (bd_at (u1r (gk_c h).1)).trans rfl) (by omega)
theorem op153 (x0 y0 : Nat) (h : gk b p [153, x0, y0] = true) : decode b p = .ok (.ifCond .eq (Jvm.ClassFile.Reader.signed 16 (x0 * 256 + y0)), 3) := dc_of (q := p + 1 + 1 + 1) (by unfold Jvm.ClassFile.Decoder.instr; exact (bd_at (u1r (gk_c h).1)).trans ((bd_at (s2r (gk_c (gk_c h).2).1 (gk_c (gk_c (gk_c h).2).2).1)).trans rfl)) (by omega)
theorem op154 (x0 y0 : Nat) (h : gk b p [154, x0, y0] = true) : decode b p = .ok (.ifCond .ne (Jvm.ClassFile.Reader.signed 16 (x0 * 256 + y0)), 3) := dc_of (q := p + 1 + 1 + 1) (by unfold Jvm.ClassFile.Decoder.instr; exact (bd_at (u1r (gk_c h).1)).trans ((bd_at (s2r (gk_c (gk_c h).2).1 (gk_c (gk_c (gk_c h).2).2).1)).trans rfl)) (by omega)
theorem op155 (x0 y0 : Nat) (h : gk b p [155, x0, y0] = true) : decode b p = .ok (.ifCond .lt (Jvm.ClassFile.Reader.signed 16 (x0 * 256 + y0)), 3) := dc_of (q := p + 1 + 1 + 1) (by unfold Jvm.ClassFile.Decoder.instr; exact (bd_at (u1r (gk_c h).1)).trans ((bd_at (s2r (gk_c (gk_c h).2).1 (gk_c (gk_c (gk_c h).2).2).1)).trans rfl)) (by omega)
theorem op156 (x0 y0 : Nat) (h : gk b p [156, x0, y0] = true) : decode b p = .ok (.ifCond .ge (Jvm.ClassFile.Reader.signed 16 (x0 * 256 + y0)), 3) := dc_of (q := p + 1 + 1 + 1) (by unfold Jvm.ClassFile.Decoder.instr; exact (bd_at (u1r (gk_c h).1)).trans ((bd_at (s2r (gk_c (gk_c h).2).1 (gk_c (gk_c (gk_c h).2).2).1)).trans rfl)) (by omega)
theorem op157 (x0 y0 : Nat) (h : gk b p [157, x0, y0] = true) : decode b p = .ok (.ifCond .gt (Jvm.ClassFile.Reader.signed 16 (x0 * 256 + y0)), 3) := dc_of (q := p + 1 + 1 + 1) (by unfold Jvm.ClassFile.Decoder.instr; exact (bd_at (u1r (gk_c h).1)).trans ((bd_at (s2r (gk_c (gk_c h).2).1 (gk_c (gk_c (gk_c h).2).2).1)).trans rfl)) (by omega)
theorem op158 (x0 y0 : Nat) (h : gk b p [158, x0, y0] = true) : decode b p = .ok (.ifCond .le (Jvm.ClassFile.Reader.signed 16 (x0 * 256 + y0)), 3) := dc_of (q := p + 1 + 1 + 1) (by unfold Jvm.ClassFile.Decoder.instr; exact (bd_at (u1r (gk_c h).1)).trans ((bd_at (s2r (gk_c (gk_c h).2).1 (gk_c (gk_c (gk_c h).2).2).1)).trans rfl)) (by omega)
theorem op159 (x0 y0 : Nat) (h : gk b p [159, x0, y0] = true) : decode b p = .ok (.if_icmp .eq (Jvm.ClassFile.Reader.signed 16 (x0 * 256 + y0)), 3) := dc_of (q := p + 1 + 1 + 1) (by unfold Jvm.ClassFile.Decoder.instr; exact (bd_at (u1r (gk_c h).1)).trans ((bd_at (s2r (gk_c (gk_c h).2).1 (gk_c (gk_c (gk_c h).2).2).1)).trans rfl)) (by omega)
theorem op160 (x0 y0 : Nat) (h : gk b p [160, x0, y0] = true) : decode b p = .ok (.if_icmp .ne (Jvm.ClassFile.Reader.signed 16 (x0 * 256 + y0)), 3) := dc_of (q := p + 1 + 1 + 1) (by unfold Jvm.ClassFile.Decoder.instr; exact (bd_at (u1r (gk_c h).1)).trans ((bd_at (s2r (gk_c (gk_c h).2).1 (gk_c (gk_c (gk_c h).2).2).1)).trans rfl)) (by omega)
theorem op161 (x0 y0 : Nat) (h : gk b p [161, x0, y0] = true) : decode b p = .ok (.if_icmp .lt (Jvm.ClassFile.Reader.signed 16 (x0 * 256 + y0)), 3) := dc_of (q := p + 1 + 1 + 1) (by unfold Jvm.ClassFile.Decoder.instr; exact (bd_at (u1r (gk_c h).1)).trans ((bd_at (s2r (gk_c (gk_c h).2).1 (gk_c (gk_c (gk_c h).2).2).1)).trans rfl)) (by omega)
theorem op162 (x0 y0 : Nat) (h : gk b p [162, x0, y0] = true) : decode b p = .ok (.if_icmp .ge (Jvm.ClassFile.Reader.signed 16 (x0 * 256 + y0)), 3) := dc_of (q := p + 1 + 1 + 1) (by unfold Jvm.ClassFile.Decoder.instr; exact (bd_at (u1r (gk_c h).1)).trans ((bd_at (s2r (gk_c (gk_c h).2).1 (gk_c (gk_c (gk_c h).2).2).1)).trans rfl)) (by omega)
theorem op163 (x0 y0 : Nat) (h : gk b p [163, x0, y0] = true) : decode b p = .ok (.if_icmp .gt (Jvm.ClassFile.Reader.signed 16 (x0 * 256 + y0)), 3) := dc_of (q := p + 1 + 1 + 1) (by unfold Jvm.ClassFile.Decoder.instr; exact (bd_at (u1r (gk_c h).1)).trans ((bd_at (s2r (gk_c (gk_c h).2).1 (gk_c (gk_c (gk_c h).2).2).1)).trans rfl)) (by omega)
theorem op164 (x0 y0 : Nat) (h : gk b p [164, x0, y0] = true) : decode b p = .ok (.if_icmp .le (Jvm.ClassFile.Reader.signed 16 (x0 * 256 + y0)), 3) := dc_of (q := p + 1 + 1 + 1) (by unfold Jvm.ClassFile.Decoder.instr; exact (bd_at (u1r (gk_c h).1)).trans ((bd_at (s2r (gk_c (gk_c h).2).1 (gk_c (gk_c (gk_c h).2).2).1)).trans rfl)) (by omega)
theorem op167 (x0 y0 : Nat) (h : gk b p [167, x0, y0] = true) : decode b p = .ok (.goto (Jvm.ClassFile.Reader.signed 16 (x0 * 256 + y0)), 3) := dc_of (q := p + 1 + 1 + 1) (by unfold Jvm.ClassFile.Decoder.instr; exact (bd_at (u1r (gk_c h).1)).trans ((bd_at (s2r (gk_c (gk_c h).2).1 (gk_c (gk_c (gk_c h).2).2).1)).trans rfl)) (by omega)
theorem op172 (h : gk b p [172] = true) : decode b p = .ok (.ireturn, 1) := dc_of (q := p + 1) (by unfold Jvm.ClassFile.Decoder.instr; exact (bd_at (u1r (gk_c h).1)).trans rfl) (by omega)
theorem op173 (h : gk b p [173] = true) : decode b p = .ok (.lreturn, 1) := dc_of (q := p + 1) (by unfold Jvm.ClassFile.Decoder.instr; exact (bd_at (u1r (gk_c h).1)).trans rfl) (by omega)
theorem op177 (h : gk b p [177] = true) : decode b p = .ok (.return_, 1) := dc_of (q := p + 1) (by unfold Jvm.ClassFile.Decoder.instr; exact (bd_at (u1r (gk_c h).1)).trans rfl) (by omega)
theorem op178 (x0 y0 : Nat) (h : gk b p [178, x0, y0] = true) : decode b p = .ok (.getstatic (x0 * 256 + y0), 3) := dc_of (q := p + 1 + 1 + 1) (by unfold Jvm.ClassFile.Decoder.instr; exact (bd_at (u1r (gk_c h).1)).trans ((bd_at (u2r (gk_c (gk_c h).2).1 (gk_c (gk_c (gk_c h).2).2).1)).trans rfl)) (by omega)
theorem op180 (x0 y0 : Nat) (h : gk b p [180, x0, y0] = true) : decode b p = .ok (.getfield (x0 * 256 + y0), 3) := dc_of (q := p + 1 + 1 + 1) (by unfold Jvm.ClassFile.Decoder.instr; exact (bd_at (u1r (gk_c h).1)).trans ((bd_at (u2r (gk_c (gk_c h).2).1 (gk_c (gk_c (gk_c h).2).2).1)).trans rfl)) (by omega)
theorem op181 (x0 y0 : Nat) (h : gk b p [181, x0, y0] = true) : decode b p = .ok (.putfield (x0 * 256 + y0), 3) := dc_of (q := p + 1 + 1 + 1) (by unfold Jvm.ClassFile.Decoder.instr; exact (bd_at (u1r (gk_c h).1)).trans ((bd_at (u2r (gk_c (gk_c h).2).1 (gk_c (gk_c (gk_c h).2).2).1)).trans rfl)) (by omega)
theorem op182 (x0 y0 : Nat) (h : gk b p [182, x0, y0] = true) : decode b p = .ok (.invokevirtual (x0 * 256 + y0), 3) := dc_of (q := p + 1 + 1 + 1) (by unfold Jvm.ClassFile.Decoder.instr; exact (bd_at (u1r (gk_c h).1)).trans ((bd_at (u2r (gk_c (gk_c h).2).1 (gk_c (gk_c (gk_c h).2).2).1)).trans rfl)) (by omega)
theorem op183 (x0 y0 : Nat) (h : gk b p [183, x0, y0] = true) : decode b p = .ok (.invokespecial (x0 * 256 + y0), 3) := dc_of (q := p + 1 + 1 + 1) (by unfold Jvm.ClassFile.Decoder.instr; exact (bd_at (u1r (gk_c h).1)).trans ((bd_at (u2r (gk_c (gk_c h).2).1 (gk_c (gk_c (gk_c h).2).2).1)).trans rfl)) (by omega)
theorem op184 (x0 y0 : Nat) (h : gk b p [184, x0, y0] = true) : decode b p = .ok (.invokestatic (x0 * 256 + y0), 3) := dc_of (q := p + 1 + 1 + 1) (by unfold Jvm.ClassFile.Decoder.instr; exact (bd_at (u1r (gk_c h).1)).trans ((bd_at (u2r (gk_c (gk_c h).2).1 (gk_c (gk_c (gk_c h).2).2).1)).trans rfl)) (by omega)
theorem op187 (x0 y0 : Nat) (h : gk b p [187, x0, y0] = true) : decode b p = .ok (.new (x0 * 256 + y0), 3) := dc_of (q := p + 1 + 1 + 1) (by unfold Jvm.ClassFile.Decoder.instr; exact (bd_at (u1r (gk_c h).1)).trans ((bd_at (u2r (gk_c (gk_c h).2).1 (gk_c (gk_c (gk_c h).2).2).1)).trans rfl)) (by omega)
theorem op189 (x0 y0 : Nat) (h : gk b p [189, x0, y0] = true) : decode b p = .ok (.anewarray (x0 * 256 + y0), 3) := dc_of (q := p + 1 + 1 + 1) (by unfold Jvm.ClassFile.Decoder.instr; exact (bd_at (u1r (gk_c h).1)).trans ((bd_at (u2r (gk_c (gk_c h).2).1 (gk_c (gk_c (gk_c h).2).2).1)).trans rfl)) (by omega)
theorem op190 (h : gk b p [190] = true) : decode b p = .ok (.arraylength, 1) := dc_of (q := p + 1) (by unfold Jvm.ClassFile.Decoder.instr; exact (bd_at (u1r (gk_c h).1)).trans rfl) (by omega)
theorem op191 (h : gk b p [191] = true) : decode b p = .ok (.athrow, 1) := dc_of (q := p + 1) (by unfold Jvm.ClassFile.Decoder.instr; exact (bd_at (u1r (gk_c h).1)).trans rfl) (by omega)
end OPC
