/-! ===== from the law's entry ===== -/
def tmS (i : Nat) : Term := .string (sO i) (sI i)
theorem arr_of {s : State} {A : Array Value} {ty : FieldType} (h : (Cond.arrayClass ty).before A s = true) : ∃ cA : ClassId, ArrOfT s cA ty ∧ s.vm.findClass ("[" ++ ty.toString) = some cA := by
  obtain ⟨c, k, comp, h1, h2, h3⟩ := Cond.arrayClass_spec h
  exact ⟨c, fun n z => ⟨fun k h => (by cases h), k, h2, comp, h3⟩, h1⟩
theorem arr_ov {s : State} {A : Array Value} {C : String} (h : (Cond.arrayOver (.object C)).before A s = true) : ∃ cA : ClassId, ArrOfT s cA (.object C) ∧ va_RA s cA (.object C) := by
  obtain ⟨comp, c, k, h1, h2, h3, h4, h5⟩ := Cond.arrayOver_spec h
  exact ⟨c, fun n z => ⟨fun k h => (by cases h), k, h3, comp, h4⟩, k, comp, h3, h4, h1, h5⟩
theorem mem6 (f : Nat → Cond) (h : ((List.range 6).map f).all (fun w => decide (w ∈ flatC (Jvm.Cond.and given_1 narrow_1))) = true) (i : Nat) (hi : i < 6) : f i ∈ flatC (Jvm.Cond.and given_1 narrow_1) := by
  have := List.all_eq_true.mp h (f i) (List.mem_map.mpr ⟨i, List.mem_range.mpr hi, rfl⟩)
  exact of_decide_eq_true this
theorem mem6b (i : Nat) (hi : i < 6) (j : Nat) (hj : j < slen.getD i 0) : Cond.eq (.elem (.field (tmS i) "java/lang/String" "value" "[B") (.int (Int32.ofNat j))) (.int ((sbyt.getD i []).getD j 0)) ∈ flatC (Jvm.Cond.and given_1 narrow_1) := by
  have h : ∀ i, i < 6 → ∀ j, j < slen.getD i 0 → Cond.eq (.elem (.field (tmS i) "java/lang/String" "value" "[B") (.int (Int32.ofNat j))) (.int ((sbyt.getD i []).getD j 0)) ∈ flatC (Jvm.Cond.and given_1 narrow_1) := by decide +kernel
  exact h i hi j hj
theorem mem6n {s : State} {A : Array Value} (hs : ∀ c ∈ flatC (Jvm.Cond.and given_1 narrow_1), c.before A s = true) (i j : Nat) (hi : i < 6) (hj : j < 6) (hij : i ≠ j) : (Cond.not (Cond.eq (tmS i) (tmS j))).before A s = true ∨ (Cond.not (Cond.eq (tmS j) (tmS i))).before A s = true := by
  have h : ∀ i, i < 6 → ∀ j, j < 6 → i ≠ j → Cond.not (Cond.eq (tmS i) (tmS j)) ∈ flatC (Jvm.Cond.and given_1 narrow_1) ∨ Cond.not (Cond.eq (tmS j) (tmS i)) ∈ flatC (Jvm.Cond.and given_1 narrow_1) := by decide +kernel
  exact (h i hi j hj hij).imp (hs _) (hs _)
set_option maxRecDepth 100000 in
set_option maxHeartbeats 4000000 in
theorem ku_start {s : State} {b L : Nat} {xs : Nat → Int32} (hts : ∀ w ∈ lw_tbl, w.before #[Value.ref b] s = true) (hX : va_X b L xs s s.heap) (hbl : b < s.heap.size) (hgv : (Jvm.Cond.and given_1 narrow_1).before #[Value.ref b] s = true) : ∃ g : Ev, KU g L xs s s.heap ∧ eb g = s.heap.size ∧ es g = b := by
  have hG : ∀ w ∈ TG, w.before #[Value.ref b] s = true := fun w hw => hts w (TG_sub w hw)
  have hs := flat_of_before _ hgv
  have ht : ∀ w ∈ tables_1, w.before #[Value.ref b] s = true := fun w hw => hts w (List.mem_append_right _ hw)
  obtain ⟨c0, iS0, hKn0⟩ := u_known (C := "LearnedCount$Finding") (T := cT0) (N := 2) (n := 2) hG cI0 (ht (.instantiable "LearnedCount$Finding" 2) (by decide +kernel))
  obtain ⟨c1, iS1, hKn1⟩ := u_known (C := "LearnedCount$Library") (T := cT1) (N := 16) (n := 16) hG cI1 (ht (.instantiable "LearnedCount$Library" 16) (by decide +kernel))
  obtain ⟨c2, iS2, hKn2⟩ := u_known (C := "LearnedCount$LibraryReader") (T := cT2) (N := 2) (n := 2) hG cI2 (ht (.instantiable "LearnedCount$LibraryReader" 2) (by decide +kernel))
  obtain ⟨c3, iS3, hKn3⟩ := u_known (C := "LearnedCount$Rule") (T := cT3) (N := 7) (n := 7) hG cI3 (ht (.instantiable "LearnedCount$Rule" 7) (by decide +kernel))
  obtain ⟨c4, iS4, hKn4⟩ := u_known (C := "LearnedCount$RuleReader") (T := cT4) (N := 1) (n := 1) hG cI4 (ht (.instantiable "LearnedCount$RuleReader" 1) (by decide +kernel))
  obtain ⟨c5, iS5, hKn5⟩ := u_known (C := "LearnedCount$Sheet") (T := cT5) (N := 3) (n := 3) hG cI5 (ht (.instantiable "LearnedCount$Sheet" 3) (by decide +kernel))
  obtain ⟨c6, iS6, hKn6⟩ := u_known (C := "LearnedCount$Tape") (T := cT6) (N := 2) (n := 2) hG cI6 (ht (.instantiable "LearnedCount$Tape" 2) (by decide +kernel))
  obtain ⟨c7, iS7, hKn7⟩ := u_known (C := "LearnedCount$Tokens") (T := cT7) (N := 7) (n := 7) hG cI7 (ht (.instantiable "LearnedCount$Tokens" 7) (by decide +kernel))
  obtain ⟨c8, iS8, hKn8⟩ := u_known (C := "LearnedCount$Weighing") (T := cT8) (N := 10) (n := 10) hG cI8 (ht (.instantiable "LearnedCount$Weighing" 10) (by decide +kernel))
  obtain ⟨c9, iS9, hKn9⟩ := u_known (C := "LearnedCount$Word") (T := cT9) (N := 11) (n := 11) hG cI9 (ht (.instantiable "LearnedCount$Word" 11) (by decide +kernel))
  obtain ⟨c10, iS10, hKn10⟩ := u_known (C := "LearnedCount") (T := cT10) (N := 14) (n := 14) hG cI10 (ht (.instantiable "LearnedCount" 14) (by decide +kernel))
  obtain ⟨c11, iS11, hKn11⟩ := u_known (C := "LearnedCountModel") (T := cT11) (N := 43) (n := 43) hG cI11 (ht (.instantiable "LearnedCountModel" 43) (by decide +kernel))
  obtain ⟨dC, dI, hKc⟩ : ∃ (dC : Nat → ClassId) (dI : Nat → Nat → Nat), ∀ (k : Nat) (q : vw_C), KC[k]? = some q → u_Kn s q.1 q.2.1 q.2.2 (dC k) (dI k) := by
    refine ⟨fun k => if k = 0 then c0 else if k = 1 then c1 else if k = 2 then c2 else if k = 3 then c3 else if k = 4 then c4 else if k = 5 then c5 else if k = 6 then c6 else if k = 7 then c7 else if k = 8 then c8 else if k = 9 then c9 else if k = 10 then c10 else c11, fun k => if k = 0 then iS0 else if k = 1 then iS1 else if k = 2 then iS2 else if k = 3 then iS3 else if k = 4 then iS4 else if k = 5 then iS5 else if k = 6 then iS6 else if k = 7 then iS7 else if k = 8 then iS8 else if k = 9 then iS9 else if k = 10 then iS10 else iS11, ?_⟩
    intro k q hq
    match k, hq with
    | 0, hq => cases hq; exact hKn0
    | 1, hq => cases hq; exact hKn1
    | 2, hq => cases hq; exact hKn2
    | 3, hq => cases hq; exact hKn3
    | 4, hq => cases hq; exact hKn4
    | 5, hq => cases hq; exact hKn5
    | 6, hq => cases hq; exact hKn6
    | 7, hq => cases hq; exact hKn7
    | 8, hq => cases hq; exact hKn8
    | 9, hq => cases hq; exact hKn9
    | 10, hq => cases hq; exact hKn10
    | 11, hq => cases hq; exact hKn11
    | k + 12, hq => simp [KC] at hq
  obtain ⟨a0, a01, a02⟩ := arr_of (ty := .int) (ht (.arrayClass .int) (by decide +kernel))
  obtain ⟨a1, a11, a12⟩ := arr_of (ty := .long) (ht (.arrayClass .long) (by decide +kernel))
  obtain ⟨a2, a21, a22⟩ := arr_of (ty := .byte) (ht (.arrayClass .byte) (by decide +kernel))
  obtain ⟨a3, a31, a32⟩ := arr_of (ty := .boolean) (ht (.arrayClass .boolean) (by decide +kernel))
  have ov4 : (Cond.arrayOver (.object "LearnedCount$Word")).before #[Value.ref b] s = true := ht _ (by decide +kernel)
  have ov5 : (Cond.arrayOver (.object "LearnedCount$Sheet")).before #[Value.ref b] s = true := ht _ (by decide +kernel)
  obtain ⟨a4, a41, a42⟩ := arr_ov ov4
  obtain ⟨a5, a51, a52⟩ := arr_ov ov5
  have hout : ∀ a : Nat, a < s.heap.size → ¬ (fun q : Nat => s.heap.size ≤ q) a := fun a h => Nat.not_le.mpr h
  obtain ⟨adK, adV, hS, hE⟩ := vk_Sof (args := #[Value.ref b]) (s := s) (N := 6) (tm := tmS) (len := slen) (byt := sbyt) (A := fun q : Nat => s.heap.size ≤ q) (by decide) (fun i hi => hs _ (mem6 (fun i => Cond.exactly (tmS i) "java/lang/String") (by decide +kernel) i hi)) (fun i hi => hs _ (mem6 (fun i => Cond.eq (.field (tmS i) "java/lang/String" "coder" "B") (.int 0)) (by decide +kernel) i hi)) (fun i hi => hs _ (mem6 (fun i => Cond.arrayOf (.field (tmS i) "java/lang/String" "value" "[B") .byte) (by decide +kernel) i hi)) (fun i hi => hs _ (mem6 (fun i => Cond.eq (.length (.field (tmS i) "java/lang/String" "value" "[B")) (.int (Int32.ofNat (slen.getD i 0)))) (by decide +kernel) i hi)) (fun i hi j hj => hs _ (mem6b i hi j hj)) (fun i j hi hj hij => mem6n hs i j hi hj hij) hout
  have z1 : va_Z "java/lang/String" "COMPACT_STRINGS" "Z" (.int 1) (fun q : Nat => s.heap.size ≤ q) s s.heap := va_Zof (ht (.laysStatic "java/lang/String" "COMPACT_STRINGS" "Z") (by decide +kernel)) (ht (.initialized "java/lang/String") (by decide +kernel)) (va_eqt (hs (.eq (.static "java/lang/String" "COMPACT_STRINGS" "Z") (.int 1)) (by decide +kernel))) hout
  have z2 := va_Zqof (A := fun q : Nat => s.heap.size ≤ q) (ht (.laysStatic "jdk/internal/util/Preconditions" "SIOOBE_FORMATTER" "Ljava/util/function/BiFunction;") (by decide +kernel)) (ht (.initialized "jdk/internal/util/Preconditions") (by decide +kernel)) (hs (.isRef (.static "jdk/internal/util/Preconditions" "SIOOBE_FORMATTER" "Ljava/util/function/BiFunction;")) (by decide +kernel)) hout
  obtain ⟨fo, z2⟩ : ∃ fo : Option Nat, va_Z "jdk/internal/util/Preconditions" "SIOOBE_FORMATTER" "Ljava/util/function/BiFunction;" (va_rf fo) (fun q : Nat => s.heap.size ≤ q) s s.heap := by
    rcases z2 with z2 | ⟨t, z2⟩
    · exact ⟨none, z2⟩
    · exact ⟨some t, z2⟩
  refine ⟨((dC, dI), (fun t => if t = 0 then a0 else if t = 1 then a1 else if t = 2 then a2 else if t = 3 then a3 else if t = 4 then a4 else a5), s.heap.size, adK, adV, b, fo), ⟨⟨hKc, fun k q hq => ?_⟩, fun q hq => ?_, ⟨va_AO.of ov4, va_AO.of ov5⟩, Nat.le_refl _, fun i hi => ?_, hS, ⟨z1, z2⟩, hX, hbl⟩, rfl, rfl⟩
  · match k, hq with
    | 0, hq => cases hq; exact ⟨a01, a02⟩
    | 1, hq => cases hq; exact ⟨a11, a12⟩
    | 2, hq => cases hq; exact ⟨a21, a22⟩
    | 3, hq => cases hq; exact ⟨a31, a32⟩
    | 4, hq => cases hq; exact ⟨a41, a42⟩
    | 5, hq => cases hq; exact ⟨a51, a52⟩
    | k + 6, hq => simp [tys] at hq
  · have hn : ∀ q ∈ nestl, Cond.methodLinkNest q.1 q.2.1 q.2.2.1 q.2.2.2 ∈ tables_1 := by decide +kernel
    exact va_tabs rfl rfl (ht _ (hn q hq))
  · have hn : ∀ i, i < 6 → Cond.stringRef (sO i) (sI i) (sX i) ∈ tables_1 := by decide +kernel
    exact vk_R.of (A := #[Value.ref b]) (ht _ (hn i hi)) (hE i hi)
