/-! ===== methods, memories, how a memory lies in the heap ===== -/
abbrev MI : Type := MethodName × ByteArray × Nat × Option FieldType × Nat × Nat × Nat × Nat
def mY (m : MI) : MethodName := m.1
def mB (m : MI) : ByteArray := m.2.1
def mL (m : MI) : Nat := m.2.2.1
def mT (m : MI) : Option FieldType := m.2.2.2.1
def mF (m : MI) : Nat := m.2.2.2.2.1
def mO (m : MI) : Nat := m.2.2.2.2.2.1
def mC (m : MI) : Nat := m.2.2.2.2.2.2.1
def mS (m : MI) : Nat := m.2.2.2.2.2.2.2
def mRoom (m : MI) : Room := { frames := mF m, cells := mC m, slots := mS m, locals := mO m }
def mW (m : MI) : List Cond := .code (mY m) (mB m) (mL m) (mT m) :: TG
/-- shape and the script's length; ints, longs, references -/
abbrev Mm : Type := (List Nat × Nat) × (Nat → Nat → Int32) × (Nat → Nat → Int64) × (Nat → Nat → Option Nat)
def gi (M : Mm) (a j : Nat) : Int32 := M.2.1 a j
def gl (M : Mm) (a j : Nat) : Int64 := M.2.2.1 a j
def gr (M : Mm) (a j : Nat) : Option Nat := M.2.2.2 a j
def up2 {α : Type} (f : Nat → Nat → α) (a j : Nat) (v : α) : Nat → Nat → α := fun b k => if b = a ∧ k = j then v else f b k
def si (M : Mm) (a j : Nat) (v : Int32) : Mm := (M.1, up2 M.2.1 a j v, M.2.2.1, M.2.2.2)
def sl (M : Mm) (a j : Nat) (v : Int64) : Mm := (M.1, M.2.1, up2 M.2.2.1 a j v, M.2.2.2)
def sr (M : Mm) (a j : Nat) (v : Option Nat) : Mm := (M.1, M.2.1, M.2.2.1, up2 M.2.2.2 a j v)
/-- a new cell of a kind: all its places 0, null -/
def nw (M : Mm) (k : Nat) : Mm := ((M.1.1 ++ [k], M.1.2), (fun a j => if a = 64 * M.1.1.length + k then 0 else M.2.1 a j), (fun a j => if a = 64 * M.1.1.length + k then 0 else M.2.2.1 a j), (fun a j => if a = 64 * M.1.1.length + k then none else M.2.2.2 a j))
/-- the machine's side: class numbers, array classes, the first own cell, the String constants and their bytes, the script -/
abbrev Ev : Type := va_G × (Nat → ClassId) × Nat × (Nat → Nat) × (Nat → Nat) × Nat × Option Nat
def eD (g : Ev) : va_G := g.1
def eA (g : Ev) : Nat → ClassId := g.2.1
def eb (g : Ev) : Nat := g.2.2.1
def eK (g : Ev) : Nat → Nat := g.2.2.2.1
def eV (g : Ev) : Nat → Nat := g.2.2.2.2.1
def es (g : Ev) : Nat := g.2.2.2.2.2.1
/-- a static reference of the JDK's of which nothing is known -/
def ef (g : Ev) : Option Nat := g.2.2.2.2.2.2
def fA (g : Ev) : Nat → Prop := fun q => eb g ≤ q
def ca (g : Ev) (r : Nat) : Nat := if r % 64 = 63 then eK g (r / 64) else if r % 64 = 62 then es g else if r % 64 = 61 then eV g (r / 64) else eb g + r / 64
def cz (g : Ev) (v : Value) : Value := match v with
  | .ref r => .ref (ca g r)
  | .retAddr _ => va_rf (ef g)
  | v => v
theorem cz_cat (g : Ev) (v : Value) : (cz g v).category = v.category := by
  cases v <;> first | rfl | (show (va_rf (ef g)).category = 1; cases ef g <;> rfl)
def isI (t : FieldType) : Bool := match t with
  | .int => true
  | .boolean => true
  | _ => false
def fv (g : Ev) (M : Mm) (c a j : Nat) : Value := if isI (kY c j) = true then .int (gi M a j) else va_rf ((gr M a j).map (ca g))
def ce (g : Ev) (M : Mm) (k a : Nat) : va_E := if k < 12 then .inr (k, (List.range (kN k)).map (fv g M k a)) else
  if (aK k).1 = 1 then .inl (eA g 1, (aK k).2, .inr (.inl (gl M a))) else
  if (aK k).1 < 4 then .inl (eA g (aK k).1, (aK k).2, .inl (gi M a)) else
  .inl (eA g (aK k).1, (aK k).2, .inr (.inr (.inr (.inr (fun j => (gr M a j).map (ca g))))))
def wl (g : Ev) (M : Mm) : va_W := M.1.1.mapIdx (fun k d => (eb g + k, ce g M d (64 * k + d)))
def HR (g : Ev) (M : Mm) (H : Heap) : Prop := H.size = eb g + M.1.1.length ∧ va_P (eD g) KC (wl g M) H
def okA (M : Mm) (r : Nat) : Prop := M.1.1[r / 64]? = some (r % 64)
def WF (M : Mm) : Prop := (∀ d ∈ M.1.1, d < 61) ∧ ∀ a j r, gr M a j = some r → okA M r ∧ r % 64 = rK (a % 64) j
def okv (M : Mm) (v : Value) : Prop := match v with
  | .ref r => ((r % 64 = 63 ∨ r % 64 = 61) ∧ r / 64 < 6) ∨ r = 62 ∨ okA M r
  | _ => True
def okr (M : Mm) (r : Option Value) : Prop := ∀ v ∈ r.toList, okv M v
/-- what a run keeps: the shape grows, the script stays -/
def KM (M N : Mm) : Prop := (∃ e, N.1.1 = M.1.1 ++ e) ∧ N.1.2 = M.1.2 ∧ ∀ j, gi N 62 j = gi M 62 j
theorem km_rf (M : Mm) : KM M M := ⟨⟨[], by simp⟩, rfl, fun _ => rfl⟩
theorem km_tr {M N O : Mm} (h : KM M N) (k : KM N O) : KM M O := by
  obtain ⟨⟨e, h1⟩, h2, h3⟩ := h
  obtain ⟨⟨f, k1⟩, k2, k3⟩ := k
  exact ⟨⟨e ++ f, by rw [k1, h1, List.append_assoc]⟩, k2.trans h2, fun j => (k3 j).trans (h3 j)⟩
theorem km_ok {M N : Mm} (h : KM M N) {r : Nat} (k : okA M r) : okA N r := by
  obtain ⟨⟨e, h1⟩, -⟩ := h
  unfold okA at k ⊢
  rw [h1, List.getElem?_append_left (List.getElem?_eq_some_iff.mp k).1]
  exact k
theorem km_okv {M N : Mm} (h : KM M N) {v : Value} (k : okv M v) : okv N v := by
  cases v with
  | ref r =>
    rcases k with k | k | k
    · exact Or.inl k
    · exact Or.inr (Or.inl k)
    · exact Or.inr (Or.inr (km_ok h k))
  | _ => trivial
theorem ok_kd {M : Mm} (hw : WF M) {r : Nat} (h : okA M r) : r % 64 < 61 := hw.1 _ (List.mem_of_getElem? h)
theorem ca_ok {M : Mm} {g : Ev} (hw : WF M) {r : Nat} (h : okA M r) : ca g r = eb g + r / 64 := by
  have := ok_kd hw h
  unfold ca
  rw [if_neg (by omega), if_neg (by omega), if_neg (by omega)]
theorem wl_at {g : Ev} {M : Mm} {r : Nat} (h : okA M r) : (wl g M)[r / 64]? = some (eb g + r / 64, ce g M (r % 64) r) := by
  unfold wl
  rw [List.getElem?_mapIdx, show M.1.1[r / 64]? = some (r % 64) from h]
  simp only [Option.map_some]
  rw [show 64 * (r / 64) + r % 64 = r by omega]
theorem wl_D (g : Ev) (M : Mm) : va_D (fA g) (wl g M) := by
  have key : ∀ (i : Nat) (q : Nat × va_E), (wl g M)[i]? = some q → q.1 = eb g + i := by
    intro i q h
    unfold wl at h
    rw [List.getElem?_mapIdx] at h
    cases hm : M.1.1[i]? with
    | none => rw [hm] at h; cases h
    | some d => rw [hm] at h; cases h; rfl
  refine ⟨fun i j x y hx hy e => ?_, fun k q h => ?_⟩
  · have := key i x hx
    have := key j y hy
    omega
  · have := key k q h
    show eb g ≤ q.1
    omega
theorem wl_set {g : Ev} {M N : Mm} {a : Nat} {e : va_E} (hw : WF M) (h : okA M a) (hs : N.1.1 = M.1.1) (hI : ∀ b, b ≠ a → gi N b = gi M b ∧ gl N b = gl M b ∧ gr N b = gr M b) (he : e = ce g N (a % 64) a) : (wl g M).set (a / 64) (eb g + a / 64, e) = wl g N := by
  have hl : a / 64 < (wl g M).length := (List.getElem?_eq_some_iff.mp (wl_at (g := g) h)).1
  have hN : okA N a := by unfold okA; rw [hs]; exact h
  apply List.ext_getElem?
  intro i
  by_cases hi : i = a / 64
  · subst hi
    rw [List.getElem?_set_self hl, wl_at hN, he]
  · rw [List.getElem?_set_ne (Ne.symm hi)]
    unfold wl
    rw [List.getElem?_mapIdx, List.getElem?_mapIdx, hs]
    cases hm : M.1.1[i]? with
    | none => rfl
    | some d =>
      have hd := hw.1 d (List.mem_of_getElem? hm)
      obtain ⟨h1, h2, h3⟩ := hI (64 * i + d) (fun q => hi (by omega))
      have : fv g N d (64 * i + d) = fv g M d (64 * i + d) := by
        funext j
        simp only [fv, h1, h3]
      simp only [Option.map_some, ce, h1, h2, h3, this]
theorem range_set {α : Type} (f f' : Nat → α) (n j : Nat) (v : α) (h : f' = fun k => if k = j then v else f k) : ((List.range n).map f).set j v = (List.range n).map f' := by
  apply List.ext_getElem?
  intro i
  by_cases hi : i = j
  · subst hi
    by_cases hl : i < n
    · rw [List.getElem?_set_self (by simpa using hl)]
      simp [hl, h]
    · rw [List.getElem?_eq_none (by simpa using Nat.le_of_not_lt hl), List.getElem?_eq_none (by simpa using Nat.le_of_not_lt hl)]
  · rw [List.getElem?_set_ne (Ne.symm hi)]
    by_cases hl : i < n
    · simp [h, hi, hl]
    · rw [List.getElem?_eq_none (by simpa using Nat.le_of_not_lt hl), List.getElem?_eq_none (by simpa using Nat.le_of_not_lt hl)]
theorem up2_ne {α : Type} {f : Nat → Nat → α} {a j : Nat} {v : α} {b : Nat} (h : b ≠ a) : up2 f a j v b = f b := by
  funext k
  simp [up2, h]
theorem up2_at {α : Type} {f : Nat → Nat → α} {a j : Nat} {v : α} : up2 f a j v a = fun k => if k = j then v else f a k := by
  funext k
  simp [up2]
theorem gi_ne {M : Mm} {a j b : Nat} {v : Int32} (h : b ≠ a) : gi (si M a j v) b = gi M b := up2_ne h
theorem gi_at {M : Mm} {a j : Nat} {v : Int32} : gi (si M a j v) a = fun k => if k = j then v else gi M a k := up2_at
theorem gl_ne {M : Mm} {a j b : Nat} {v : Int64} (h : b ≠ a) : gl (sl M a j v) b = gl M b := up2_ne h
theorem gl_at {M : Mm} {a j : Nat} {v : Int64} : gl (sl M a j v) a = fun k => if k = j then v else gl M a k := up2_at
theorem gr_ne {M : Mm} {a j b : Nat} {v : Option Nat} (h : b ≠ a) : gr (sr M a j v) b = gr M b := up2_ne h
theorem gr_at {M : Mm} {a j : Nat} {v : Option Nat} : gr (sr M a j v) a = fun k => if k = j then v else gr M a k := up2_at
theorem km_si {M : Mm} {a j : Nat} {v : Int32} (h : a ≠ 62) : KM M (si M a j v) := ⟨⟨[], by simp [si]⟩, rfl, fun k => by rw [gi_ne (Ne.symm h)]⟩
theorem km_sl {M : Mm} {a j : Nat} {v : Int64} : KM M (sl M a j v) := ⟨⟨[], by simp [sl]⟩, rfl, fun k => rfl⟩
theorem km_sr {M : Mm} {a j : Nat} {v : Option Nat} : KM M (sr M a j v) := ⟨⟨[], by simp [sr]⟩, rfl, fun k => rfl⟩
theorem wf_si {M : Mm} {a j : Nat} {v : Int32} (h : WF M) : WF (si M a j v) := h
theorem wf_sl {M : Mm} {a j : Nat} {v : Int64} (h : WF M) : WF (sl M a j v) := h
theorem wf_sr {M : Mm} {a j r : Nat} (h : WF M) (hr : okA M r) (hk : r % 64 = rK (a % 64) j) : WF (sr M a j (some r)) := by
  refine ⟨h.1, fun b k q hq => ?_⟩
  by_cases hb : b = a ∧ k = j
  · obtain ⟨rfl, rfl⟩ := hb
    have : some r = some q := by simpa [gr, sr, up2] using hq
    cases this
    exact ⟨hr, hk⟩
  · have : gr M b k = some q := by
      have e : gr (sr M a j (some r)) b k = gr M b k := by simp only [gr, sr, up2, if_neg hb]
      rw [← e]; exact hq
    exact h.2 b k q this
/-! the world behind a store -/
theorem wl_putI {g : Ev} {M : Mm} {a j : Nat} {v : Int32} (hw : WF M) (h : okA M a) (hc : a % 64 < 12) (ht : isI (kY (a % 64) j) = true) : (wl g M).set (a / 64) (eb g + a / 64, .inr (a % 64, ((List.range (kN (a % 64))).map (fv g M (a % 64) a)).set j (.int v))) = wl g (si M a j v) := by
  refine wl_set hw h rfl (fun b hb => ⟨gi_ne hb, rfl, rfl⟩) ?_
  unfold ce
  rw [if_pos hc]
  congr 2
  refine range_set _ _ _ _ _ ?_
  funext k
  unfold fv
  by_cases hk : k = j
  · subst hk
    rw [if_pos ht, if_pos rfl, gi_at]
    simp
  · rw [if_neg hk, gi_at]
    simp only [if_neg hk]
    rfl
theorem wl_putR {g : Ev} {M : Mm} {a j r : Nat} (hw : WF M) (h : okA M a) (hc : a % 64 < 12) (ht : isI (kY (a % 64) j) = false) : (wl g M).set (a / 64) (eb g + a / 64, .inr (a % 64, ((List.range (kN (a % 64))).map (fv g M (a % 64) a)).set j (.ref (ca g r)))) = wl g (sr M a j (some r)) := by
  refine wl_set hw h rfl (fun b hb => ⟨rfl, rfl, gr_ne hb⟩) ?_
  unfold ce
  rw [if_pos hc]
  congr 2
  refine range_set _ _ _ _ _ ?_
  funext k
  unfold fv
  by_cases hk : k = j
  · subst hk
    rw [if_neg (by rw [ht]; decide), if_pos rfl, gr_at]
    simp [va_rf]
  · rw [if_neg hk, gr_at]
    simp only [if_neg hk]
    rfl
theorem ce_I {g : Ev} {M : Mm} {k a : Nat} (hc : ¬ k < 12) (h1 : (aK k).1 ≠ 1) (h4 : (aK k).1 < 4) : ce g M k a = .inl (eA g (aK k).1, (aK k).2, .inl (gi M a)) := by
  unfold ce
  rw [if_neg hc, if_neg h1, if_pos h4]
theorem ce_L {g : Ev} {M : Mm} {k a : Nat} (hc : ¬ k < 12) (h1 : (aK k).1 = 1) : ce g M k a = .inl (eA g 1, (aK k).2, .inr (.inl (gl M a))) := by
  unfold ce
  rw [if_neg hc, if_pos h1]
theorem ce_R {g : Ev} {M : Mm} {k a : Nat} (hc : ¬ k < 12) (h1 : (aK k).1 ≠ 1) (h4 : ¬ (aK k).1 < 4) : ce g M k a = .inl (eA g (aK k).1, (aK k).2, .inr (.inr (.inr (.inr (fun j => (gr M a j).map (ca g)))))) := by
  unfold ce
  rw [if_neg hc, if_neg h1, if_neg h4]
theorem ce_O {g : Ev} {M : Mm} {k a : Nat} (hc : k < 12) : ce g M k a = .inr (k, (List.range (kN k)).map (fv g M k a)) := by
  unfold ce
  rw [if_pos hc]
theorem wl_astI {g : Ev} {M : Mm} {a j : Nat} {v : Int32} (hw : WF M) (h : okA M a) (hc : ¬ a % 64 < 12) (h1 : (aK (a % 64)).1 ≠ 1) (h4 : (aK (a % 64)).1 < 4) : (wl g M).set (a / 64) (eb g + a / 64, .inl (eA g (aK (a % 64)).1, (aK (a % 64)).2, .inl (upd (gi M a) j v))) = wl g (si M a j v) := by
  refine wl_set hw h rfl (fun b hb => ⟨gi_ne hb, rfl, rfl⟩) ?_
  rw [ce_I hc h1 h4, gi_at]
  rfl
theorem wl_astL {g : Ev} {M : Mm} {a j : Nat} {v : Int64} (hw : WF M) (h : okA M a) (hc : ¬ a % 64 < 12) (h1 : (aK (a % 64)).1 = 1) : (wl g M).set (a / 64) (eb g + a / 64, .inl (eA g 1, (aK (a % 64)).2, .inr (.inl (vp_updL (gl M a) j v)))) = wl g (sl M a j v) := by
  refine wl_set hw h rfl (fun b hb => ⟨rfl, gl_ne hb, rfl⟩) ?_
  rw [ce_L hc h1, gl_at]
  rfl
theorem wl_astR {g : Ev} {M : Mm} {a j r : Nat} (hw : WF M) (h : okA M a) (hc : ¬ a % 64 < 12) (h1 : (aK (a % 64)).1 ≠ 1) (h4 : ¬ (aK (a % 64)).1 < 4) : (wl g M).set (a / 64) (eb g + a / 64, .inl (eA g (aK (a % 64)).1, (aK (a % 64)).2, .inr (.inr (.inr (.inr (va_up (fun j => (gr M a j).map (ca g)) j (some (ca g r)))))))) = wl g (sr M a j (some r)) := by
  refine wl_set hw h rfl (fun b hb => ⟨rfl, rfl, gr_ne hb⟩) ?_
  have e : va_up (fun j => (gr M a j).map (ca g)) j (some (ca g r)) = fun k => (gr (sr M a j (some r)) a k).map (ca g) := by
    rw [gr_at]
    funext k
    unfold va_up
    by_cases hk : k = j
    · simp [hk]
    · simp [hk]
  rw [ce_R hc h1 h4, e]
