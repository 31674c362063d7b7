section ROWS2
variable {m : MI} {pc : Nat} {L : List (Nat × Value)} {S : List Value} {M : Mm} {b : Nat × Nat} {Q : Option Value → Mm → Prop}
theorem kd_ne62 {a k : Nat} (h : a % 64 = k) (hk : k < 61) : a ≠ 62 := fun e => by subst e; omega
theorem in_lt {i : Int32} {n : Nat} (h : vp_in i n) : i.toNatClampNeg < n := Nat.not_le.mp fun q => h (Or.inr q)
theorem x_astI {a k t n : Nat} {ins : Instr} {i x v : Int32} (ht : (t = 0 ∧ ins = .iastore ∧ v = x) ∨ (t = 2 ∧ ins = .bastore ∧ v = vp_nar .byte x) ∨ (t = 3 ∧ ins = .bastore ∧ v = vp_nar .boolean x)) (hd : decode (mB m) pc = .ok (ins, 1)) (ha : a % 64 = k) (hk : AK k t n) (hi : vp_in i n) (h : X m (pc + 1) L S (si M a i.toNatClampNeg v) b Q) : X m pc L (.int x :: .int i :: .ref a :: S) M b Q := by
  intro g p l e R s mid args below meth cc Z C hR H locs cells slots ls hH hw hL hS hl2 hss hc hc2
  obtain ⟨k1, k2, k3, k4⟩ := hk
  have hA : okA M a := okA_of ((tl (tl hS)) _ List.mem_cons_self) (by omega)
  have hkm : KM M (si M a i.toNatClampNeg v) := km_si (kd_ne62 ha k2)
  show W p l e R s mid args below meth cc H locs cells slots Z (F0 mid pc ls (.int x :: .int i :: .ref (ca g a) :: S.map (cz g)))
  rw [ca_ok hw hA]
  have t1 : (aK k).1 ≠ 1 := by rw [k3]; show t ≠ 1; rcases ht with h | h | h <;> omega
  have t4 : (aK k).1 < 4 := by rw [k3]; show t < 4; rcases ht with h | h | h <;> omega
  have hat : va_at (eD g) KC (eb g + a / 64, .inl (eA g t, n, .inl (gi M a))) H := hH.2 (a / 64) _ (by rw [wl_at hA, ha, ce_I k1 t1 t4, k3])
  have hcell : H[eb g + a / 64]? = some (arrV (eA g t) n (fun j => .int (gi M a j))) := hat
  have hsz : ¬ (i < 0 ∨ (arrV (eA g t) n (fun j => .int (gi M a j))).slots.size ≤ i.toNatClampNeg) := by rw [arrV_size]; exact hi
  have fin : ∀ (H1 : Heap), H1[eb g + a / 64]? = some ((arrV (eA g t) n (fun j => .int (gi M a j))).setSlot i.toNatClampNeg (.int v)) → H1.size = H.size → (∀ q, q ≠ eb g + a / 64 → H1[q]? = H[q]?) → W p l e R s mid args below meth cc H1 (locs ++ [⟨eb g + a / 64, i.toNatClampNeg⟩]) cells slots Z (F0 mid (pc + 1) ls (S.map (cz g))) := by
    intro H1 e1 z oq
    refine h g p l e R s mid args below meth cc Z (cx_km hkm C) (rt_km hkm hR) H1 _ cells slots ls (hr_set hH hw hA rfl (fun b hb => ⟨gi_ne hb, rfl, rfl⟩) z oq ?_) (wf_si hw) (ls_ok hkm hL) (st_ok hkm (tl (tl (tl hS)))) hl2 (hss.put z oq fA_a) hc hc2
    rw [ha, ce_I k1 t1 t4, k3]
    show H1[eb g + a / 64]? = some (arrV (eA g t) n (fun j => .int (gi (si M a i.toNatClampNeg v) a j)))
    rw [e1, arrV_store, gi_at]
    congr 2
    funext q
    by_cases hq : q = i.toNatClampNeg
    · subst hq; simp [updV]
    · simp [updV, hq]
  have hK := C.2.2.2.2.2.2.2.1
  have hAr := arr_at (t := t) hK k4 n (fun j => .int (gi M a j))
  rcases ht with ⟨rfl, rfl, rfl⟩ | ⟨rfl, rfl, rfl⟩ | ⟨rfl, rfl, rfl⟩
  · exact W.iast C.1 C.2.1 hcell hAr (fun q => by cases q) hsz rfl rfl hd fin
  · exact W.bast C.1 C.2.1 hcell hAr (fun q => by cases q) hsz rfl rfl hd fin
  · exact W.zast C.1 C.2.1 hcell hAr (fun q => by cases q) hsz rfl rfl hd fin
theorem x_astL {a k n : Nat} {i : Int32} {x : Int64} (hd : decode (mB m) pc = .ok (.lastore, 1)) (ha : a % 64 = k) (hk : AK k 1 n) (hi : vp_in i n) (h : X m (pc + 1) L S (sl M a i.toNatClampNeg x) b Q) : X m pc L (.long x :: .int i :: .ref a :: S) M b Q := by
  intro g p l e R s mid args below meth cc Z C hR H locs cells slots ls hH hw hL hS hl2 hss hc hc2
  obtain ⟨k1, k2, k3, k4⟩ := hk
  have hA : okA M a := okA_of ((tl (tl hS)) _ List.mem_cons_self) (by omega)
  have hkm : KM M (sl M a i.toNatClampNeg x) := km_sl
  show W p l e R s mid args below meth cc H locs cells slots Z (F0 mid pc ls (.long x :: .int i :: .ref (ca g a) :: S.map (cz g)))
  rw [ca_ok hw hA]
  have t1 : (aK k).1 = 1 := by rw [k3]
  have hat : va_at (eD g) KC (eb g + a / 64, .inl (eA g 1, n, .inr (.inl (gl M a)))) H := hH.2 (a / 64) _ (by rw [wl_at hA, ha, ce_L k1 t1, k3])
  have hcell : H[eb g + a / 64]? = some (arrV (eA g 1) n (fun j => .long (gl M a j))) := hat
  have hsz : ¬ (i < 0 ∨ (arrV (eA g 1) n (fun j => .long (gl M a j))).slots.size ≤ i.toNatClampNeg) := by rw [arrV_size]; exact hi
  have hAr := arr_at (t := 1) C.2.2.2.2.2.2.2.1 k4 n (fun j => .long (gl M a j))
  refine W.last C.1 C.2.1 hcell hAr (fun q => by cases q) hsz rfl rfl hd (fun H1 e1 z oq => ?_)
  refine h g p l e R s mid args below meth cc Z (cx_km hkm C) (rt_km hkm hR) H1 _ cells slots ls (hr_set hH hw hA rfl (fun b hb => ⟨rfl, gl_ne hb, rfl⟩) z oq ?_) (wf_sl hw) (ls_ok hkm hL) (st_ok hkm (tl (tl (tl hS)))) hl2 (hss.put z oq fA_a) hc hc2
  rw [ha, ce_L k1 t1, k3]
  show H1[eb g + a / 64]? = some (arrV (eA g 1) n (fun j => .long (gl (sl M a i.toNatClampNeg x) a j)))
  rw [e1, arrV_store, gl_at]
  congr 2
  funext q
  by_cases hq : q = i.toNatClampNeg
  · subst hq; simp [updV]
  · simp [updV, hq]
/-- an array of references gets an object of its own class -/
theorem x_astR {a k t n r c : Nat} {i : Int32} (ht : (t = 4 ∧ c = 9) ∨ (t = 5 ∧ c = 5)) (hd : decode (mB m) pc = .ok (.aastore, 1)) (ha : a % 64 = k) (hk : AK k t n) (hr : r % 64 = c) (hrk : rK k i.toNatClampNeg = c) (hi : vp_in i n) (h : X m (pc + 1) L S (sr M a i.toNatClampNeg (some r)) b Q) : X m pc L (.ref r :: .int i :: .ref a :: S) M b Q := by
  intro g p l e R s mid args below meth cc Z C hR H locs cells slots ls hH hw hL hS hl2 hss hc hc2
  obtain ⟨k1, k2, k3, k4⟩ := hk
  have h12 : c < 12 := by omega
  have hA : okA M a := okA_of ((tl (tl hS)) _ List.mem_cons_self) (by omega)
  have hA2 : okA M r := okA_of (hS _ List.mem_cons_self) (by omega)
  have hkm : KM M (sr M a i.toNatClampNeg (some r)) := km_sr
  show W p l e R s mid args below meth cc H locs cells slots Z (F0 mid pc ls (.ref (ca g r) :: .int i :: .ref (ca g a) :: S.map (cz g)))
  rw [ca_ok hw hA]
  have hcr : ca g r = eb g + r / 64 := ca_ok hw hA2
  have t1 : (aK k).1 ≠ 1 := by rw [k3]; show t ≠ 1; omega
  have t4 : ¬ (aK k).1 < 4 := by rw [k3]; show ¬ t < 4; omega
  have hat : va_at (eD g) KC (eb g + a / 64, .inl (eA g t, n, .inr (.inr (.inr (.inr (fun j => (gr M a j).map (ca g))))))) H := hH.2 (a / 64) _ (by rw [wl_at hA, ha, ce_R k1 t1 t4, k3])
  have hcell : H[eb g + a / 64]? = some (arrV (eA g t) n (fun j => va_rf ((gr M a j).map (ca g)))) := hat
  have h0 : ¬ i < 0 := fun q => hi (Or.inl q)
  obtain ⟨r', hr', cellV, g1, g2, g3, -⟩ := hH.2 (r / 64) _ (by rw [wl_at hA2, hr, ce_O h12])
  have hK := C.2.2.2.2.2.2.2.1
  have hcls := (hK.1 c _ (k_c h12)).2
  have hRA : ∃ (kA : Class) (comp : ClassId), s.vm.classes[eA g t]? = some kA ∧ kA.kind = .array comp (.object (kC c)) ∧ s.vm.findClass (kC c) = some comp := by
    rcases ht with ⟨rfl, rfl⟩ | ⟨rfl, rfl⟩
    · obtain ⟨kA, comp, q1, q2, q3, -⟩ := (hK.2 4 _ (ty_at g k4)).2
      exact ⟨kA, comp, q1, q2, q3⟩
    · obtain ⟨kA, comp, q1, q2, q3, -⟩ := (hK.2 5 _ (ty_at g k4)).2
      exact ⟨kA, comp, q1, q2, q3⟩
  obtain ⟨kA, comp, q1, q2, q3⟩ := hRA
  have hcomp : comp = (eD g).1 c := Option.some.inj (q3.symm.trans hcls.1)
  subst hcomp
  obtain ⟨kC', hkC, -⟩ := hcls.2
  rw [hcr]
  refine W.aast C.1 C.2.1 hcell (fun q h => by cases h) (fun h => by cases h) q1 q2 rfl hkC ⟨h0, by rw [arrV_size]; exact in_lt hi⟩ g1 (fun q h => by rw [g3] at h; cases h) (by rw [g2]; exact hkC) (by rw [g2]; exact va_assign hcls) rfl rfl hd fun H1 e1 z oq => ?_
  refine h g p l e R s mid args below meth cc Z (cx_km hkm C) (rt_km hkm hR) H1 _ cells slots ls (hr_set hH hw hA rfl (fun b hb => ⟨rfl, rfl, gr_ne hb⟩) z oq ?_) (wf_sr hw hA2 (by rw [ha, hrk]; exact hr)) (ls_ok hkm hL) (st_ok hkm (tl (tl (tl hS)))) hl2 (hss.put z oq fA_a) hc hc2
  rw [ha, ce_R k1 t1 t4, k3]
  show H1[eb g + a / 64]? = some (arrV (eA g t) n (fun j => va_rf ((gr (sr M a i.toNatClampNeg (some r)) a j).map (ca g))))
  rw [e1, arrV_store, gr_at]
  congr 2
  funext q
  by_cases hq : q = i.toNatClampNeg
  · subst hq; simp [updV, va_rf, hcr]
  · simp [updV, hq]
/-! the script -/
theorem x_sld {i : Int32} (hd : decode (mB m) pc = .ok (.iaload, 1)) (hi : vp_in i M.1.2) (h : X m (pc + 1) L (.int (gi M 62 i.toNatClampNeg) :: S) M b Q) : X m pc L (.int i :: .ref 62 :: S) M b Q := by
  intro g p l e R s mid args below meth cc Z C hR H locs cells slots ls hH hw hL hS hl2 hss hc hc2
  have K := h g p l e R s mid args below meth cc Z C hR H locs cells slots ls hH hw hL (ok1 (tl (tl hS)) trivial) hl2 hss hc hc2
  obtain ⟨-, -, -, q4, -, -, -, q8, q9⟩ := C.2.2.2.2.2.2.2
  exact va_sld C.1 C.2.1 q8 (Nat.lt_of_lt_of_le q9 q4) (Nat.not_le.mpr q9) hss hi hd K
theorem x_slen (hd : decode (mB m) pc = .ok (.arraylength, 1)) (h : X m (pc + 1) L (.int (Int32.ofNat M.1.2) :: S) M b Q) : X m pc L (.ref 62 :: S) M b Q := by
  intro g p l e R s mid args below meth cc Z C hR H locs cells slots ls hH hw hL hS hl2 hss hc hc2
  have K := h g p l e R s mid args below meth cc Z C hR H locs cells slots ls hH hw hL (ok1 (tl hS) trivial) hl2 hss hc hc2
  obtain ⟨-, -, -, q4, -, -, -, q8, q9⟩ := C.2.2.2.2.2.2.2
  exact va_slen C.1 C.2.1 q8 (Nat.lt_of_lt_of_le q9 q4) (Nat.not_le.mpr q9) hss hd K
/-! new cells -/
theorem nw_ok {k : Nat} (hk : k < 61) : okA (nw M k) (64 * M.1.1.length + k) := by
  unfold okA
  rw [show (64 * M.1.1.length + k) / 64 = M.1.1.length by omega, show (64 * M.1.1.length + k) % 64 = k by omega]
  show (M.1.1 ++ [k])[M.1.1.length]? = some k
  simp
theorem nw_old {k a : Nat} (h : a ≠ 64 * M.1.1.length + k) : gi (nw M k) a = gi M a ∧ gl (nw M k) a = gl M a ∧ gr (nw M k) a = gr M a := by
  refine ⟨?_, ?_, ?_⟩ <;> (funext j; simp [gi, gl, gr, nw, h])
theorem nw_km {k : Nat} (h : M.1.1 ≠ []) : KM M (nw M k) := by
  refine ⟨⟨[k], rfl⟩, rfl, fun j => ?_⟩
  have : 0 < M.1.1.length := List.length_pos_iff.mpr h
  rw [(nw_old (M := M) (k := k) (a := 62) (by omega)).1]
theorem nw_km2 {k : Nat} (hk : k < 61) : KM M (nw M k) := by
  refine ⟨⟨[k], rfl⟩, rfl, fun j => ?_⟩
  rw [(nw_old (M := M) (k := k) (a := 62) (by omega)).1]
theorem nw_wf {k : Nat} (hk : k < 61) (h : WF M) : WF (nw M k) := by
  refine ⟨fun d hd => ?_, fun a j r hr => ?_⟩
  · rcases List.mem_append.mp (show d ∈ M.1.1 ++ [k] from hd) with h1 | h1
    · exact h.1 d h1
    · rw [List.mem_singleton.mp h1]; exact hk
  · by_cases ha : a = 64 * M.1.1.length + k
    · simp [gr, nw, ha] at hr
    · rw [(nw_old ha).2.2] at hr
      obtain ⟨h1, h2⟩ := h.2 a j r hr
      exact ⟨km_ok (nw_km2 hk) h1, h2⟩
theorem nw_hr {g : Ev} {H H1 : Heap} {k : Nat} (hk : k < 61) (hw : WF M) (hH : HR g M H) (hz : H1.size = H.size + 1) (oq : ∀ q : Nat, q < H.size → H1[q]? = H[q]?) (hat : va_at (eD g) KC (H.size, ce g (nw M k) k (64 * M.1.1.length + k)) H1) : HR g (nw M k) H1 := by
  have hl : (nw M k).1.1.length = M.1.1.length + 1 := by show (M.1.1 ++ [k]).length = _; simp
  refine ⟨by rw [hz, hl, hH.1]; omega, fun i q hq => ?_⟩
  unfold wl at hq
  rw [List.getElem?_mapIdx] at hq
  have e1 : (nw M k).1.1[i]? = (M.1.1 ++ [k])[i]? := rfl
  rw [e1] at hq
  by_cases hi : i < M.1.1.length
  · rw [List.getElem?_append_left hi] at hq
    cases hd : M.1.1[i]? with
    | none => rw [hd] at hq; cases hq
    | some d =>
      rw [hd] at hq
      have hd2 := hw.1 d (List.mem_of_getElem? hd)
      obtain ⟨h1, h2, h3⟩ := nw_old (M := M) (k := k) (a := 64 * i + d) (by omega)
      have e2 : ce g (nw M k) d (64 * i + d) = ce g M d (64 * i + d) := by
        have : fv g (nw M k) d (64 * i + d) = fv g M d (64 * i + d) := by
          funext j
          simp only [fv, h1, h3]
        simp only [ce, h1, h2, h3, this]
      cases hq
      show va_at (eD g) KC (eb g + i, ce g (nw M k) d (64 * i + d)) H1
      rw [e2]
      refine va_at.kept (hH.2 i _ ?_) (oq _ (by show eb g + i < H.size; rw [hH.1]; omega))
      unfold wl
      rw [List.getElem?_mapIdx, hd]
      rfl
  · rw [List.getElem?_append_right (by omega)] at hq
    have hz2 : i - M.1.1.length < 1 := by
      cases hc : ([k] : List Nat)[i - M.1.1.length]? with
      | none => rw [hc] at hq; cases hq
      | some d => exact (List.getElem?_eq_some_iff.mp hc).1
    have : i = M.1.1.length := by omega
    subst this
    rw [show M.1.1.length - M.1.1.length = 0 by omega] at hq
    cases hq
    rw [← hH.1]
    exact hat
theorem nw_S {g : Ev} {H0 H H1 : Heap} {locs : List Loc} (h : va_S (fA g) H0 H locs) (hz : H1.size = H.size + 1) (oq : ∀ q : Nat, q < H.size → H1[q]? = H[q]?) : va_S (fA g) H0 H1 locs := ⟨Nat.le_trans h.1 (by omega), fun x h1 h2 => (oq x (Nat.lt_of_lt_of_le h1 h.1)).trans (h.2.1 x h1 h2), h.2.2⟩
theorem nw_at0 {k : Nat} (a : Nat) (ha : a = 64 * M.1.1.length + k) : gi (nw M k) a = (fun _ => 0) ∧ gl (nw M k) a = (fun _ => 0) ∧ gr (nw M k) a = (fun _ => none) := by
  subst ha
  refine ⟨?_, ?_, ?_⟩ <;> (funext j; simp [gi, gl, gr, nw])
theorem dv_fv (g : Ev) {c j : Nat} (h : c < 12) (hj : j < kN c) (a : Nat) (ha : a = 64 * M.1.1.length + c) : defaultValue (kY c j) = fv g (nw M c) c a j := by
  obtain ⟨h1, -, h3⟩ := nw_at0 (M := M) (k := c) a ha
  unfold fv
  rw [h1, h3]
  have key : (isI (kY c j) = true → defaultValue (kY c j) = .int 0) ∧ (isI (kY c j) = false → defaultValue (kY c j) = .null) := by
    have : ∀ c, c < 12 → ∀ j, j < kN c → (isI (kY c j) = true → defaultValue (kY c j) = .int 0) ∧ (isI (kY c j) = false → defaultValue (kY c j) = .null) := by decide +kernel
    exact this c h j hj
  by_cases hI : isI (kY c j) = true
  · rw [if_pos hI]; exact key.1 hI
  · rw [if_neg hI]; exact key.2 (by simpa using hI)
theorem x_new {i c : Nat} {b1 b2 : Nat} (hd : decode (mB m) pc = .ok (.new i, 3)) (h12 : c < 12) (hl : Cond.classLink (mY m).cls i (kC c) ∈ TG) (h : X m (pc + 3) L (.ref (64 * M.1.1.length + c) :: S) (nw M c) (b1, b2) Q) : X m pc L S M (b1 + 1, b2 + kN c) Q := by
  intro g p l e R s mid args below meth cc Z C hR H locs cells slots ls hH hw hL hS hl2 hss hc hc2
  have hkm : KM M (nw M c) := nw_km2 (by omega)
  have hts := C.2.2.2.2.1
  have hK := C.2.2.2.2.2.2.2.1
  have hKn := hK.1 c _ (k_c h12)
  have hRm := C.2.2.2.2.2.1
  have hc' : cells + (b1 + 1) ≤ mC m := hc
  have hc2' : slots + (b2 + kN c) ≤ mS m := hc2
  refine W.newcK C.1 C.2.1 C.2.2.2.1 (hts _ hl) (hts _ (k_ins h12)) (hts _ (k_ini h12)) rfl hd (by omega) (by omega) hKn.2.1 rfl fun H1 kC' hkC e1 z1 o1 => ?_
  have hA : okA (nw M c) (64 * M.1.1.length + c) := nw_ok (by omega)
  have hwn := nw_wf (M := M) (k := c) (by omega) hw
  have e3 : cz g (.ref (64 * M.1.1.length + c)) = .ref H.size := by
    show Value.ref (ca g _) = _
    rw [ca_ok hwn hA, show (64 * M.1.1.length + c) / 64 = M.1.1.length by omega, hH.1]
  have K := h g p l e R s mid args below meth cc Z (cx_km hkm C) (rt_km hkm hR) H1 locs (cells + 1) (slots + kN c) ls (nw_hr (by omega) hw hH z1 o1 ?_) hwn (ls_ok hkm hL) (ok1 (st_ok hkm hS) (Or.inr (Or.inr hA))) hl2 (nw_S hss z1 o1) (by show cells + 1 + b1 ≤ _; omega) (by show slots + kN c + b2 ≤ _; omega)
  · rw [List.map_cons, e3] at K
    exact K
  · rw [ce_O h12]
    refine ⟨_, k_c h12, (u_born (kY c) hts (k_i h12) hKn hkC e1 (k_p h12)).to (fun j hj => ?_)⟩
    rw [dv_fv (M := M) g h12 hj _ rfl]
    simp [vp_V, hj]
theorem x_newa {k t n : Nat} {at0 : ArrayType} {v : Int32} {b1 b2 : Nat} (hd : decode (mB m) pc = .ok (.newarray at0, 2)) (hk : AK k t n) (ht : (t = 0 ∧ at0 = .int) ∨ (t = 1 ∧ at0 = .long) ∨ (t = 2 ∧ at0 = .byte) ∨ (t = 3 ∧ at0 = .boolean)) (hv : ¬ v < 0) (hn : v.toNatClampNeg = n) (hsm : n ≤ 100000) (hl : Cond.arrayClass (aT t) ∈ TG) (h : X m (pc + 2) L (.ref (64 * M.1.1.length + k) :: S) (nw M k) (b1, b2) Q) : X m pc L (.int v :: S) M (b1 + 1, b2 + n) Q := by
  intro g p l e R s mid args below meth cc Z C hR H locs cells slots ls hH hw hL hS hl2 hss hc hc2
  obtain ⟨k1, k2, k3, k4⟩ := hk
  have hkm : KM M (nw M k) := nw_km2 k2
  have hts := C.2.2.2.2.1
  have hK := C.2.2.2.2.2.2.2.1
  have hRm := C.2.2.2.2.2.1
  have hc' : cells + (b1 + 1) ≤ mC m := hc
  have hc2' : slots + (b2 + n) ≤ mS m := hc2
  have hA : okA (nw M k) (64 * M.1.1.length + k) := nw_ok k2
  have hwn := nw_wf (M := M) (k := k) k2 hw
  have e3 : cz g (.ref (64 * M.1.1.length + k)) = .ref H.size := by
    show Value.ref (ca g _) = _
    rw [ca_ok hwn hA, show (64 * M.1.1.length + k) / 64 = M.1.1.length by omega, hH.1]
  have hty : newarray.typeOf at0 = aT t := by rcases ht with ⟨rfl, rfl⟩ | ⟨rfl, rfl⟩ | ⟨rfl, rfl⟩ | ⟨rfl, rfl⟩ <;> rfl
  have hby : n * componentBytes (newarray.typeOf at0) ≤ 536870912 := by
    have : componentBytes (newarray.typeOf at0) ≤ 8 := by rcases ht with ⟨rfl, rfl⟩ | ⟨rfl, rfl⟩ | ⟨rfl, rfl⟩ | ⟨rfl, rfl⟩ <;> decide
    calc n * componentBytes (newarray.typeOf at0) ≤ 100000 * 8 := Nat.mul_le_mul hsm this
      _ ≤ 536870912 := by decide
  refine va_newaK C.1 C.2.1 (by rw [hty]; exact hts _ hl) rfl hd rfl hv hn hby (by omega) (by omega) rfl fun H1 cA e1 z1 o1 hAr hNm => ?_
  have hcA : cA = eA g t := by
    have h2 := (hK.2 t _ (ty_at g k4)).2
    rw [hty] at hNm
    rcases ht with ⟨rfl, rfl⟩ | ⟨rfl, rfl⟩ | ⟨rfl, rfl⟩ | ⟨rfl, rfl⟩ <;> exact Option.some.inj (hNm.symm.trans h2)
  subst hcA
  have K := h g p l e R s mid args below meth cc Z (cx_km hkm C) (rt_km hkm hR) H1 locs (cells + 1) (slots + n) ls (nw_hr k2 hw hH z1 o1 ?_) hwn (ls_ok hkm hL) (ok1 (st_ok hkm (tl hS)) (Or.inr (Or.inr hA))) hl2 (nw_S hss z1 o1) (by show cells + 1 + b1 ≤ _; omega) (by show slots + n + b2 ≤ _; omega)
  · rw [List.map_cons, e3] at K
    exact K
  · obtain ⟨q1, q2, q3⟩ := nw_at0 (M := M) (k := k) _ rfl
    rw [hty] at e1
    rcases ht with ⟨rfl, rfl⟩ | ⟨rfl, rfl⟩ | ⟨rfl, rfl⟩ | ⟨rfl, rfl⟩
    · rw [ce_I k1 (by rw [k3]; show _ ≠ 1; dsimp only; omega) (by rw [k3]; show _ < 4; dsimp only; omega), k3, q1]; exact e1
    · rw [ce_L k1 (by rw [k3]), k3, q2]; exact e1
    · rw [ce_I k1 (by rw [k3]; show _ ≠ 1; dsimp only; omega) (by rw [k3]; show _ < 4; dsimp only; omega), k3, q1]; exact e1
    · rw [ce_I k1 (by rw [k3]; show _ ≠ 1; dsimp only; omega) (by rw [k3]; show _ < 4; dsimp only; omega), k3, q1]; exact e1
theorem x_anew {k t n i : Nat} {v : Int32} {b1 b2 : Nat} {Cn : String} (hd : decode (mB m) pc = .ok (.anewarray i, 3)) (hk : AK k t n) (ht : (t = 4 ∧ Cn = "LearnedCount$Word") ∨ (t = 5 ∧ Cn = "LearnedCount$Sheet")) (hv : ¬ v < 0) (hn : v.toNatClampNeg = n) (hsm : n ≤ 100000) (hl : Cond.classLink (mY m).cls i Cn ∈ TG) (h : X m (pc + 3) L (.ref (64 * M.1.1.length + k) :: S) (nw M k) (b1, b2) Q) : X m pc L (.int v :: S) M (b1 + 1, b2 + n) Q := by
  intro g p l e R s mid args below meth cc Z C hR H locs cells slots ls hH hw hL hS hl2 hss hc hc2
  obtain ⟨k1, k2, k3, k4⟩ := hk
  have hkm : KM M (nw M k) := nw_km2 k2
  have hts := C.2.2.2.2.1
  have hK := C.2.2.2.2.2.2.2.1
  have hRm := C.2.2.2.2.2.1
  have hc' : cells + (b1 + 1) ≤ mC m := hc
  have hc2' : slots + (b2 + n) ≤ mS m := hc2
  have hA : okA (nw M k) (64 * M.1.1.length + k) := nw_ok k2
  have hwn := nw_wf (M := M) (k := k) k2 hw
  have e3 : cz g (.ref (64 * M.1.1.length + k)) = .ref H.size := by
    show Value.ref (ca g _) = _
    rw [ca_ok hwn hA, show (64 * M.1.1.length + k) / 64 = M.1.1.length by omega, hH.1]
  have hov : va_AO Cn s := by
    obtain ⟨-, -, ⟨q1, q2⟩, -⟩ := C.2.2.2.2.2.2.2
    rcases ht with ⟨-, rfl⟩ | ⟨-, rfl⟩
    · exact q1
    · exact q2
  have hn' : v.toNatClampNeg * 4 ≤ 536870912 := by rw [hn]; omega
  refine W.anew C.1 C.2.1 C.2.2.2.1 (hts _ hl) (va_AO.use hov) rfl hd rfl hv hn' (by omega) (by omega) fun cA kA comp f1 f2 f3 f4 => ?_
  rw [hn]
  generalize hH1 : H.push ({ cls := cA, slots := Array.replicate n .null, vm := .none } : Cell) = H1
  have z1 : H1.size = H.size + 1 := by rw [← hH1, Array.size_push]
  have e1 : H1[H.size]? = some (arrV cA n (fun _ => .null)) := by rw [← hH1, Array.getElem?_push_size, ← arrV_new]
  have o1 : ∀ q : Nat, q < H.size → H1[q]? = H[q]? := fun q hq => by rw [← hH1, Array.getElem?_push, if_neg (Nat.ne_of_lt hq)]
  have hcA : cA = eA g t := by
    rcases ht with ⟨rfl, rfl⟩ | ⟨rfl, rfl⟩
    · obtain ⟨_, _, -, -, -, q4⟩ := (hK.2 4 _ (ty_at g k4)).2
      exact Option.some.inj (f1.symm.trans q4)
    · obtain ⟨_, _, -, -, -, q4⟩ := (hK.2 5 _ (ty_at g k4)).2
      exact Option.some.inj (f1.symm.trans q4)
  subst hcA
  have K := h g p l e R s mid args below meth cc Z (cx_km hkm C) (rt_km hkm hR) H1 locs (cells + 1) (slots + n) ls (nw_hr k2 hw hH z1 o1 ?_) hwn (ls_ok hkm hL) (ok1 (st_ok hkm (tl hS)) (Or.inr (Or.inr hA))) hl2 (nw_S hss z1 o1) (by show cells + 1 + b1 ≤ _; omega) (by show slots + n + b2 ≤ _; omega)
  · rw [List.map_cons, e3] at K
    exact K
  · obtain ⟨q1, q2, q3⟩ := nw_at0 (M := M) (k := k) _ rfl
    rw [ce_R k1 (by rw [k3]; show t ≠ 1; omega) (by rw [k3]; show ¬ t < 4; omega), k3, q3]
    exact e1
end ROWS2
