/-! ===== String constants: 64 j + 63, their bytes: 64 j + 61 ===== -/
theorem cz_byt (g : Ev) (j : Nat) : cz g (.ref (64 * j + 61)) = .ref (eV g j) := by
  show Value.ref (ca g (64 * j + 61)) = _
  unfold ca
  rw [if_neg (by omega), if_neg (by omega), if_pos (by omega), show (64 * j + 61) / 64 = j by omega]
theorem okv_byt {M : Mm} {j : Nat} (h : j < 6) : okv M (.ref (64 * j + 61)) := by
  refine Or.inl ⟨Or.inr ?_, ?_⟩
  · show (64 * j + 61) % 64 = 61
    omega
  · show (64 * j + 61) / 64 < 6
    omega
section STR
variable {m m' : MI} {pc : Nat} {L : List (Nat × Value)} {S St : List Value} {M : Mm} {b : Nat × Nat} {Q : Option Value → Mm → Prop}
theorem x_strV {i j : Nat} (hj : j < 6) (hd : decode (mB m) pc = .ok (.getfield i, 3)) (hl : Cond.fieldLink (mY m).cls i "java/lang/String" "value" "[B" ∈ TG) (h : X m (pc + 3) L (.ref (64 * j + 61) :: S) M b Q) : X m pc L (.ref (64 * j + 63) :: S) M b Q := by
  intro g p l e R s mid args below meth cc Z C hR H locs cells slots ls hH hw hL hS hl2 hss hc hc2
  have K := h g p l e R s mid args below meth cc Z C hR H locs cells slots ls hH hw hL (ok1 (tl hS) (okv_byt hj)) hl2 hss hc hc2
  rw [List.map_cons, cz_byt] at K
  rw [List.map_cons, cz_str]
  obtain ⟨-, -, -, -, -, q6, -⟩ := C.2.2.2.2.2.2.2
  exact vk_getf C.1 C.2.1 (q6.1 j hj).2.2.1 hss C.2.2.2.1 (C.2.2.2.2.1 _ hl) (fun x h => h) hd K
theorem x_strC {i j : Nat} (hj : j < 6) (hd : decode (mB m) pc = .ok (.getfield i, 3)) (hl : Cond.fieldLink (mY m).cls i "java/lang/String" "coder" "B" ∈ TG) (h : X m (pc + 3) L (.int 0 :: S) M b Q) : X m pc L (.ref (64 * j + 63) :: S) M b Q := by
  intro g p l e R s mid args below meth cc Z C hR H locs cells slots ls hH hw hL hS hl2 hss hc hc2
  have K := h g p l e R s mid args below meth cc Z C hR H locs cells slots ls hH hw hL (ok1 (tl hS) trivial) hl2 hss hc hc2
  rw [List.map_cons, cz_str]
  obtain ⟨-, -, -, -, -, q6, -⟩ := C.2.2.2.2.2.2.2
  exact vk_getf C.1 C.2.1 (q6.1 j hj).2.1 hss C.2.2.2.1 (C.2.2.2.2.1 _ hl) (fun x h => h) hd K
theorem x_strZ {i : Nat} (hd : decode (mB m) pc = .ok (.getstatic i, 3)) (hl : Cond.fieldLink (mY m).cls i "java/lang/String" "COMPACT_STRINGS" "Z" ∈ TG) (h : X m (pc + 3) L (.int 1 :: S) M b Q) : X m pc L S M b Q := by
  intro g p l e R s mid args below meth cc Z C hR H locs cells slots ls hH hw hL hS hl2 hss hc hc2
  have K := h g p l e R s mid args below meth cc Z C hR H locs cells slots ls hH hw hL (ok1 hS trivial) hl2 hss hc hc2
  obtain ⟨-, -, -, -, -, -, q7, -⟩ := C.2.2.2.2.2.2.2
  exact va_gets C.1 C.2.1 q7.1 hss C.2.2.2.1 (C.2.2.2.2.1 _ hl) (fun x h => h) hd K
theorem x_strF {i : Nat} (hd : decode (mB m) pc = .ok (.getstatic i, 3)) (hl : Cond.fieldLink (mY m).cls i "jdk/internal/util/Preconditions" "SIOOBE_FORMATTER" "Ljava/util/function/BiFunction;" ∈ TG) (h : X m (pc + 3) L (.retAddr 0 :: S) M b Q) : X m pc L S M b Q := by
  intro g p l e R s mid args below meth cc Z C hR H locs cells slots ls hH hw hL hS hl2 hss hc hc2
  have K := h g p l e R s mid args below meth cc Z C hR H locs cells slots ls hH hw hL (ok1 hS trivial) hl2 hss hc hc2
  obtain ⟨-, -, -, -, -, -, q7, -⟩ := C.2.2.2.2.2.2.2
  exact va_gets C.1 C.2.1 q7.2 hss C.2.2.2.1 (C.2.2.2.2.1 _ hl) (fun x h => h) hd K
theorem x_strL {j : Nat} {v : Int32} (hj : j < 6) (hd : decode (mB m) pc = .ok (.arraylength, 1)) (hv : Int32.ofNat (slen.getD j 0) = v) (h : X m (pc + 1) L (.int v :: S) M b Q) : X m pc L (.ref (64 * j + 61) :: S) M b Q := by
  subst hv
  intro g p l e R s mid args below meth cc Z C hR H locs cells slots ls hH hw hL hS hl2 hss hc hc2
  have K := h g p l e R s mid args below meth cc Z C hR H locs cells slots ls hH hw hL (ok1 (tl hS) trivial) hl2 hss hc hc2
  rw [List.map_cons, cz_byt]
  obtain ⟨-, -, -, -, -, q6, -⟩ := C.2.2.2.2.2.2.2
  exact va_tlen C.1 C.2.1 (q6.1 j hj).2.2.2 hss rfl hd K
theorem x_strB {j : Nat} {i : Int32} (hj : j < 6) (hd : decode (mB m) pc = .ok (.baload, 1)) (hi : vp_in i (slen.getD j 0)) (h : X m (pc + 1) L (.int ((sbyt.getD j []).getD i.toNatClampNeg 0) :: S) M b Q) : X m pc L (.int i :: .ref (64 * j + 61) :: S) M b Q := by
  intro g p l e R s mid args below meth cc Z C hR H locs cells slots ls hH hw hL hS hl2 hss hc hc2
  have K := h g p l e R s mid args below meth cc Z C hR H locs cells slots ls hH hw hL (ok1 (tl (tl hS)) trivial) hl2 hss hc hc2
  rw [List.map_cons, List.map_cons, cz_byt]
  obtain ⟨-, -, -, -, -, q6, -⟩ := C.2.2.2.2.2.2.2
  exact va_tb C.1 C.2.1 (q6.1 j hj).2.2.2 hss hi rfl hd K
theorem x_i2c {x : Int32} (hd : decode (mB m) pc = .ok (.i2c, 1)) (h : X m (pc + 1) L (.int ((x.toUInt32 % 65536).toInt32) :: S) M b Q) : X m pc L (.int x :: S) M b Q := X_pu h (fun hL hS => ⟨hL, ok1 (tl hS) trivial⟩) (fun C hl k => lv_i2c C.1 C.2.1 hd rfl (k _ hl))
theorem x_invVs {n i j : Nat} {As : List Value} (hj : j < 6) (hd : decode (mB m) pc = .ok (.invokevirtual i, 3)) (hl : Cond.methodLink (mY m).cls i (mY m') ∈ TG) (hv : MV m' n) (hn : As.length = n) (hc0 : "java/lang/String" = (mY m').cls) (hrm : RM m m') (hb : mC m' ≤ b.1 ∧ mS m' ≤ b.2) (hst : St = As.reverse ++ .ref (64 * j + 63) :: S) (hcat : (S.map fun v => v.category).sum ≤ 8)
    (h : CALL m' (.ref (64 * j + 63) :: As) M (aft m m' pc L S b Q)) : X m pc L St M b Q := by
  subst hst
  intro g p l e R s mid args below meth cc Z C hR H locs cells slots ls hH hw hL hS hl2 hss hc hc2
  have hSS : ∀ v ∈ S, okv M v := fun v hv => hS v (List.mem_append_right _ (List.mem_cons_of_mem _ hv))
  have hva : okv M (.ref (64 * j + 63)) := okv_str hj
  have hAs : ∀ v ∈ As, okv M v := fun v hv => hS v (List.mem_append_left _ (List.mem_reverse.mpr hv))
  have hts := C.2.2.2.2.1
  obtain ⟨f1, f2, f3, f4⟩ := C.2.2.2.2.2.1
  obtain ⟨-, -, -, -, -, q6, -⟩ := C.2.2.2.2.2.2.2
  rw [czr, List.map_cons, cz_str]
  have hM := h l g hw (ok1 hAs hva)
  refine W_run (va_runV (As := As.map (cz g)) (rest := S.map (cz g)) (n := n) (C := (mY m').cls) (bytes := mB m') (maxL := mL m') (ret := mT m') (Ts := TG) ⟨C.1, C.2.1, C.2.2.1, C.2.2.2.1, hts⟩ hM ⟨⟨rfl, rfl, Nat.le_trans hrm.1 f1, Nat.le_trans hrm.2 f2, pay_in hts (mw_good hv.1), List.mem_cons_self, hts _ hv.1.1, hts _ hv.1.2.1, ⟨hv.1.2.2.1, hv.1.2.2.2.1⟩, fun sig h => ?_, hts _ hl⟩, hts _ hv.2.1, hts _ hv.2.2⟩ ⟨cP_blind g M _, ?_, fun U hU hW => ⟨?_, by rw [hU]; exact hH, ku_at C.2.2.2.2.2.2.2 hss U hU hW⟩⟩ rfl (by rw [List.length_map]; exact hn) hl2.1 rfl (lv_room (by rw [cat_cz]; exact hcat)) hd ⟨by omega, by omega⟩) hss (aft_k C hR hL hSS hl2 hc hc2 hb)
  · have h2 := hv.1.2.2.2.2
    rw [h] at h2
    exact (Option.some.inj h2).symm
  · rw [← hc0]
    exact vk_recv q6 hj hss
  · show (Value.ref (eK g j) :: As.map (cz g)).toArray = _
    rw [List.map_cons, cz_str]
end STR
theorem nwk (n k : Nat) (h : k < 61) : (64 * n + k) % 64 = k := by omega
theorem tblout {e : Int32} {lo hi : Int} (h : ∀ k : Int, lo ≤ k → k ≤ hi → ¬ e = Int32.ofInt k) : e.toInt < lo ∨ hi < e.toInt := by
  by_cases h1 : e.toInt < lo
  · exact Or.inl h1
  · by_cases h2 : hi < e.toInt
    · exact Or.inr h2
    · exact absurd (Int32.ofInt_toInt e).symm (h e.toInt (by omega) (by omega))
