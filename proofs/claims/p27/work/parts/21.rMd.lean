theorem dM_sides_0 : decode (mB mM_sides) 0 = .ok (.iload_n 1, 1) := op27 (by decide +kernel)
theorem dM_sides_1 : decode (mB mM_sides) 1 = .ok (.invokestatic 294, 3) := op184 1 38 (by decide +kernel)
theorem dM_sides_4 : decode (mB mM_sides) 4 = .ok (.ifCond .eq 27, 3) := op153 0 27 (by decide +kernel)
theorem dM_sides_7 : decode (mB mM_sides) 7 = .ok (.iload_n 2, 1) := op28 (by decide +kernel)
theorem dM_sides_8 : decode (mB mM_sides) 8 = .ok (.invokestatic 294, 3) := op184 1 38 (by decide +kernel)
theorem dM_sides_11 : decode (mB mM_sides) 11 = .ok (.ifCond .eq 20, 3) := op153 0 20 (by decide +kernel)
theorem dM_sides_14 : decode (mB mM_sides) 14 = .ok (.iload_n 1, 1) := op27 (by decide +kernel)
theorem dM_sides_15 : decode (mB mM_sides) 15 = .ok (.iload_n 2, 1) := op28 (by decide +kernel)
theorem dM_sides_16 : decode (mB mM_sides) 16 = .ok (.if_icmp .eq 15, 3) := op159 0 15 (by decide +kernel)
theorem dM_sides_19 : decode (mB mM_sides) 19 = .ok (.iload_n 3, 1) := op29 (by decide +kernel)
theorem dM_sides_20 : decode (mB mM_sides) 20 = .ok (.i2l, 1) := op133 (by decide +kernel)
theorem dM_sides_21 : decode (mB mM_sides) 21 = .ok (.lconst 0, 1) := op9 (by decide +kernel)
theorem dM_sides_22 : decode (mB mM_sides) 22 = .ok (.ldc2_w 281, 3) := op20 1 25 (by decide +kernel)
theorem dM_sides_25 : decode (mB mM_sides) 25 = .ok (.invokestatic 126, 3) := op184 0 126 (by decide +kernel)
theorem dM_sides_28 : decode (mB mM_sides) 28 = .ok (.ifCond .ne 5, 3) := op154 0 5 (by decide +kernel)
theorem dM_sides_31 : decode (mB mM_sides) 31 = .ok (.iconst (-1), 1) := op2 (by decide +kernel)
theorem dM_sides_32 : decode (mB mM_sides) 32 = .ok (.ireturn, 1) := op172 (by decide +kernel)
theorem dM_sides_33 : decode (mB mM_sides) 33 = .ok (.aload_n 0, 1) := op42 (by decide +kernel)
theorem dM_sides_34 : decode (mB mM_sides) 34 = .ok (.invokevirtual 297, 3) := op182 1 41 (by decide +kernel)
theorem dM_sides_37 : decode (mB mM_sides) 37 = .ok (.aload_n 0, 1) := op42 (by decide +kernel)
theorem dM_sides_38 : decode (mB mM_sides) 38 = .ok (.getfield 58, 3) := op180 0 58 (by decide +kernel)
theorem dM_sides_41 : decode (mB mM_sides) 41 = .ok (.iload_n 1, 1) := op27 (by decide +kernel)
theorem dM_sides_42 : decode (mB mM_sides) 42 = .ok (.laload, 1) := op47 (by decide +kernel)
theorem dM_sides_43 : decode (mB mM_sides) 43 = .ok (.aload_n 0, 1) := op42 (by decide +kernel)
theorem dM_sides_44 : decode (mB mM_sides) 44 = .ok (.getfield 58, 3) := op180 0 58 (by decide +kernel)
theorem dM_sides_47 : decode (mB mM_sides) 47 = .ok (.iload_n 2, 1) := op28 (by decide +kernel)
theorem dM_sides_48 : decode (mB mM_sides) 48 = .ok (.laload, 1) := op47 (by decide +kernel)
theorem dM_sides_49 : decode (mB mM_sides) 49 = .ok (.land, 1) := op127 (by decide +kernel)
theorem dM_sides_50 : decode (mB mM_sides) 50 = .ok (.aload_n 0, 1) := op42 (by decide +kernel)
theorem dM_sides_51 : decode (mB mM_sides) 51 = .ok (.getfield 61, 3) := op180 0 61 (by decide +kernel)
theorem dM_sides_54 : decode (mB mM_sides) 54 = .ok (.iload_n 1, 1) := op27 (by decide +kernel)
theorem dM_sides_55 : decode (mB mM_sides) 55 = .ok (.laload, 1) := op47 (by decide +kernel)
theorem dM_sides_56 : decode (mB mM_sides) 56 = .ok (.aload_n 0, 1) := op42 (by decide +kernel)
theorem dM_sides_57 : decode (mB mM_sides) 57 = .ok (.getfield 61, 3) := op180 0 61 (by decide +kernel)
theorem dM_sides_60 : decode (mB mM_sides) 60 = .ok (.iload_n 2, 1) := op28 (by decide +kernel)
theorem dM_sides_61 : decode (mB mM_sides) 61 = .ok (.laload, 1) := op47 (by decide +kernel)
theorem dM_sides_62 : decode (mB mM_sides) 62 = .ok (.land, 1) := op127 (by decide +kernel)
theorem dM_sides_63 : decode (mB mM_sides) 63 = .ok (.lor, 1) := op129 (by decide +kernel)
theorem dM_sides_64 : decode (mB mM_sides) 64 = .ok (.lstore 4, 2) := op55 4 (by decide +kernel)
theorem dM_sides_66 : decode (mB mM_sides) 66 = .ok (.aload_n 0, 1) := op42 (by decide +kernel)
theorem dM_sides_67 : decode (mB mM_sides) 67 = .ok (.getfield 58, 3) := op180 0 58 (by decide +kernel)
theorem dM_sides_70 : decode (mB mM_sides) 70 = .ok (.iload_n 1, 1) := op27 (by decide +kernel)
theorem dM_sides_71 : decode (mB mM_sides) 71 = .ok (.laload, 1) := op47 (by decide +kernel)
theorem dM_sides_72 : decode (mB mM_sides) 72 = .ok (.aload_n 0, 1) := op42 (by decide +kernel)
theorem dM_sides_73 : decode (mB mM_sides) 73 = .ok (.getfield 61, 3) := op180 0 61 (by decide +kernel)
theorem dM_sides_76 : decode (mB mM_sides) 76 = .ok (.iload_n 2, 1) := op28 (by decide +kernel)
theorem dM_sides_77 : decode (mB mM_sides) 77 = .ok (.laload, 1) := op47 (by decide +kernel)
theorem dM_sides_78 : decode (mB mM_sides) 78 = .ok (.land, 1) := op127 (by decide +kernel)
theorem dM_sides_79 : decode (mB mM_sides) 79 = .ok (.aload_n 0, 1) := op42 (by decide +kernel)
theorem dM_sides_80 : decode (mB mM_sides) 80 = .ok (.getfield 61, 3) := op180 0 61 (by decide +kernel)
theorem dM_sides_83 : decode (mB mM_sides) 83 = .ok (.iload_n 1, 1) := op27 (by decide +kernel)
theorem dM_sides_84 : decode (mB mM_sides) 84 = .ok (.laload, 1) := op47 (by decide +kernel)
theorem dM_sides_85 : decode (mB mM_sides) 85 = .ok (.aload_n 0, 1) := op42 (by decide +kernel)
theorem dM_sides_86 : decode (mB mM_sides) 86 = .ok (.getfield 58, 3) := op180 0 58 (by decide +kernel)
theorem dM_sides_89 : decode (mB mM_sides) 89 = .ok (.iload_n 2, 1) := op28 (by decide +kernel)
theorem dM_sides_90 : decode (mB mM_sides) 90 = .ok (.laload, 1) := op47 (by decide +kernel)
theorem dM_sides_91 : decode (mB mM_sides) 91 = .ok (.land, 1) := op127 (by decide +kernel)
theorem dM_sides_92 : decode (mB mM_sides) 92 = .ok (.lor, 1) := op129 (by decide +kernel)
theorem dM_sides_93 : decode (mB mM_sides) 93 = .ok (.lstore 6, 2) := op55 6 (by decide +kernel)
theorem dM_sides_95 : decode (mB mM_sides) 95 = .ok (.iload_n 3, 1) := op29 (by decide +kernel)
theorem dM_sides_96 : decode (mB mM_sides) 96 = .ok (.ifCond .ne 14, 3) := op154 0 14 (by decide +kernel)
theorem dM_sides_99 : decode (mB mM_sides) 99 = .ok (.lload 4, 2) := op22 4 (by decide +kernel)
theorem dM_sides_101 : decode (mB mM_sides) 101 = .ok (.lload 6, 2) := op22 6 (by decide +kernel)
theorem dM_sides_103 : decode (mB mM_sides) 103 = .ok (.lor, 1) := op129 (by decide +kernel)
theorem dM_sides_104 : decode (mB mM_sides) 104 = .ok (.invokestatic 300, 3) := op184 1 44 (by decide +kernel)
theorem dM_sides_107 : decode (mB mM_sides) 107 = .ok (.goto 21, 3) := op167 0 21 (by decide +kernel)
theorem dM_sides_110 : decode (mB mM_sides) 110 = .ok (.iload_n 3, 1) := op29 (by decide +kernel)
theorem dM_sides_111 : decode (mB mM_sides) 111 = .ok (.iconst 1, 1) := op4 (by decide +kernel)
theorem dM_sides_112 : decode (mB mM_sides) 112 = .ok (.if_icmp .ne 11, 3) := op160 0 11 (by decide +kernel)
theorem dM_sides_115 : decode (mB mM_sides) 115 = .ok (.lload 4, 2) := op22 4 (by decide +kernel)
theorem dM_sides_117 : decode (mB mM_sides) 117 = .ok (.invokestatic 300, 3) := op184 1 44 (by decide +kernel)
theorem dM_sides_120 : decode (mB mM_sides) 120 = .ok (.goto 8, 3) := op167 0 8 (by decide +kernel)
theorem dM_sides_123 : decode (mB mM_sides) 123 = .ok (.lload 6, 2) := op22 6 (by decide +kernel)
theorem dM_sides_125 : decode (mB mM_sides) 125 = .ok (.invokestatic 304, 3) := op184 1 48 (by decide +kernel)
theorem dM_sides_128 : decode (mB mM_sides) 128 = .ok (.ireturn, 1) := op172 (by decide +kernel)

theorem vM_sides_0 {M : Mm} {b : Nat × Nat} {K : Int32 → Mm → Prop} {v0 : Nat} {v1 : Int32} {v2 : Int32} {v3 : Int32}  
    (h : CI mM_isDoctor [.int v1] M (fun rv N => X mM_sides 4 [(0, .ref v0), (1, .int v1), (2, .int v2), (3, .int v3)] [.int rv] N b (QI K))) : X mM_sides 0 [(0, .ref v0), (1, .int v1), (2, .int v2), (3, .int v3)] [] M b (QI K) := by
  refine x_wf (fun hw => ?_)
  refine x_iload_n (pc := 0) dM_sides_0 rfl (q := 1) rfl ?_
  exact x_invS (pc := 1) dM_sides_1 (S := []) (As := [.int v1]) mlM_294 hM_isDoctor rfl ⟨by decide, by decide⟩ ⟨Nat.zero_le _, Nat.zero_le _⟩ rfl (Nat.le_of_ble_eq_true rfl) (aftI (b' := b) ⟨Nat.le_refl _, Nat.le_refl _⟩ (fun rv N h => h) h)

theorem vM_sides_4 {M : Mm} {b : Nat × Nat} {K : Int32 → Mm → Prop} {v0 : Nat} {v1 : Int32} {v2 : Int32} {v3 : Int32} {w0 : Int32}  
    (h : (w0 = 0 → (K (-1) M)) ∧ (¬ w0 = 0 → (CI mM_isDoctor [.int v2] M (fun rv N => X mM_sides 11 [(0, .ref v0), (1, .int v1), (2, .int v2), (3, .int v3)] [.int rv] N b (QI K))))) : X mM_sides 4 [(0, .ref v0), (1, .int v1), (2, .int v2), (3, .int v3)] [.int w0] M b (QI K) := by
  refine x_wf (fun hw => ?_)
  obtain ⟨g1_0, g1_1⟩ := h
  refine x_if_eq (pc := 4) dM_sides_4 (t := 31) rfl (fun q1 => ?_) (fun q1 => ?_)
  · have h := g1_0 q1
    refine x_iconst (pc := 31) dM_sides_31 (v := (-1)) rfl ?_
    exact x_retQI (pc := 32) dM_sides_32 rfl rfl h
  · refine x_iload_n (pc := 7) dM_sides_7 rfl (q := 2) rfl ?_
    have h := g1_1 q1
    exact x_invS (pc := 8) dM_sides_8 (S := []) (As := [.int v2]) mlM_294 hM_isDoctor rfl ⟨by decide, by decide⟩ ⟨Nat.zero_le _, Nat.zero_le _⟩ rfl (Nat.le_of_ble_eq_true rfl) (aftI (b' := b) ⟨Nat.le_refl _, Nat.le_refl _⟩ (fun rv N h => h) h)

theorem vM_sides_11 {M : Mm} {b : Nat × Nat} {K : Int32 → Mm → Prop} {v0 : Nat} {v1 : Int32} {v2 : Int32} {v3 : Int32} {w0 : Int32}  
    (h : (((w0 = 0) ∨ (¬ w0 = 0 ∧ v1 = v2)) → (K (-1) M)) ∧ ((¬ w0 = 0 ∧ ¬ v1 = v2) → (CI mM_in [.long ((v3).toInt64), .long 0, .long 2] M (fun rv N => X mM_sides 28 [(0, .ref v0), (1, .int v1), (2, .int v2), (3, .int v3)] [.int rv] N b (QI K))))) : X mM_sides 11 [(0, .ref v0), (1, .int v1), (2, .int v2), (3, .int v3)] [.int w0] M b (QI K) := by
  refine x_wf (fun hw => ?_)
  obtain ⟨g1_0, g1_1⟩ := h
  have g1_k0 : (w0 = 0) ∨ (¬ w0 = 0 ∧ v1 = v2) → X mM_sides 31 [(0, .ref v0), (1, .int v1), (2, .int v2), (3, .int v3)] [] M b (QI K) := fun q => by
    have h := g1_0 q
    refine x_iconst (pc := 31) dM_sides_31 (v := (-1)) rfl ?_
    exact x_retQI (pc := 32) dM_sides_32 rfl rfl h
  refine x_if_eq (pc := 11) dM_sides_11 (t := 31) rfl (fun q1 => ?_) (fun q1 => ?_)
  · exact g1_k0 (Or.inl q1)
  · refine x_iload_n (pc := 14) dM_sides_14 rfl (q := 1) rfl ?_
    refine x_iload_n (pc := 15) dM_sides_15 rfl (q := 2) rfl ?_
    refine x_icmp_eq (pc := 16) dM_sides_16 (t := 31) rfl (fun q2 => ?_) (fun q2 => ?_)
    · exact g1_k0 (Or.inr ⟨q1, q2⟩)
    · refine x_iload_n (pc := 19) dM_sides_19 rfl (q := 3) rfl ?_
      refine x_i2l (pc := 20) dM_sides_20 ?_
      refine x_lconst (pc := 21) dM_sides_21 (v := 0) rfl ?_
      refine x_ldc2 (pc := 22) dM_sides_22 klM_281 ?_
      have h := g1_1 ⟨q1, q2⟩
      exact x_invS (pc := 25) dM_sides_25 (S := []) (As := [.long ((v3).toInt64), .long 0, .long 2]) mlM_126 hM_in rfl ⟨by decide, by decide⟩ ⟨Nat.zero_le _, Nat.zero_le _⟩ rfl (Nat.le_of_ble_eq_true rfl) (aftI (b' := b) ⟨Nat.le_refl _, Nat.le_refl _⟩ (fun rv N h => h) h)

theorem vM_sides_28 {M : Mm} {b : Nat × Nat} {K : Int32 → Mm → Prop} {v0 : Nat} {v1 : Int32} {v2 : Int32} {v3 : Int32} {w0 : Int32} (kv0 : v0 % 64 = 11) 
    (h : (¬ w0 = 0 → (CV mM_findEach [.ref v0] M (fun N => X mM_sides 37 [(0, .ref v0), (1, .int v1), (2, .int v2), (3, .int v3)] [] N b (QI K)))) ∧ (w0 = 0 → (K (-1) M))) : X mM_sides 28 [(0, .ref v0), (1, .int v1), (2, .int v2), (3, .int v3)] [.int w0] M b (QI K) := by
  refine x_wf (fun hw => ?_)
  obtain ⟨g1_0, g1_1⟩ := h
  refine x_if_ne (pc := 28) dM_sides_28 (t := 33) rfl (fun q1 => ?_) (fun q1 => ?_)
  · refine x_aload_n (pc := 33) dM_sides_33 rfl (q := 0) rfl ?_
    have h := g1_0 q1
    exact x_invV (pc := 34) dM_sides_34 (c := 11) (S := []) (As := []) mlM_297 hM_findEach rfl (by decide) rfl kv0 ⟨by decide, by decide⟩ ⟨Nat.zero_le _, Nat.zero_le _⟩ rfl (Nat.le_of_ble_eq_true rfl) (aftV (b' := b) ⟨Nat.le_refl _, Nat.le_refl _⟩ (fun N h => h) h)
  · have h := g1_1 q1
    refine x_iconst (pc := 31) dM_sides_31 (v := (-1)) rfl ?_
    exact x_retQI (pc := 32) dM_sides_32 rfl rfl h

theorem vM_sides_37 {M : Mm} {b : Nat × Nat} {K : Int32 → Mm → Prop} {v0 : Nat} {v1 : Int32} {v2 : Int32} {v3 : Int32} {r1 : Nat} {r2 : Nat} (kv0 : v0 % 64 = 11) (e1 : gr M v0 27 = some r1) (e2 : gr M v0 28 = some r2)
    (h : vp_in v1 8 ∧ (vp_in v2 8 ∧ (vp_in v1 8 ∧ (vp_in v2 8 ∧ (vp_in v1 8 ∧ (vp_in v2 8 ∧ (vp_in v1 8 ∧ (vp_in v2 8 ∧ (((¬ v3 = 0 ∧ ¬ v3 = 1) → (CI mM_firstOf [.long (((gl M r1 (v1).toNatClampNeg) &&& (gl M r2 (v2).toNatClampNeg)) ||| ((gl M r2 (v1).toNatClampNeg) &&& (gl M r1 (v2).toNatClampNeg)))] M (fun rv N => X mM_sides 128 [] [.int rv] N b (QI K)))) ∧ ((¬ v3 = 0 ∧ v3 = 1) → (CI mM_manyOf [.long (((gl M r1 (v1).toNatClampNeg) &&& (gl M r1 (v2).toNatClampNeg)) ||| ((gl M r2 (v1).toNatClampNeg) &&& (gl M r2 (v2).toNatClampNeg)))] M (fun rv N => X mM_sides 120 [] [.int rv] N b (QI K)))) ∧ (v3 = 0 → (CI mM_manyOf [.long ((((gl M r1 (v1).toNatClampNeg) &&& (gl M r1 (v2).toNatClampNeg)) ||| ((gl M r2 (v1).toNatClampNeg) &&& (gl M r2 (v2).toNatClampNeg))) ||| (((gl M r1 (v1).toNatClampNeg) &&& (gl M r2 (v2).toNatClampNeg)) ||| ((gl M r2 (v1).toNatClampNeg) &&& (gl M r1 (v2).toNatClampNeg))))] M (fun rv N => X mM_sides 107 [] [.int rv] N b (QI K))))))))))))) : X mM_sides 37 [(0, .ref v0), (1, .int v1), (2, .int v2), (3, .int v3)] [] M b (QI K) := by
  refine x_wf (fun hw => ?_)
  refine x_aload_n (pc := 37) dM_sides_37 rfl (q := 0) rfl ?_
  refine x_getR (pc := 38) dM_sides_38 kv0 flM_58 rfl e1 ?_
  refine x_iload_n (pc := 41) dM_sides_41 rfl (q := 1) rfl ?_
  obtain ⟨s501, h⟩ := h
  refine x_aldLj (pc := 42) (j := (v1).toNatClampNeg) dM_sides_42 (wfk hw e1 kv0) ak_27 rfl s501 ?_
  refine x_aload_n (pc := 43) dM_sides_43 rfl (q := 0) rfl ?_
  refine x_getR (pc := 44) dM_sides_44 kv0 flM_58 rfl e1 ?_
  refine x_iload_n (pc := 47) dM_sides_47 rfl (q := 2) rfl ?_
  obtain ⟨s502, h⟩ := h
  refine x_aldLj (pc := 48) (j := (v2).toNatClampNeg) dM_sides_48 (wfk hw e1 kv0) ak_27 rfl s502 ?_
  refine x_land (pc := 49) dM_sides_49 ?_
  refine x_aload_n (pc := 50) dM_sides_50 rfl (q := 0) rfl ?_
  refine x_getR (pc := 51) dM_sides_51 kv0 flM_61 rfl e2 ?_
  refine x_iload_n (pc := 54) dM_sides_54 rfl (q := 1) rfl ?_
  obtain ⟨s503, h⟩ := h
  refine x_aldLj (pc := 55) (j := (v1).toNatClampNeg) dM_sides_55 (wfk hw e2 kv0) ak_27 rfl s503 ?_
  refine x_aload_n (pc := 56) dM_sides_56 rfl (q := 0) rfl ?_
  refine x_getR (pc := 57) dM_sides_57 kv0 flM_61 rfl e2 ?_
  refine x_iload_n (pc := 60) dM_sides_60 rfl (q := 2) rfl ?_
  obtain ⟨s504, h⟩ := h
  refine x_aldLj (pc := 61) (j := (v2).toNatClampNeg) dM_sides_61 (wfk hw e2 kv0) ak_27 rfl s504 ?_
  refine x_land (pc := 62) dM_sides_62 ?_
  refine x_lor (pc := 63) dM_sides_63 ?_
  refine x_lstore (pc := 64) dM_sides_64 (by decide) (L' := [(4, .long (((gl M r1 (v1).toNatClampNeg) &&& (gl M r1 (v2).toNatClampNeg)) ||| ((gl M r2 (v1).toNatClampNeg) &&& (gl M r2 (v2).toNatClampNeg)))), (0, .ref v0), (1, .int v1), (2, .int v2), (3, .int v3)]) rfl ?_
  refine x_aload_n (pc := 66) dM_sides_66 rfl (q := 1) rfl ?_
  refine x_getR (pc := 67) dM_sides_67 kv0 flM_58 rfl e1 ?_
  refine x_iload_n (pc := 70) dM_sides_70 rfl (q := 2) rfl ?_
  obtain ⟨s505, h⟩ := h
  refine x_aldLj (pc := 71) (j := (v1).toNatClampNeg) dM_sides_71 (wfk hw e1 kv0) ak_27 rfl s505 ?_
  refine x_aload_n (pc := 72) dM_sides_72 rfl (q := 1) rfl ?_
  refine x_getR (pc := 73) dM_sides_73 kv0 flM_61 rfl e2 ?_
  refine x_iload_n (pc := 76) dM_sides_76 rfl (q := 3) rfl ?_
  obtain ⟨s506, h⟩ := h
  refine x_aldLj (pc := 77) (j := (v2).toNatClampNeg) dM_sides_77 (wfk hw e2 kv0) ak_27 rfl s506 ?_
  refine x_land (pc := 78) dM_sides_78 ?_
  refine x_aload_n (pc := 79) dM_sides_79 rfl (q := 1) rfl ?_
  refine x_getR (pc := 80) dM_sides_80 kv0 flM_61 rfl e2 ?_
  refine x_iload_n (pc := 83) dM_sides_83 rfl (q := 2) rfl ?_
  obtain ⟨s507, h⟩ := h
  refine x_aldLj (pc := 84) (j := (v1).toNatClampNeg) dM_sides_84 (wfk hw e2 kv0) ak_27 rfl s507 ?_
  refine x_aload_n (pc := 85) dM_sides_85 rfl (q := 1) rfl ?_
  refine x_getR (pc := 86) dM_sides_86 kv0 flM_58 rfl e1 ?_
  refine x_iload_n (pc := 89) dM_sides_89 rfl (q := 3) rfl ?_
  obtain ⟨s508, h⟩ := h
  refine x_aldLj (pc := 90) (j := (v2).toNatClampNeg) dM_sides_90 (wfk hw e1 kv0) ak_27 rfl s508 ?_
  refine x_land (pc := 91) dM_sides_91 ?_
  refine x_lor (pc := 92) dM_sides_92 ?_
  refine x_lstore (pc := 93) dM_sides_93 (by decide) (L' := [(6, .long (((gl M r1 (v1).toNatClampNeg) &&& (gl M r2 (v2).toNatClampNeg)) ||| ((gl M r2 (v1).toNatClampNeg) &&& (gl M r1 (v2).toNatClampNeg)))), (4, .long (((gl M r1 (v1).toNatClampNeg) &&& (gl M r1 (v2).toNatClampNeg)) ||| ((gl M r2 (v1).toNatClampNeg) &&& (gl M r2 (v2).toNatClampNeg)))), (0, .ref v0), (1, .int v1), (2, .int v2), (3, .int v3)]) rfl ?_
  refine x_iload_n (pc := 95) dM_sides_95 rfl (q := 5) rfl ?_
  obtain ⟨g1_0, g1_1, g1_2⟩ := h
  refine x_if_ne (pc := 96) dM_sides_96 (t := 110) rfl (fun q1 => ?_) (fun q1 => ?_)
  · refine x_iload_n (pc := 110) dM_sides_110 rfl (q := 5) rfl ?_
    refine x_iconst (pc := 111) dM_sides_111 (v := 1) rfl ?_
    refine x_icmp_ne (pc := 112) dM_sides_112 (t := 123) rfl (fun q2 => ?_) (fun q2 => ?_)
    · refine x_lload (pc := 123) dM_sides_123 (q := 0) rfl ?_
      have h := g1_0 ⟨q1, q2⟩
      exact x_invS (pc := 125) dM_sides_125 (S := []) (As := [.long (((gl M r1 (v1).toNatClampNeg) &&& (gl M r2 (v2).toNatClampNeg)) ||| ((gl M r2 (v1).toNatClampNeg) &&& (gl M r1 (v2).toNatClampNeg)))]) mlM_304 hM_firstOf rfl ⟨by decide, by decide⟩ ⟨Nat.zero_le _, Nat.zero_le _⟩ rfl (Nat.le_of_ble_eq_true rfl) (aftI (b' := b) ⟨Nat.le_refl _, Nat.le_refl _⟩ (fun rv N h => x_loc [] rfl h) h)
    · refine x_lload (pc := 115) dM_sides_115 (q := 1) rfl ?_
      have h := g1_1 ⟨q1, q2⟩
      exact x_invS (pc := 117) dM_sides_117 (S := []) (As := [.long (((gl M r1 (v1).toNatClampNeg) &&& (gl M r1 (v2).toNatClampNeg)) ||| ((gl M r2 (v1).toNatClampNeg) &&& (gl M r2 (v2).toNatClampNeg)))]) mlM_300 hM_manyOf rfl ⟨by decide, by decide⟩ ⟨Nat.zero_le _, Nat.zero_le _⟩ rfl (Nat.le_of_ble_eq_true rfl) (aftI (b' := b) ⟨Nat.le_refl _, Nat.le_refl _⟩ (fun rv N h => x_loc [] rfl h) h)
  · refine x_lload (pc := 99) dM_sides_99 (q := 1) rfl ?_
    refine x_lload (pc := 101) dM_sides_101 (q := 0) rfl ?_
    refine x_lor (pc := 103) dM_sides_103 ?_
    have h := g1_2 q1
    exact x_invS (pc := 104) dM_sides_104 (S := []) (As := [.long ((((gl M r1 (v1).toNatClampNeg) &&& (gl M r1 (v2).toNatClampNeg)) ||| ((gl M r2 (v1).toNatClampNeg) &&& (gl M r2 (v2).toNatClampNeg))) ||| (((gl M r1 (v1).toNatClampNeg) &&& (gl M r2 (v2).toNatClampNeg)) ||| ((gl M r2 (v1).toNatClampNeg) &&& (gl M r1 (v2).toNatClampNeg))))]) mlM_300 hM_manyOf rfl ⟨by decide, by decide⟩ ⟨Nat.zero_le _, Nat.zero_le _⟩ rfl (Nat.le_of_ble_eq_true rfl) (aftI (b' := b) ⟨Nat.le_refl _, Nat.le_refl _⟩ (fun rv N h => x_loc [] rfl h) h)

theorem vM_sides_107 {M : Mm} {b : Nat × Nat} {K : Int32 → Mm → Prop} {w0 : Int32}  
    (h : K w0 M) : X mM_sides 107 [] [.int w0] M b (QI K) := by
  refine x_wf (fun hw => ?_)
  refine x_goto (pc := 107) dM_sides_107 (t := 128) rfl ?_
  exact x_retQI (pc := 128) dM_sides_128 rfl rfl h

theorem vM_sides_120 {M : Mm} {b : Nat × Nat} {K : Int32 → Mm → Prop} {w0 : Int32}  
    (h : K w0 M) : X mM_sides 120 [] [.int w0] M b (QI K) := by
  refine x_wf (fun hw => ?_)
  refine x_goto (pc := 120) dM_sides_120 (t := 128) rfl ?_
  exact x_retQI (pc := 128) dM_sides_128 rfl rfl h

theorem vM_sides_128 {M : Mm} {b : Nat × Nat} {K : Int32 → Mm → Prop} {w0 : Int32}  
    (h : K w0 M) : X mM_sides 128 [] [.int w0] M b (QI K) := by
  refine x_wf (fun hw => ?_)
  exact x_retQI (pc := 128) dM_sides_128 rfl rfl h

theorem dM_hangs_0 : decode (mB mM_hangs) 0 = .ok (.iload_n 1, 1) := op27 (by decide +kernel)
theorem dM_hangs_1 : decode (mB mM_hangs) 1 = .ok (.invokestatic 294, 3) := op184 1 38 (by decide +kernel)
theorem dM_hangs_4 : decode (mB mM_hangs) 4 = .ok (.ifCond .eq 13, 3) := op153 0 13 (by decide +kernel)
theorem dM_hangs_7 : decode (mB mM_hangs) 7 = .ok (.iload_n 2, 1) := op28 (by decide +kernel)
theorem dM_hangs_8 : decode (mB mM_hangs) 8 = .ok (.i2l, 1) := op133 (by decide +kernel)
theorem dM_hangs_9 : decode (mB mM_hangs) 9 = .ok (.lconst 0, 1) := op9 (by decide +kernel)
theorem dM_hangs_10 : decode (mB mM_hangs) 10 = .ok (.lconst 1, 1) := op10 (by decide +kernel)
theorem dM_hangs_11 : decode (mB mM_hangs) 11 = .ok (.invokestatic 126, 3) := op184 0 126 (by decide +kernel)
theorem dM_hangs_14 : decode (mB mM_hangs) 14 = .ok (.ifCond .ne 5, 3) := op154 0 5 (by decide +kernel)
theorem dM_hangs_17 : decode (mB mM_hangs) 17 = .ok (.iconst (-1), 1) := op2 (by decide +kernel)
theorem dM_hangs_18 : decode (mB mM_hangs) 18 = .ok (.ireturn, 1) := op172 (by decide +kernel)
theorem dM_hangs_19 : decode (mB mM_hangs) 19 = .ok (.aload_n 0, 1) := op42 (by decide +kernel)
theorem dM_hangs_20 : decode (mB mM_hangs) 20 = .ok (.invokevirtual 319, 3) := op182 1 63 (by decide +kernel)
theorem dM_hangs_23 : decode (mB mM_hangs) 23 = .ok (.aload_n 0, 1) := op42 (by decide +kernel)
theorem dM_hangs_24 : decode (mB mM_hangs) 24 = .ok (.invokevirtual 322, 3) := op182 1 66 (by decide +kernel)
theorem dM_hangs_27 : decode (mB mM_hangs) 27 = .ok (.aload_n 0, 1) := op42 (by decide +kernel)
theorem dM_hangs_28 : decode (mB mM_hangs) 28 = .ok (.getfield 58, 3) := op180 0 58 (by decide +kernel)
theorem dM_hangs_31 : decode (mB mM_hangs) 31 = .ok (.iload_n 1, 1) := op27 (by decide +kernel)
theorem dM_hangs_32 : decode (mB mM_hangs) 32 = .ok (.lconst 0, 1) := op9 (by decide +kernel)
theorem dM_hangs_33 : decode (mB mM_hangs) 33 = .ok (.lastore, 1) := op80 (by decide +kernel)
theorem dM_hangs_34 : decode (mB mM_hangs) 34 = .ok (.aload_n 0, 1) := op42 (by decide +kernel)
theorem dM_hangs_35 : decode (mB mM_hangs) 35 = .ok (.getfield 61, 3) := op180 0 61 (by decide +kernel)
theorem dM_hangs_38 : decode (mB mM_hangs) 38 = .ok (.iload_n 1, 1) := op27 (by decide +kernel)
theorem dM_hangs_39 : decode (mB mM_hangs) 39 = .ok (.lconst 0, 1) := op9 (by decide +kernel)
theorem dM_hangs_40 : decode (mB mM_hangs) 40 = .ok (.lastore, 1) := op80 (by decide +kernel)
theorem dM_hangs_41 : decode (mB mM_hangs) 41 = .ok (.aload_n 0, 1) := op42 (by decide +kernel)
theorem dM_hangs_42 : decode (mB mM_hangs) 42 = .ok (.invokevirtual 310, 3) := op182 1 54 (by decide +kernel)
theorem dM_hangs_45 : decode (mB mM_hangs) 45 = .ok (.aload_n 0, 1) := op42 (by decide +kernel)
theorem dM_hangs_46 : decode (mB mM_hangs) 46 = .ok (.invokevirtual 325, 3) := op182 1 69 (by decide +kernel)
theorem dM_hangs_49 : decode (mB mM_hangs) 49 = .ok (.iload_n 2, 1) := op28 (by decide +kernel)
theorem dM_hangs_50 : decode (mB mM_hangs) 50 = .ok (.ifCond .ne 10, 3) := op154 0 10 (by decide +kernel)
theorem dM_hangs_53 : decode (mB mM_hangs) 53 = .ok (.aload_n 0, 1) := op42 (by decide +kernel)
theorem dM_hangs_54 : decode (mB mM_hangs) 54 = .ok (.getfield 313, 3) := op180 1 57 (by decide +kernel)
theorem dM_hangs_57 : decode (mB mM_hangs) 57 = .ok (.goto 7, 3) := op167 0 7 (by decide +kernel)
theorem dM_hangs_60 : decode (mB mM_hangs) 60 = .ok (.aload_n 0, 1) := op42 (by decide +kernel)
theorem dM_hangs_61 : decode (mB mM_hangs) 61 = .ok (.getfield 316, 3) := op180 1 60 (by decide +kernel)
theorem dM_hangs_64 : decode (mB mM_hangs) 64 = .ok (.ireturn, 1) := op172 (by decide +kernel)

theorem vM_hangs_0 {M : Mm} {b : Nat × Nat} {K : Int32 → Mm → Prop} {v0 : Nat} {v1 : Int32} {v2 : Int32}  
    (h : CI mM_isDoctor [.int v1] M (fun rv N => X mM_hangs 4 [(0, .ref v0), (1, .int v1), (2, .int v2)] [.int rv] N b (QI K))) : X mM_hangs 0 [(0, .ref v0), (1, .int v1), (2, .int v2)] [] M b (QI K) := by
  refine x_wf (fun hw => ?_)
  refine x_iload_n (pc := 0) dM_hangs_0 rfl (q := 1) rfl ?_
  exact x_invS (pc := 1) dM_hangs_1 (S := []) (As := [.int v1]) mlM_294 hM_isDoctor rfl ⟨by decide, by decide⟩ ⟨Nat.zero_le _, Nat.zero_le _⟩ rfl (Nat.le_of_ble_eq_true rfl) (aftI (b' := b) ⟨Nat.le_refl _, Nat.le_refl _⟩ (fun rv N h => h) h)

theorem vM_hangs_4 {M : Mm} {b : Nat × Nat} {K : Int32 → Mm → Prop} {v0 : Nat} {v1 : Int32} {v2 : Int32} {w0 : Int32}  
    (h : (w0 = 0 → (K (-1) M)) ∧ (¬ w0 = 0 → (CI mM_in [.long ((v2).toInt64), .long 0, .long 1] M (fun rv N => X mM_hangs 14 [(0, .ref v0), (1, .int v1), (2, .int v2)] [.int rv] N b (QI K))))) : X mM_hangs 4 [(0, .ref v0), (1, .int v1), (2, .int v2)] [.int w0] M b (QI K) := by
  refine x_wf (fun hw => ?_)
  obtain ⟨g1_0, g1_1⟩ := h
  refine x_if_eq (pc := 4) dM_hangs_4 (t := 17) rfl (fun q1 => ?_) (fun q1 => ?_)
  · have h := g1_0 q1
    refine x_iconst (pc := 17) dM_hangs_17 (v := (-1)) rfl ?_
    exact x_retQI (pc := 18) dM_hangs_18 rfl rfl h
  · refine x_iload_n (pc := 7) dM_hangs_7 rfl (q := 2) rfl ?_
    refine x_i2l (pc := 8) dM_hangs_8 ?_
    refine x_lconst (pc := 9) dM_hangs_9 (v := 0) rfl ?_
    refine x_lconst (pc := 10) dM_hangs_10 (v := 1) rfl ?_
    have h := g1_1 q1
    exact x_invS (pc := 11) dM_hangs_11 (S := []) (As := [.long ((v2).toInt64), .long 0, .long 1]) mlM_126 hM_in rfl ⟨by decide, by decide⟩ ⟨Nat.zero_le _, Nat.zero_le _⟩ rfl (Nat.le_of_ble_eq_true rfl) (aftI (b' := b) ⟨Nat.le_refl _, Nat.le_refl _⟩ (fun rv N h => h) h)

theorem vM_hangs_14 {M : Mm} {b : Nat × Nat} {K : Int32 → Mm → Prop} {v0 : Nat} {v1 : Int32} {v2 : Int32} {w0 : Int32} (kv0 : v0 % 64 = 11) 
    (h : (¬ w0 = 0 → (CV mM_findAll [.ref v0] M (fun N => X mM_hangs 23 [(0, .ref v0), (1, .int v1), (2, .int v2)] [] N b (QI K)))) ∧ (w0 = 0 → (K (-1) M))) : X mM_hangs 14 [(0, .ref v0), (1, .int v1), (2, .int v2)] [.int w0] M b (QI K) := by
  refine x_wf (fun hw => ?_)
  obtain ⟨g1_0, g1_1⟩ := h
  refine x_if_ne (pc := 14) dM_hangs_14 (t := 19) rfl (fun q1 => ?_) (fun q1 => ?_)
  · refine x_aload_n (pc := 19) dM_hangs_19 rfl (q := 0) rfl ?_
    have h := g1_0 q1
    exact x_invV (pc := 20) dM_hangs_20 (c := 11) (S := []) (As := []) mlM_319 hM_findAll rfl (by decide) rfl kv0 ⟨by decide, by decide⟩ ⟨Nat.zero_le _, Nat.zero_le _⟩ rfl (Nat.le_of_ble_eq_true rfl) (aftV (b' := b) ⟨Nat.le_refl _, Nat.le_refl _⟩ (fun N h => h) h)
  · have h := g1_1 q1
    refine x_iconst (pc := 17) dM_hangs_17 (v := (-1)) rfl ?_
    exact x_retQI (pc := 18) dM_hangs_18 rfl rfl h

theorem vM_hangs_23 {M : Mm} {b : Nat × Nat} {K : Int32 → Mm → Prop} {v0 : Nat} {v1 : Int32} {v2 : Int32} (kv0 : v0 % 64 = 11) 
    (h : CV mM_keepHeld [.ref v0] M (fun N => X mM_hangs 27 [(0, .ref v0), (1, .int v1), (2, .int v2)] [] N b (QI K))) : X mM_hangs 23 [(0, .ref v0), (1, .int v1), (2, .int v2)] [] M b (QI K) := by
  refine x_wf (fun hw => ?_)
  refine x_aload_n (pc := 23) dM_hangs_23 rfl (q := 0) rfl ?_
  exact x_invV (pc := 24) dM_hangs_24 (c := 11) (S := []) (As := []) mlM_322 hM_keepHeld rfl (by decide) rfl kv0 ⟨by decide, by decide⟩ ⟨Nat.zero_le _, Nat.zero_le _⟩ rfl (Nat.le_of_ble_eq_true rfl) (aftV (b' := b) ⟨Nat.le_refl _, Nat.le_refl _⟩ (fun N h => h) h)

theorem vM_hangs_27 {M : Mm} {b : Nat × Nat} {K : Int32 → Mm → Prop} {v0 : Nat} {v1 : Int32} {v2 : Int32} {r1 : Nat} {r2 : Nat} (kv0 : v0 % 64 = 11) (e1 : gr M v0 27 = some r1) (e2 : gr M v0 28 = some r2)
    (h : vp_in v1 8 ∧ (vp_in v1 8 ∧ (CV mM_findHeld [.ref v0] (sl (sl M r1 (v1).toNatClampNeg 0) r2 (v1).toNatClampNeg 0) (fun N => X mM_hangs 45 [(0, .ref v0), (2, .int v2)] [] N b (QI K))))) : X mM_hangs 27 [(0, .ref v0), (1, .int v1), (2, .int v2)] [] M b (QI K) := by
  refine x_wf (fun hw => ?_)
  refine x_aload_n (pc := 27) dM_hangs_27 rfl (q := 0) rfl ?_
  refine x_getR (pc := 28) dM_hangs_28 kv0 flM_58 rfl e1 ?_
  refine x_iload_n (pc := 31) dM_hangs_31 rfl (q := 1) rfl ?_
  refine x_lconst (pc := 32) dM_hangs_32 (v := 0) rfl ?_
  obtain ⟨s501, h⟩ := h
  refine x_astLj (pc := 33) (j := (v1).toNatClampNeg) dM_hangs_33 (wfk hw e1 kv0) ak_27 rfl s501 ?_
  refine x_aload_n (pc := 34) dM_hangs_34 rfl (q := 0) rfl ?_
  refine x_getR (pc := 35) dM_hangs_35 kv0 flM_61 rfl e2 ?_
  refine x_iload_n (pc := 38) dM_hangs_38 rfl (q := 1) rfl ?_
  refine x_lconst (pc := 39) dM_hangs_39 (v := 0) rfl ?_
  obtain ⟨s502, h⟩ := h
  refine x_astLj (pc := 40) (j := (v1).toNatClampNeg) dM_hangs_40 (wfk hw e2 kv0) ak_27 rfl s502 ?_
  refine x_aload_n (pc := 41) dM_hangs_41 rfl (q := 0) rfl ?_
  exact x_invV (pc := 42) dM_hangs_42 (c := 11) (S := []) (As := []) mlM_310 hM_findHeld rfl (by decide) rfl kv0 ⟨by decide, by decide⟩ ⟨Nat.zero_le _, Nat.zero_le _⟩ rfl (Nat.le_of_ble_eq_true rfl) (aftV (b' := b) ⟨Nat.le_refl _, Nat.le_refl _⟩ (fun N h => x_loc [0, 2] rfl h) h)

theorem vM_hangs_45 {M : Mm} {b : Nat × Nat} {K : Int32 → Mm → Prop} {v0 : Nat} {v2 : Int32} (kv0 : v0 % 64 = 11) 
    (h : CV mM_findChanged [.ref v0] M (fun N => X mM_hangs 49 [(0, .ref v0), (2, .int v2)] [] N b (QI K))) : X mM_hangs 45 [(0, .ref v0), (2, .int v2)] [] M b (QI K) := by
  refine x_wf (fun hw => ?_)
  refine x_aload_n (pc := 45) dM_hangs_45 rfl (q := 0) rfl ?_
  exact x_invV (pc := 46) dM_hangs_46 (c := 11) (S := []) (As := []) mlM_325 hM_findChanged rfl (by decide) rfl kv0 ⟨by decide, by decide⟩ ⟨Nat.zero_le _, Nat.zero_le _⟩ rfl (Nat.le_of_ble_eq_true rfl) (aftV (b' := b) ⟨Nat.le_refl _, Nat.le_refl _⟩ (fun N h => h) h)

theorem vM_hangs_49 {M : Mm} {b : Nat × Nat} {K : Int32 → Mm → Prop} {v0 : Nat} {v2 : Int32} (kv0 : v0 % 64 = 11) 
    (h : K (if v2 = 0 then (gi M v0 35) else (gi M v0 36) : Int32) M) : X mM_hangs 49 [(0, .ref v0), (2, .int v2)] [] M b (QI K) := by
  refine x_wf (fun hw => ?_)
  refine x_iload_n (pc := 49) dM_hangs_49 rfl (q := 1) rfl ?_
  suffices hJ : X mM_hangs 64 [(0, .ref v0), (2, .int v2)] [.int (if v2 = 0 then (gi M v0 35) else (gi M v0 36) : Int32)] M b (QI K) by
    refine x_if_ne (pc := 50) dM_hangs_50 (t := 60) rfl (fun q1 => ?_) (fun q1 => ?_)
    · refine x_aload_n (pc := 60) dM_hangs_60 rfl (q := 0) rfl ?_
      refine x_getI (pc := 61) dM_hangs_61 kv0 flM_316 rfl ?_
      first | (rw [if_neg q1] at hJ; exact hJ) | (simp only [if_neg q1] at hJ ⊢; exact hJ)
    · refine x_aload_n (pc := 53) dM_hangs_53 rfl (q := 0) rfl ?_
      refine x_getI (pc := 54) dM_hangs_54 kv0 flM_313 rfl ?_
      refine x_goto (pc := 57) dM_hangs_57 (t := 64) rfl ?_
      first | (rw [if_pos q1] at hJ; exact hJ) | (simp only [if_pos q1] at hJ ⊢; exact hJ)
  exact x_retQI (pc := 64) dM_hangs_64 rfl rfl h

theorem dM_findAll_0 : decode (mB mM_findAll) 0 = .ok (.aload_n 0, 1) := op42 (by decide +kernel)
theorem dM_findAll_1 : decode (mB mM_findAll) 1 = .ok (.invokevirtual 297, 3) := op182 1 41 (by decide +kernel)
theorem dM_findAll_4 : decode (mB mM_findAll) 4 = .ok (.aload_n 0, 1) := op42 (by decide +kernel)
theorem dM_findAll_5 : decode (mB mM_findAll) 5 = .ok (.invokevirtual 310, 3) := op182 1 54 (by decide +kernel)
theorem dM_findAll_8 : decode (mB mM_findAll) 8 = .ok (.return_, 1) := op177 (by decide +kernel)

theorem vM_findAll_0 {M : Mm} {b : Nat × Nat} {K : Mm → Prop} {v0 : Nat} (kv0 : v0 % 64 = 11) 
    (h : CV mM_findEach [.ref v0] M (fun N => X mM_findAll 4 [(0, .ref v0)] [] N b (QV K))) : X mM_findAll 0 [(0, .ref v0)] [] M b (QV K) := by
  refine x_wf (fun hw => ?_)
  refine x_aload_n (pc := 0) dM_findAll_0 rfl (q := 0) rfl ?_
  exact x_invV (pc := 1) dM_findAll_1 (c := 11) (S := []) (As := []) mlM_297 hM_findEach rfl (by decide) rfl kv0 ⟨by decide, by decide⟩ ⟨Nat.zero_le _, Nat.zero_le _⟩ rfl (Nat.le_of_ble_eq_true rfl) (aftV (b' := b) ⟨Nat.le_refl _, Nat.le_refl _⟩ (fun N h => h) h)

theorem vM_findAll_4 {M : Mm} {b : Nat × Nat} {K : Mm → Prop} {v0 : Nat} (kv0 : v0 % 64 = 11) 
    (h : CV mM_findHeld [.ref v0] M (fun N => X mM_findAll 8 [] [] N b (QV K))) : X mM_findAll 4 [(0, .ref v0)] [] M b (QV K) := by
  refine x_wf (fun hw => ?_)
  refine x_aload_n (pc := 4) dM_findAll_4 rfl (q := 0) rfl ?_
  exact x_invV (pc := 5) dM_findAll_5 (c := 11) (S := []) (As := []) mlM_310 hM_findHeld rfl (by decide) rfl kv0 ⟨by decide, by decide⟩ ⟨Nat.zero_le _, Nat.zero_le _⟩ rfl (Nat.le_of_ble_eq_true rfl) (aftV (b' := b) ⟨Nat.le_refl _, Nat.le_refl _⟩ (fun N h => x_loc [] rfl h) h)

theorem vM_findAll_8 {M : Mm} {b : Nat × Nat} {K : Mm → Prop}   
    (h : K M) : X mM_findAll 8 [] [] M b (QV K) := by
  refine x_wf (fun hw => ?_)
  exact x_retQV (pc := 8) dM_findAll_8 rfl h

theorem dM_findHeld_0 : decode (mB mM_findHeld) 0 = .ok (.iconst 0, 1) := op3 (by decide +kernel)
theorem dM_findHeld_1 : decode (mB mM_findHeld) 1 = .ok (.istore_n 1, 1) := op60 (by decide +kernel)
theorem dM_findHeld_2 : decode (mB mM_findHeld) 2 = .ok (.iload_n 1, 1) := op27 (by decide +kernel)
theorem dM_findHeld_3 : decode (mB mM_findHeld) 3 = .ok (.bipush 64, 2) := op16 64 (by decide +kernel)
theorem dM_findHeld_5 : decode (mB mM_findHeld) 5 = .ok (.if_icmp .ge 260, 3) := op162 1 4 (by decide +kernel)
theorem dM_findHeld_8 : decode (mB mM_findHeld) 8 = .ok (.aload_n 0, 1) := op42 (by decide +kernel)
theorem dM_findHeld_9 : decode (mB mM_findHeld) 9 = .ok (.getfield 73, 3) := op180 0 73 (by decide +kernel)
theorem dM_findHeld_12 : decode (mB mM_findHeld) 12 = .ok (.iload_n 1, 1) := op27 (by decide +kernel)
theorem dM_findHeld_13 : decode (mB mM_findHeld) 13 = .ok (.iconst 0, 1) := op3 (by decide +kernel)
theorem dM_findHeld_14 : decode (mB mM_findHeld) 14 = .ok (.iastore, 1) := op79 (by decide +kernel)
theorem dM_findHeld_15 : decode (mB mM_findHeld) 15 = .ok (.aload_n 0, 1) := op42 (by decide +kernel)
theorem dM_findHeld_16 : decode (mB mM_findHeld) 16 = .ok (.getfield 76, 3) := op180 0 76 (by decide +kernel)
theorem dM_findHeld_19 : decode (mB mM_findHeld) 19 = .ok (.iload_n 1, 1) := op27 (by decide +kernel)
theorem dM_findHeld_20 : decode (mB mM_findHeld) 20 = .ok (.iconst 0, 1) := op3 (by decide +kernel)
theorem dM_findHeld_21 : decode (mB mM_findHeld) 21 = .ok (.iastore, 1) := op79 (by decide +kernel)
theorem dM_findHeld_22 : decode (mB mM_findHeld) 22 = .ok (.iconst 0, 1) := op3 (by decide +kernel)
theorem dM_findHeld_23 : decode (mB mM_findHeld) 23 = .ok (.istore_n 2, 1) := op61 (by decide +kernel)
theorem dM_findHeld_24 : decode (mB mM_findHeld) 24 = .ok (.iload_n 2, 1) := op28 (by decide +kernel)
theorem dM_findHeld_25 : decode (mB mM_findHeld) 25 = .ok (.bipush 8, 2) := op16 8 (by decide +kernel)
theorem dM_findHeld_27 : decode (mB mM_findHeld) 27 = .ok (.if_icmp .ge 49, 3) := op162 0 49 (by decide +kernel)
theorem dM_findHeld_30 : decode (mB mM_findHeld) 30 = .ok (.aload_n 0, 1) := op42 (by decide +kernel)
theorem dM_findHeld_31 : decode (mB mM_findHeld) 31 = .ok (.getfield 73, 3) := op180 0 73 (by decide +kernel)
theorem dM_findHeld_34 : decode (mB mM_findHeld) 34 = .ok (.iload_n 1, 1) := op27 (by decide +kernel)
theorem dM_findHeld_35 : decode (mB mM_findHeld) 35 = .ok (.dup2, 1) := op92 (by decide +kernel)
theorem dM_findHeld_36 : decode (mB mM_findHeld) 36 = .ok (.iaload, 1) := op46 (by decide +kernel)
theorem dM_findHeld_37 : decode (mB mM_findHeld) 37 = .ok (.aload_n 0, 1) := op42 (by decide +kernel)
theorem dM_findHeld_38 : decode (mB mM_findHeld) 38 = .ok (.getfield 58, 3) := op180 0 58 (by decide +kernel)
theorem dM_findHeld_41 : decode (mB mM_findHeld) 41 = .ok (.iload_n 2, 1) := op28 (by decide +kernel)
theorem dM_findHeld_42 : decode (mB mM_findHeld) 42 = .ok (.laload, 1) := op47 (by decide +kernel)
theorem dM_findHeld_43 : decode (mB mM_findHeld) 43 = .ok (.iload_n 1, 1) := op27 (by decide +kernel)
theorem dM_findHeld_44 : decode (mB mM_findHeld) 44 = .ok (.lshr, 1) := op123 (by decide +kernel)
theorem dM_findHeld_45 : decode (mB mM_findHeld) 45 = .ok (.lconst 1, 1) := op10 (by decide +kernel)
theorem dM_findHeld_46 : decode (mB mM_findHeld) 46 = .ok (.land, 1) := op127 (by decide +kernel)
theorem dM_findHeld_47 : decode (mB mM_findHeld) 47 = .ok (.l2i, 1) := op136 (by decide +kernel)
theorem dM_findHeld_48 : decode (mB mM_findHeld) 48 = .ok (.iadd, 1) := op96 (by decide +kernel)
theorem dM_findHeld_49 : decode (mB mM_findHeld) 49 = .ok (.iastore, 1) := op79 (by decide +kernel)
theorem dM_findHeld_50 : decode (mB mM_findHeld) 50 = .ok (.aload_n 0, 1) := op42 (by decide +kernel)
theorem dM_findHeld_51 : decode (mB mM_findHeld) 51 = .ok (.getfield 76, 3) := op180 0 76 (by decide +kernel)
theorem dM_findHeld_54 : decode (mB mM_findHeld) 54 = .ok (.iload_n 1, 1) := op27 (by decide +kernel)
theorem dM_findHeld_55 : decode (mB mM_findHeld) 55 = .ok (.dup2, 1) := op92 (by decide +kernel)
theorem dM_findHeld_56 : decode (mB mM_findHeld) 56 = .ok (.iaload, 1) := op46 (by decide +kernel)
theorem dM_findHeld_57 : decode (mB mM_findHeld) 57 = .ok (.aload_n 0, 1) := op42 (by decide +kernel)
theorem dM_findHeld_58 : decode (mB mM_findHeld) 58 = .ok (.getfield 61, 3) := op180 0 61 (by decide +kernel)
theorem dM_findHeld_61 : decode (mB mM_findHeld) 61 = .ok (.iload_n 2, 1) := op28 (by decide +kernel)
theorem dM_findHeld_62 : decode (mB mM_findHeld) 62 = .ok (.laload, 1) := op47 (by decide +kernel)
theorem dM_findHeld_63 : decode (mB mM_findHeld) 63 = .ok (.iload_n 1, 1) := op27 (by decide +kernel)
theorem dM_findHeld_64 : decode (mB mM_findHeld) 64 = .ok (.lshr, 1) := op123 (by decide +kernel)
theorem dM_findHeld_65 : decode (mB mM_findHeld) 65 = .ok (.lconst 1, 1) := op10 (by decide +kernel)
theorem dM_findHeld_66 : decode (mB mM_findHeld) 66 = .ok (.land, 1) := op127 (by decide +kernel)
theorem dM_findHeld_67 : decode (mB mM_findHeld) 67 = .ok (.l2i, 1) := op136 (by decide +kernel)
theorem dM_findHeld_68 : decode (mB mM_findHeld) 68 = .ok (.iadd, 1) := op96 (by decide +kernel)
theorem dM_findHeld_69 : decode (mB mM_findHeld) 69 = .ok (.iastore, 1) := op79 (by decide +kernel)
theorem dM_findHeld_70 : decode (mB mM_findHeld) 70 = .ok (.iinc 2 1, 3) := op132 2 1 (by decide +kernel)
theorem dM_findHeld_73 : decode (mB mM_findHeld) 73 = .ok (.goto (-49), 3) := op167 255 207 (by decide +kernel)
theorem dM_findHeld_76 : decode (mB mM_findHeld) 76 = .ok (.aload_n 0, 1) := op42 (by decide +kernel)
theorem dM_findHeld_77 : decode (mB mM_findHeld) 77 = .ok (.iload_n 1, 1) := op27 (by decide +kernel)
theorem dM_findHeld_78 : decode (mB mM_findHeld) 78 = .ok (.invokevirtual 307, 3) := op182 1 51 (by decide +kernel)
theorem dM_findHeld_81 : decode (mB mM_findHeld) 81 = .ok (.istore_n 2, 1) := op61 (by decide +kernel)
theorem dM_findHeld_82 : decode (mB mM_findHeld) 82 = .ok (.aload_n 0, 1) := op42 (by decide +kernel)
theorem dM_findHeld_83 : decode (mB mM_findHeld) 83 = .ok (.getfield 36, 3) := op180 0 36 (by decide +kernel)
theorem dM_findHeld_86 : decode (mB mM_findHeld) 86 = .ok (.iconst 4, 1) := op7 (by decide +kernel)
theorem dM_findHeld_87 : decode (mB mM_findHeld) 87 = .ok (.iaload, 1) := op46 (by decide +kernel)
theorem dM_findHeld_88 : decode (mB mM_findHeld) 88 = .ok (.bipush (-4), 2) := op16 252 (by decide +kernel)
theorem dM_findHeld_90 : decode (mB mM_findHeld) 90 = .ok (.if_icmp .ne 8, 3) := op160 0 8 (by decide +kernel)
theorem dM_findHeld_93 : decode (mB mM_findHeld) 93 = .ok (.bipush (-4), 2) := op16 252 (by decide +kernel)
theorem dM_findHeld_95 : decode (mB mM_findHeld) 95 = .ok (.goto 29, 3) := op167 0 29 (by decide +kernel)
theorem dM_findHeld_98 : decode (mB mM_findHeld) 98 = .ok (.aload_n 0, 1) := op42 (by decide +kernel)
theorem dM_findHeld_99 : decode (mB mM_findHeld) 99 = .ok (.getfield 58, 3) := op180 0 58 (by decide +kernel)
theorem dM_findHeld_102 : decode (mB mM_findHeld) 102 = .ok (.aload_n 0, 1) := op42 (by decide +kernel)
theorem dM_findHeld_103 : decode (mB mM_findHeld) 103 = .ok (.getfield 36, 3) := op180 0 36 (by decide +kernel)
theorem dM_findHeld_106 : decode (mB mM_findHeld) 106 = .ok (.iconst 4, 1) := op7 (by decide +kernel)
theorem dM_findHeld_107 : decode (mB mM_findHeld) 107 = .ok (.iaload, 1) := op46 (by decide +kernel)
theorem dM_findHeld_108 : decode (mB mM_findHeld) 108 = .ok (.laload, 1) := op47 (by decide +kernel)
theorem dM_findHeld_109 : decode (mB mM_findHeld) 109 = .ok (.aload_n 0, 1) := op42 (by decide +kernel)
theorem dM_findHeld_110 : decode (mB mM_findHeld) 110 = .ok (.getfield 61, 3) := op180 0 61 (by decide +kernel)
theorem dM_findHeld_113 : decode (mB mM_findHeld) 113 = .ok (.aload_n 0, 1) := op42 (by decide +kernel)
theorem dM_findHeld_114 : decode (mB mM_findHeld) 114 = .ok (.getfield 36, 3) := op180 0 36 (by decide +kernel)
theorem dM_findHeld_117 : decode (mB mM_findHeld) 117 = .ok (.iconst 4, 1) := op7 (by decide +kernel)
theorem dM_findHeld_118 : decode (mB mM_findHeld) 118 = .ok (.iaload, 1) := op46 (by decide +kernel)
theorem dM_findHeld_119 : decode (mB mM_findHeld) 119 = .ok (.laload, 1) := op47 (by decide +kernel)
theorem dM_findHeld_120 : decode (mB mM_findHeld) 120 = .ok (.iload_n 1, 1) := op27 (by decide +kernel)
theorem dM_findHeld_121 : decode (mB mM_findHeld) 121 = .ok (.invokestatic 278, 3) := op184 1 22 (by decide +kernel)
theorem dM_findHeld_124 : decode (mB mM_findHeld) 124 = .ok (.istore_n 3, 1) := op62 (by decide +kernel)
theorem dM_findHeld_125 : decode (mB mM_findHeld) 125 = .ok (.aload_n 0, 1) := op42 (by decide +kernel)
theorem dM_findHeld_126 : decode (mB mM_findHeld) 126 = .ok (.getfield 70, 3) := op180 0 70 (by decide +kernel)
theorem dM_findHeld_129 : decode (mB mM_findHeld) 129 = .ok (.iload_n 1, 1) := op27 (by decide +kernel)
theorem dM_findHeld_130 : decode (mB mM_findHeld) 130 = .ok (.iload_n 2, 1) := op28 (by decide +kernel)
theorem dM_findHeld_131 : decode (mB mM_findHeld) 131 = .ok (.bipush (-4), 2) := op16 252 (by decide +kernel)
theorem dM_findHeld_133 : decode (mB mM_findHeld) 133 = .ok (.if_icmp .eq 7, 3) := op159 0 7 (by decide +kernel)
theorem dM_findHeld_136 : decode (mB mM_findHeld) 136 = .ok (.iconst 1, 1) := op4 (by decide +kernel)
theorem dM_findHeld_137 : decode (mB mM_findHeld) 137 = .ok (.goto 48, 3) := op167 0 48 (by decide +kernel)
theorem dM_findHeld_140 : decode (mB mM_findHeld) 140 = .ok (.aload_n 0, 1) := op42 (by decide +kernel)
theorem dM_findHeld_141 : decode (mB mM_findHeld) 141 = .ok (.getfield 73, 3) := op180 0 73 (by decide +kernel)
theorem dM_findHeld_144 : decode (mB mM_findHeld) 144 = .ok (.iload_n 1, 1) := op27 (by decide +kernel)
theorem dM_findHeld_145 : decode (mB mM_findHeld) 145 = .ok (.iaload, 1) := op46 (by decide +kernel)
theorem dM_findHeld_146 : decode (mB mM_findHeld) 146 = .ok (.aload_n 0, 1) := op42 (by decide +kernel)
theorem dM_findHeld_147 : decode (mB mM_findHeld) 147 = .ok (.getfield 76, 3) := op180 0 76 (by decide +kernel)
theorem dM_findHeld_150 : decode (mB mM_findHeld) 150 = .ok (.iload_n 1, 1) := op27 (by decide +kernel)
theorem dM_findHeld_151 : decode (mB mM_findHeld) 151 = .ok (.iaload, 1) := op46 (by decide +kernel)
theorem dM_findHeld_152 : decode (mB mM_findHeld) 152 = .ok (.if_icmp .eq 7, 3) := op159 0 7 (by decide +kernel)
theorem dM_findHeld_155 : decode (mB mM_findHeld) 155 = .ok (.iconst 2, 1) := op5 (by decide +kernel)
theorem dM_findHeld_156 : decode (mB mM_findHeld) 156 = .ok (.goto 29, 3) := op167 0 29 (by decide +kernel)
theorem dM_findHeld_159 : decode (mB mM_findHeld) 159 = .ok (.iload_n 3, 1) := op29 (by decide +kernel)
theorem dM_findHeld_160 : decode (mB mM_findHeld) 160 = .ok (.bipush (-4), 2) := op16 252 (by decide +kernel)
theorem dM_findHeld_162 : decode (mB mM_findHeld) 162 = .ok (.if_icmp .eq 7, 3) := op159 0 7 (by decide +kernel)
theorem dM_findHeld_165 : decode (mB mM_findHeld) 165 = .ok (.iconst 3, 1) := op6 (by decide +kernel)
theorem dM_findHeld_166 : decode (mB mM_findHeld) 166 = .ok (.goto 19, 3) := op167 0 19 (by decide +kernel)
theorem dM_findHeld_169 : decode (mB mM_findHeld) 169 = .ok (.aload_n 0, 1) := op42 (by decide +kernel)
theorem dM_findHeld_170 : decode (mB mM_findHeld) 170 = .ok (.getfield 36, 3) := op180 0 36 (by decide +kernel)
theorem dM_findHeld_173 : decode (mB mM_findHeld) 173 = .ok (.iconst 5, 1) := op8 (by decide +kernel)
theorem dM_findHeld_174 : decode (mB mM_findHeld) 174 = .ok (.iaload, 1) := op46 (by decide +kernel)
theorem dM_findHeld_175 : decode (mB mM_findHeld) 175 = .ok (.bipush (-4), 2) := op16 252 (by decide +kernel)
theorem dM_findHeld_177 : decode (mB mM_findHeld) 177 = .ok (.if_icmp .eq 7, 3) := op159 0 7 (by decide +kernel)
theorem dM_findHeld_180 : decode (mB mM_findHeld) 180 = .ok (.iconst 4, 1) := op7 (by decide +kernel)
theorem dM_findHeld_181 : decode (mB mM_findHeld) 181 = .ok (.goto 4, 3) := op167 0 4 (by decide +kernel)
theorem dM_findHeld_184 : decode (mB mM_findHeld) 184 = .ok (.iconst 0, 1) := op3 (by decide +kernel)
theorem dM_findHeld_185 : decode (mB mM_findHeld) 185 = .ok (.iastore, 1) := op79 (by decide +kernel)
theorem dM_findHeld_186 : decode (mB mM_findHeld) 186 = .ok (.aload_n 0, 1) := op42 (by decide +kernel)
theorem dM_findHeld_187 : decode (mB mM_findHeld) 187 = .ok (.getfield 67, 3) := op180 0 67 (by decide +kernel)
theorem dM_findHeld_190 : decode (mB mM_findHeld) 190 = .ok (.iload_n 1, 1) := op27 (by decide +kernel)
theorem dM_findHeld_191 : decode (mB mM_findHeld) 191 = .ok (.aload_n 0, 1) := op42 (by decide +kernel)
theorem dM_findHeld_192 : decode (mB mM_findHeld) 192 = .ok (.getfield 70, 3) := op180 0 70 (by decide +kernel)
theorem dM_findHeld_195 : decode (mB mM_findHeld) 195 = .ok (.iload_n 1, 1) := op27 (by decide +kernel)
theorem dM_findHeld_196 : decode (mB mM_findHeld) 196 = .ok (.iaload, 1) := op46 (by decide +kernel)
theorem dM_findHeld_197 : decode (mB mM_findHeld) 197 = .ok (.iconst 1, 1) := op4 (by decide +kernel)
theorem dM_findHeld_198 : decode (mB mM_findHeld) 198 = .ok (.if_icmp .ne 7, 3) := op160 0 7 (by decide +kernel)
theorem dM_findHeld_201 : decode (mB mM_findHeld) 201 = .ok (.iload_n 2, 1) := op28 (by decide +kernel)
theorem dM_findHeld_202 : decode (mB mM_findHeld) 202 = .ok (.goto 56, 3) := op167 0 56 (by decide +kernel)
theorem dM_findHeld_205 : decode (mB mM_findHeld) 205 = .ok (.aload_n 0, 1) := op42 (by decide +kernel)
theorem dM_findHeld_206 : decode (mB mM_findHeld) 206 = .ok (.getfield 70, 3) := op180 0 70 (by decide +kernel)
theorem dM_findHeld_209 : decode (mB mM_findHeld) 209 = .ok (.iload_n 1, 1) := op27 (by decide +kernel)
theorem dM_findHeld_210 : decode (mB mM_findHeld) 210 = .ok (.iaload, 1) := op46 (by decide +kernel)
theorem dM_findHeld_211 : decode (mB mM_findHeld) 211 = .ok (.iconst 2, 1) := op5 (by decide +kernel)
theorem dM_findHeld_212 : decode (mB mM_findHeld) 212 = .ok (.if_icmp .ne 26, 3) := op160 0 26 (by decide +kernel)
theorem dM_findHeld_215 : decode (mB mM_findHeld) 215 = .ok (.aload_n 0, 1) := op42 (by decide +kernel)
theorem dM_findHeld_216 : decode (mB mM_findHeld) 216 = .ok (.getfield 73, 3) := op180 0 73 (by decide +kernel)
theorem dM_findHeld_219 : decode (mB mM_findHeld) 219 = .ok (.iload_n 1, 1) := op27 (by decide +kernel)
theorem dM_findHeld_220 : decode (mB mM_findHeld) 220 = .ok (.iaload, 1) := op46 (by decide +kernel)
theorem dM_findHeld_221 : decode (mB mM_findHeld) 221 = .ok (.aload_n 0, 1) := op42 (by decide +kernel)
theorem dM_findHeld_222 : decode (mB mM_findHeld) 222 = .ok (.getfield 76, 3) := op180 0 76 (by decide +kernel)
theorem dM_findHeld_225 : decode (mB mM_findHeld) 225 = .ok (.iload_n 1, 1) := op27 (by decide +kernel)
theorem dM_findHeld_226 : decode (mB mM_findHeld) 226 = .ok (.iaload, 1) := op46 (by decide +kernel)
theorem dM_findHeld_227 : decode (mB mM_findHeld) 227 = .ok (.if_icmp .le 7, 3) := op164 0 7 (by decide +kernel)
theorem dM_findHeld_230 : decode (mB mM_findHeld) 230 = .ok (.iconst 1, 1) := op4 (by decide +kernel)
theorem dM_findHeld_231 : decode (mB mM_findHeld) 231 = .ok (.goto 27, 3) := op167 0 27 (by decide +kernel)
theorem dM_findHeld_234 : decode (mB mM_findHeld) 234 = .ok (.iconst 0, 1) := op3 (by decide +kernel)
theorem dM_findHeld_235 : decode (mB mM_findHeld) 235 = .ok (.goto 23, 3) := op167 0 23 (by decide +kernel)
theorem dM_findHeld_238 : decode (mB mM_findHeld) 238 = .ok (.aload_n 0, 1) := op42 (by decide +kernel)
theorem dM_findHeld_239 : decode (mB mM_findHeld) 239 = .ok (.getfield 70, 3) := op180 0 70 (by decide +kernel)
theorem dM_findHeld_242 : decode (mB mM_findHeld) 242 = .ok (.iload_n 1, 1) := op27 (by decide +kernel)
theorem dM_findHeld_243 : decode (mB mM_findHeld) 243 = .ok (.iaload, 1) := op46 (by decide +kernel)
theorem dM_findHeld_244 : decode (mB mM_findHeld) 244 = .ok (.iconst 3, 1) := op6 (by decide +kernel)
theorem dM_findHeld_245 : decode (mB mM_findHeld) 245 = .ok (.if_icmp .ne 7, 3) := op160 0 7 (by decide +kernel)
theorem dM_findHeld_248 : decode (mB mM_findHeld) 248 = .ok (.iload_n 3, 1) := op29 (by decide +kernel)
theorem dM_findHeld_249 : decode (mB mM_findHeld) 249 = .ok (.goto 9, 3) := op167 0 9 (by decide +kernel)
theorem dM_findHeld_252 : decode (mB mM_findHeld) 252 = .ok (.aload_n 0, 1) := op42 (by decide +kernel)
theorem dM_findHeld_253 : decode (mB mM_findHeld) 253 = .ok (.getfield 36, 3) := op180 0 36 (by decide +kernel)
theorem dM_findHeld_256 : decode (mB mM_findHeld) 256 = .ok (.iconst 5, 1) := op8 (by decide +kernel)
theorem dM_findHeld_257 : decode (mB mM_findHeld) 257 = .ok (.iaload, 1) := op46 (by decide +kernel)
theorem dM_findHeld_258 : decode (mB mM_findHeld) 258 = .ok (.iastore, 1) := op79 (by decide +kernel)
theorem dM_findHeld_259 : decode (mB mM_findHeld) 259 = .ok (.iinc 1 1, 3) := op132 1 1 (by decide +kernel)
theorem dM_findHeld_262 : decode (mB mM_findHeld) 262 = .ok (.goto (-260), 3) := op167 254 252 (by decide +kernel)
theorem dM_findHeld_265 : decode (mB mM_findHeld) 265 = .ok (.return_, 1) := op177 (by decide +kernel)

theorem vM_findHeld_0 {M : Mm} {b : Nat × Nat} {K : Mm → Prop} {v0 : Nat}  
    (h : X mM_findHeld 2 [(0, .ref v0), (1, .int 0)] [] M b (QV K)) : X mM_findHeld 0 [(0, .ref v0)] [] M b (QV K) := by
  refine x_wf (fun hw => ?_)
  refine x_iconst (pc := 0) dM_findHeld_0 (v := 0) rfl ?_
  refine x_istore_n (pc := 1) dM_findHeld_1 rfl (by decide) (L' := [(1, .int 0), (0, .ref v0)]) rfl ?_
  exact x_loc [1, 0] rfl h

theorem vM_findHeld_2 {M : Mm} {b : Nat × Nat} {K : Mm → Prop} {v0 : Nat} {v1 : Int32} {r1 : Nat} {r2 : Nat} (kv0 : v0 % 64 = 11) (e1 : gr M v0 32 = some r1) (e2 : gr M v0 33 = some r2)
    (h : (64 ≤ v1 → (K M)) ∧ (¬ 64 ≤ v1 → (vp_in v1 64 ∧ (vp_in v1 64 ∧ (X mM_findHeld 24 [(0, .ref v0), (1, .int v1), (2, .int 0)] [] (si (si M r1 (v1).toNatClampNeg 0) r2 (v1).toNatClampNeg 0) b (QV K)))))) : X mM_findHeld 2 [(0, .ref v0), (1, .int v1)] [] M b (QV K) := by
  refine x_wf (fun hw => ?_)
  refine x_iload_n (pc := 2) dM_findHeld_2 rfl (q := 1) rfl ?_
  refine x_bipush (pc := 3) dM_findHeld_3 (v := 64) rfl ?_
  obtain ⟨g1_0, g1_1⟩ := h
  refine x_icmp_ge (pc := 5) dM_findHeld_5 (t := 265) rfl (fun q1 => ?_) (fun q1 => ?_)
  · have h := g1_0 q1
    exact x_retQV (pc := 265) dM_findHeld_265 rfl h
  · refine x_aload_n (pc := 8) dM_findHeld_8 rfl (q := 0) rfl ?_
    refine x_getR (pc := 9) dM_findHeld_9 kv0 flM_73 rfl e1 ?_
    refine x_iload_n (pc := 12) dM_findHeld_12 rfl (q := 1) rfl ?_
    refine x_iconst (pc := 13) dM_findHeld_13 (v := 0) rfl ?_
    have h := g1_1 q1
    obtain ⟨s501, h⟩ := h
    refine x_astIj (pc := 14) (j := (v1).toNatClampNeg) (v := 0) (Or.inl ⟨rfl, rfl, rfl⟩) dM_findHeld_14 (wfk hw e1 kv0) ak_14 rfl s501 ?_
    refine x_aload_n (pc := 15) dM_findHeld_15 rfl (q := 0) rfl ?_
    refine x_getR (pc := 16) dM_findHeld_16 kv0 flM_76 rfl e2 ?_
    refine x_iload_n (pc := 19) dM_findHeld_19 rfl (q := 1) rfl ?_
    refine x_iconst (pc := 20) dM_findHeld_20 (v := 0) rfl ?_
    obtain ⟨s502, h⟩ := h
    refine x_astIj (pc := 21) (j := (v1).toNatClampNeg) (v := 0) (Or.inl ⟨rfl, rfl, rfl⟩) dM_findHeld_21 (wfk hw e2 kv0) ak_14 rfl s502 ?_
    refine x_iconst (pc := 22) dM_findHeld_22 (v := 0) rfl ?_
    refine x_istore_n (pc := 23) dM_findHeld_23 rfl (by decide) (L' := [(2, .int 0), (0, .ref v0), (1, .int v1)]) rfl ?_
    exact x_loc [1, 2, 0] rfl h

theorem vM_findHeld_24 {M : Mm} {b : Nat × Nat} {K : Mm → Prop} {v0 : Nat} {v1 : Int32} {v2 : Int32} {r1 : Nat} {r2 : Nat} {r3 : Nat} {r4 : Nat} (kv0 : v0 % 64 = 11) (e1 : gr M v0 32 = some r1) (e2 : gr M v0 27 = some r2) (e3 : gr M v0 33 = some r3) (e4 : gr M v0 28 = some r4)
    (h : (¬ 8 ≤ v2 → vp_in v1 64) ∧ (¬ 8 ≤ v2 → vp_in v2 8) ∧ (8 ≤ v2 → (CI mM_lawOf [.ref v0, .int v1] M (fun rv N => X mM_findHeld 81 [(0, .ref v0), (1, .int v1)] [.int rv] N b (QV K)))) ∧ (¬ 8 ≤ v2 → (vp_in v1 64 ∧ (vp_in v1 64 ∧ (vp_in v2 8 ∧ (vp_in v1 64 ∧ (X mM_findHeld 24 [(0, .ref v0), (1, .int v1), (2, .int (v2 + 1))] [] (si (si M r1 (v1).toNatClampNeg ((gi M r1 (v1).toNatClampNeg) + ((((gl M r2 (v2).toNatClampNeg) >>> ((v1).toInt64 &&& 63)) &&& 1).toInt32))) r3 (v1).toNatClampNeg ((gi (si M r1 (v1).toNatClampNeg ((gi M r1 (v1).toNatClampNeg) + ((((gl M r2 (v2).toNatClampNeg) >>> ((v1).toInt64 &&& 63)) &&& 1).toInt32))) r3 (v1).toNatClampNeg) + ((((gl (si M r1 (v1).toNatClampNeg ((gi M r1 (v1).toNatClampNeg) + ((((gl M r2 (v2).toNatClampNeg) >>> ((v1).toInt64 &&& 63)) &&& 1).toInt32))) r4 (v2).toNatClampNeg) >>> ((v1).toInt64 &&& 63)) &&& 1).toInt32))) b (QV K)))))))) : X mM_findHeld 24 [(0, .ref v0), (1, .int v1), (2, .int v2)] [] M b (QV K) := by
  refine x_wf (fun hw => ?_)
  refine x_iload_n (pc := 24) dM_findHeld_24 rfl (q := 2) rfl ?_
  refine x_bipush (pc := 25) dM_findHeld_25 (v := 8) rfl ?_
  obtain ⟨s1, s2, g1_0, g1_1⟩ := h
  refine x_icmp_ge (pc := 27) dM_findHeld_27 (t := 76) rfl (fun q1 => ?_) (fun q1 => ?_)
  · refine x_aload_n (pc := 76) dM_findHeld_76 rfl (q := 0) rfl ?_
    refine x_iload_n (pc := 77) dM_findHeld_77 rfl (q := 1) rfl ?_
    have h := g1_0 q1
    exact x_invV (pc := 78) dM_findHeld_78 (c := 11) (S := []) (As := [.int v1]) mlM_307 hM_lawOf rfl (by decide) rfl kv0 ⟨by decide, by decide⟩ ⟨Nat.zero_le _, Nat.zero_le _⟩ rfl (Nat.le_of_ble_eq_true rfl) (aftI (b' := b) ⟨Nat.le_refl _, Nat.le_refl _⟩ (fun rv N h => x_loc [0, 1] rfl h) h)
  · refine x_aload_n (pc := 30) dM_findHeld_30 rfl (q := 0) rfl ?_
    refine x_getR (pc := 31) dM_findHeld_31 kv0 flM_73 rfl e1 ?_
    refine x_iload_n (pc := 34) dM_findHeld_34 rfl (q := 1) rfl ?_
    refine x_dup2 (pc := 35) dM_findHeld_35 rfl rfl ?_
    refine x_aldIj (pc := 36) (j := (v1).toNatClampNeg) (Or.inl ⟨rfl, rfl⟩) dM_findHeld_36 (wfk hw e1 kv0) ak_14 rfl (s1 q1) ?_
    refine x_aload_n (pc := 37) dM_findHeld_37 rfl (q := 0) rfl ?_
    refine x_getR (pc := 38) dM_findHeld_38 kv0 flM_58 rfl e2 ?_
    refine x_iload_n (pc := 41) dM_findHeld_41 rfl (q := 2) rfl ?_
    refine x_aldLj (pc := 42) (j := (v2).toNatClampNeg) dM_findHeld_42 (wfk hw e2 kv0) ak_27 rfl (s2 q1) ?_
    refine x_iload_n (pc := 43) dM_findHeld_43 rfl (q := 1) rfl ?_
    refine x_lshr (pc := 44) dM_findHeld_44 ?_
    refine x_lconst (pc := 45) dM_findHeld_45 (v := 1) rfl ?_
    refine x_land (pc := 46) dM_findHeld_46 ?_
    refine x_l2i (pc := 47) dM_findHeld_47 ?_
    refine x_iadd (pc := 48) dM_findHeld_48 ?_
    have h := g1_1 q1
    obtain ⟨s503, h⟩ := h
    refine x_astIj (pc := 49) (j := (v1).toNatClampNeg) (v := (gi M r1 (v1).toNatClampNeg) + ((((gl M r2 (v2).toNatClampNeg) >>> ((v1).toInt64 &&& 63)) &&& 1).toInt32)) (Or.inl ⟨rfl, rfl, rfl⟩) dM_findHeld_49 (wfk hw e1 kv0) ak_14 rfl s503 ?_
    refine x_aload_n (pc := 50) dM_findHeld_50 rfl (q := 0) rfl ?_
    refine x_getR (pc := 51) dM_findHeld_51 kv0 flM_76 rfl e3 ?_
    refine x_iload_n (pc := 54) dM_findHeld_54 rfl (q := 1) rfl ?_
    refine x_dup2 (pc := 55) dM_findHeld_55 rfl rfl ?_
    obtain ⟨s504, h⟩ := h
    refine x_aldIj (pc := 56) (j := (v1).toNatClampNeg) (Or.inl ⟨rfl, rfl⟩) dM_findHeld_56 (wfk hw e3 kv0) ak_14 rfl s504 ?_
    refine x_aload_n (pc := 57) dM_findHeld_57 rfl (q := 0) rfl ?_
    refine x_getR (pc := 58) dM_findHeld_58 kv0 flM_61 rfl e4 ?_
    refine x_iload_n (pc := 61) dM_findHeld_61 rfl (q := 2) rfl ?_
    obtain ⟨s505, h⟩ := h
    refine x_aldLj (pc := 62) (j := (v2).toNatClampNeg) dM_findHeld_62 (wfk hw e4 kv0) ak_27 rfl s505 ?_
    refine x_iload_n (pc := 63) dM_findHeld_63 rfl (q := 1) rfl ?_
    refine x_lshr (pc := 64) dM_findHeld_64 ?_
    refine x_lconst (pc := 65) dM_findHeld_65 (v := 1) rfl ?_
    refine x_land (pc := 66) dM_findHeld_66 ?_
    refine x_l2i (pc := 67) dM_findHeld_67 ?_
    refine x_iadd (pc := 68) dM_findHeld_68 ?_
    obtain ⟨s506, h⟩ := h
    refine x_astIj (pc := 69) (j := (v1).toNatClampNeg) (v := (gi (si M r1 (v1).toNatClampNeg ((gi M r1 (v1).toNatClampNeg) + ((((gl M r2 (v2).toNatClampNeg) >>> ((v1).toInt64 &&& 63)) &&& 1).toInt32))) r3 (v1).toNatClampNeg) + ((((gl (si M r1 (v1).toNatClampNeg ((gi M r1 (v1).toNatClampNeg) + ((((gl M r2 (v2).toNatClampNeg) >>> ((v1).toInt64 &&& 63)) &&& 1).toInt32))) r4 (v2).toNatClampNeg) >>> ((v1).toInt64 &&& 63)) &&& 1).toInt32)) (Or.inl ⟨rfl, rfl, rfl⟩) dM_findHeld_69 (wfk hw e3 kv0) ak_14 rfl s506 ?_
    refine x_iinc (pc := 70) dM_findHeld_70 (q := 2) rfl (v := v2 + 1) rfl (by decide) (L' := [(2, .int (v2 + 1)), (0, .ref v0), (1, .int v1)]) rfl ?_
    refine x_goto (pc := 73) dM_findHeld_73 (t := 24) rfl ?_
    exact x_loc [1, 2, 0] rfl h

theorem vM_findHeld_81 {M : Mm} {b : Nat × Nat} {K : Mm → Prop} {v0 : Nat} {v1 : Int32} {w0 : Int32} {r1 : Nat} {r2 : Nat} {r3 : Nat} (kv0 : v0 % 64 = 11) (e1 : gr M v0 18 = some r1) (e2 : gr M v0 27 = some r2) (e3 : gr M v0 28 = some r3)
    (h : (¬ (gi M r1 4) = (-4) → vp_in (gi M r1 4) 8) ∧ (¬ (gi M r1 4) = (-4) → vp_in (gi M r1 4) 8) ∧ (¬ (gi M r1 4) = (-4) → (CI mM_told [.long (gl M r2 (gi M r1 4).toNatClampNeg), .long (gl M r3 (gi M r1 4).toNatClampNeg), .int v1] M (fun rv N => X mM_findHeld 124 [(0, .ref v0), (1, .int v1), (2, .int w0)] [.int rv] N b (QV K)))) ∧ ((gi M r1 4) = (-4) → (X mM_findHeld 124 [(0, .ref v0), (1, .int v1), (2, .int w0)] [.int (-4)] M b (QV K)))) : X mM_findHeld 81 [(0, .ref v0), (1, .int v1)] [.int w0] M b (QV K) := by
  refine x_wf (fun hw => ?_)
  refine x_istore_n (pc := 81) dM_findHeld_81 rfl (by decide) (L' := [(2, .int w0), (0, .ref v0), (1, .int v1)]) rfl ?_
  refine x_aload_n (pc := 82) dM_findHeld_82 rfl (q := 1) rfl ?_
  refine x_getR (pc := 83) dM_findHeld_83 kv0 flM_36 rfl e1 ?_
  refine x_iconst (pc := 86) dM_findHeld_86 (v := 4) rfl ?_
  refine x_aldIj (pc := 87) (j := 4) (Or.inl ⟨rfl, rfl⟩) dM_findHeld_87 (wfk hw e1 kv0) ak_15 (by decide) (by unfold vp_in; decide) ?_
  refine x_bipush (pc := 88) dM_findHeld_88 (v := (-4)) rfl ?_
  obtain ⟨s1, s2, g1_0, g1_1⟩ := h
  refine x_icmp_ne (pc := 90) dM_findHeld_90 (t := 98) rfl (fun q1 => ?_) (fun q1 => ?_)
  · refine x_aload_n (pc := 98) dM_findHeld_98 rfl (q := 1) rfl ?_
    refine x_getR (pc := 99) dM_findHeld_99 kv0 flM_58 rfl e2 ?_
    refine x_aload_n (pc := 102) dM_findHeld_102 rfl (q := 1) rfl ?_
    refine x_getR (pc := 103) dM_findHeld_103 kv0 flM_36 rfl e1 ?_
    refine x_iconst (pc := 106) dM_findHeld_106 (v := 4) rfl ?_
    refine x_aldIj (pc := 107) (j := 4) (Or.inl ⟨rfl, rfl⟩) dM_findHeld_107 (wfk hw e1 kv0) ak_15 (by decide) (by unfold vp_in; decide) ?_
    refine x_aldLj (pc := 108) (j := (gi M r1 4).toNatClampNeg) dM_findHeld_108 (wfk hw e2 kv0) ak_27 rfl (s1 q1) ?_
    refine x_aload_n (pc := 109) dM_findHeld_109 rfl (q := 1) rfl ?_
    refine x_getR (pc := 110) dM_findHeld_110 kv0 flM_61 rfl e3 ?_
    refine x_aload_n (pc := 113) dM_findHeld_113 rfl (q := 1) rfl ?_
    refine x_getR (pc := 114) dM_findHeld_114 kv0 flM_36 rfl e1 ?_
    refine x_iconst (pc := 117) dM_findHeld_117 (v := 4) rfl ?_
    refine x_aldIj (pc := 118) (j := 4) (Or.inl ⟨rfl, rfl⟩) dM_findHeld_118 (wfk hw e1 kv0) ak_15 (by decide) (by unfold vp_in; decide) ?_
    refine x_aldLj (pc := 119) (j := (gi M r1 4).toNatClampNeg) dM_findHeld_119 (wfk hw e3 kv0) ak_27 rfl (s2 q1) ?_
    refine x_iload_n (pc := 120) dM_findHeld_120 rfl (q := 2) rfl ?_
    have h := g1_0 q1
    exact x_invS (pc := 121) dM_findHeld_121 (S := []) (As := [.long (gl M r2 (gi M r1 4).toNatClampNeg), .long (gl M r3 (gi M r1 4).toNatClampNeg), .int v1]) mlM_278 hM_told rfl ⟨by decide, by decide⟩ ⟨Nat.zero_le _, Nat.zero_le _⟩ rfl (Nat.le_of_ble_eq_true rfl) (aftI (b' := b) ⟨Nat.le_refl _, Nat.le_refl _⟩ (fun rv N h => x_loc [1, 2, 0] rfl h) h)
  · refine x_bipush (pc := 93) dM_findHeld_93 (v := (-4)) rfl ?_
    refine x_goto (pc := 95) dM_findHeld_95 (t := 124) rfl ?_
    have h := g1_1 q1
    exact x_loc [1, 2, 0] rfl h

theorem vM_findHeld_124 {M : Mm} {b : Nat × Nat} {K : Mm → Prop} {v0 : Nat} {v1 : Int32} {v2 : Int32} {w0 : Int32} {r1 : Nat} {r2 : Nat} {r3 : Nat} {r4 : Nat} {r5 : Nat} (kv0 : v0 % 64 = 11) (e1 : gr M v0 31 = some r1) (e2 : gr M v0 32 = some r2) (e3 : gr M v0 33 = some r3) (e4 : gr M v0 18 = some r4) (e5 : gr M v0 30 = some r5)
    (h : (v2 = (-4) → vp_in v1 64) ∧ ((v2 = (-4) → vp_in v1 64) ∧ (vp_in v1 64 ∧ (vp_in v1 64 ∧ ((¬ (gi (si M r1 (v1).toNatClampNeg (if v2 = (-4) then (if (gi M r2 (v1).toNatClampNeg) = (gi M r3 (v1).toNatClampNeg) then (if w0 = (-4) then (if (gi M r4 5) = (-4) then 0 else 4 : Int32) else 3 : Int32) else 2 : Int32) else 1 : Int32)) r1 (v1).toNatClampNeg) = 1 → vp_in v1 64) ∧ ((¬ (gi (si M r1 (v1).toNatClampNeg (if v2 = (-4) then (if (gi M r2 (v1).toNatClampNeg) = (gi M r3 (v1).toNatClampNeg) then (if w0 = (-4) then (if (gi M r4 5) = (-4) then 0 else 4 : Int32) else 3 : Int32) else 2 : Int32) else 1 : Int32)) r1 (v1).toNatClampNeg) = 1 ∧ ¬ (gi (si M r1 (v1).toNatClampNeg (if v2 = (-4) then (if (gi M r2 (v1).toNatClampNeg) = (gi M r3 (v1).toNatClampNeg) then (if w0 = (-4) then (if (gi M r4 5) = (-4) then 0 else 4 : Int32) else 3 : Int32) else 2 : Int32) else 1 : Int32)) r1 (v1).toNatClampNeg) = 2 → vp_in v1 64) ∧ ((¬ (gi (si M r1 (v1).toNatClampNeg (if v2 = (-4) then (if (gi M r2 (v1).toNatClampNeg) = (gi M r3 (v1).toNatClampNeg) then (if w0 = (-4) then (if (gi M r4 5) = (-4) then 0 else 4 : Int32) else 3 : Int32) else 2 : Int32) else 1 : Int32)) r1 (v1).toNatClampNeg) = 1 ∧ (gi (si M r1 (v1).toNatClampNeg (if v2 = (-4) then (if (gi M r2 (v1).toNatClampNeg) = (gi M r3 (v1).toNatClampNeg) then (if w0 = (-4) then (if (gi M r4 5) = (-4) then 0 else 4 : Int32) else 3 : Int32) else 2 : Int32) else 1 : Int32)) r1 (v1).toNatClampNeg) = 2 → vp_in v1 64) ∧ ((¬ (gi (si M r1 (v1).toNatClampNeg (if v2 = (-4) then (if (gi M r2 (v1).toNatClampNeg) = (gi M r3 (v1).toNatClampNeg) then (if w0 = (-4) then (if (gi M r4 5) = (-4) then 0 else 4 : Int32) else 3 : Int32) else 2 : Int32) else 1 : Int32)) r1 (v1).toNatClampNeg) = 1 ∧ (gi (si M r1 (v1).toNatClampNeg (if v2 = (-4) then (if (gi M r2 (v1).toNatClampNeg) = (gi M r3 (v1).toNatClampNeg) then (if w0 = (-4) then (if (gi M r4 5) = (-4) then 0 else 4 : Int32) else 3 : Int32) else 2 : Int32) else 1 : Int32)) r1 (v1).toNatClampNeg) = 2 → vp_in v1 64) ∧ (vp_in v1 64 ∧ (X mM_findHeld 2 [(0, .ref v0), (1, .int (v1 + 1))] [] (si (si M r1 (v1).toNatClampNeg (if v2 = (-4) then (if (gi M r2 (v1).toNatClampNeg) = (gi M r3 (v1).toNatClampNeg) then (if w0 = (-4) then (if (gi M r4 5) = (-4) then 0 else 4 : Int32) else 3 : Int32) else 2 : Int32) else 1 : Int32)) r5 (v1).toNatClampNeg (if (gi (si M r1 (v1).toNatClampNeg (if v2 = (-4) then (if (gi M r2 (v1).toNatClampNeg) = (gi M r3 (v1).toNatClampNeg) then (if w0 = (-4) then (if (gi M r4 5) = (-4) then 0 else 4 : Int32) else 3 : Int32) else 2 : Int32) else 1 : Int32)) r1 (v1).toNatClampNeg) = 1 then v2 else (if (gi (si M r1 (v1).toNatClampNeg (if v2 = (-4) then (if (gi M r2 (v1).toNatClampNeg) = (gi M r3 (v1).toNatClampNeg) then (if w0 = (-4) then (if (gi M r4 5) = (-4) then 0 else 4 : Int32) else 3 : Int32) else 2 : Int32) else 1 : Int32)) r1 (v1).toNatClampNeg) = 2 then (if (gi (si M r1 (v1).toNatClampNeg (if v2 = (-4) then (if (gi M r2 (v1).toNatClampNeg) = (gi M r3 (v1).toNatClampNeg) then (if w0 = (-4) then (if (gi M r4 5) = (-4) then 0 else 4 : Int32) else 3 : Int32) else 2 : Int32) else 1 : Int32)) r2 (v1).toNatClampNeg) ≤ (gi (si M r1 (v1).toNatClampNeg (if v2 = (-4) then (if (gi M r2 (v1).toNatClampNeg) = (gi M r3 (v1).toNatClampNeg) then (if w0 = (-4) then (if (gi M r4 5) = (-4) then 0 else 4 : Int32) else 3 : Int32) else 2 : Int32) else 1 : Int32)) r3 (v1).toNatClampNeg) then 0 else 1 : Int32) else (if (gi (si M r1 (v1).toNatClampNeg (if v2 = (-4) then (if (gi M r2 (v1).toNatClampNeg) = (gi M r3 (v1).toNatClampNeg) then (if w0 = (-4) then (if (gi M r4 5) = (-4) then 0 else 4 : Int32) else 3 : Int32) else 2 : Int32) else 1 : Int32)) r1 (v1).toNatClampNeg) = 3 then w0 else (gi (si M r1 (v1).toNatClampNeg (if v2 = (-4) then (if (gi M r2 (v1).toNatClampNeg) = (gi M r3 (v1).toNatClampNeg) then (if w0 = (-4) then (if (gi M r4 5) = (-4) then 0 else 4 : Int32) else 3 : Int32) else 2 : Int32) else 1 : Int32)) r4 5) : Int32) : Int32) : Int32)) b (QV K))))))))))) : X mM_findHeld 124 [(0, .ref v0), (1, .int v1), (2, .int v2)] [.int w0] M b (QV K) := by
  refine x_wf (fun hw => ?_)
  refine x_istore_n (pc := 124) dM_findHeld_124 rfl (by decide) (L' := [(3, .int w0), (0, .ref v0), (1, .int v1), (2, .int v2)]) rfl ?_
  refine x_aload_n (pc := 125) dM_findHeld_125 rfl (q := 1) rfl ?_
  refine x_getR (pc := 126) dM_findHeld_126 kv0 flM_70 rfl e1 ?_
  refine x_iload_n (pc := 129) dM_findHeld_129 rfl (q := 2) rfl ?_
  refine x_iload_n (pc := 130) dM_findHeld_130 rfl (q := 3) rfl ?_
  refine x_bipush (pc := 131) dM_findHeld_131 (v := (-4)) rfl ?_
  obtain ⟨s1, h⟩ := h
  obtain ⟨s2, h⟩ := h
  suffices hJ : X mM_findHeld 185 [(3, .int w0), (0, .ref v0), (1, .int v1), (2, .int v2)] [.int (if v2 = (-4) then (if (gi M r2 (v1).toNatClampNeg) = (gi M r3 (v1).toNatClampNeg) then (if w0 = (-4) then (if (gi M r4 5) = (-4) then 0 else 4 : Int32) else 3 : Int32) else 2 : Int32) else 1 : Int32), .int v1, .ref r1] M b (QV K) by
    refine x_icmp_eq (pc := 133) dM_findHeld_133 (t := 140) rfl (fun q1 => ?_) (fun q1 => ?_)
    · refine x_aload_n (pc := 140) dM_findHeld_140 rfl (q := 1) rfl ?_
      refine x_getR (pc := 141) dM_findHeld_141 kv0 flM_73 rfl e2 ?_
      refine x_iload_n (pc := 144) dM_findHeld_144 rfl (q := 2) rfl ?_
      refine x_aldIj (pc := 145) (j := (v1).toNatClampNeg) (Or.inl ⟨rfl, rfl⟩) dM_findHeld_145 (wfk hw e2 kv0) ak_14 rfl (s1 q1) ?_
      refine x_aload_n (pc := 146) dM_findHeld_146 rfl (q := 1) rfl ?_
      refine x_getR (pc := 147) dM_findHeld_147 kv0 flM_76 rfl e3 ?_
      refine x_iload_n (pc := 150) dM_findHeld_150 rfl (q := 2) rfl ?_
      refine x_aldIj (pc := 151) (j := (v1).toNatClampNeg) (Or.inl ⟨rfl, rfl⟩) dM_findHeld_151 (wfk hw e3 kv0) ak_14 rfl (s2 q1) ?_
      refine x_icmp_eq (pc := 152) dM_findHeld_152 (t := 159) rfl (fun q2 => ?_) (fun q2 => ?_)
      · refine x_iload_n (pc := 159) dM_findHeld_159 rfl (q := 0) rfl ?_
        refine x_bipush (pc := 160) dM_findHeld_160 (v := (-4)) rfl ?_
        refine x_icmp_eq (pc := 162) dM_findHeld_162 (t := 169) rfl (fun q3 => ?_) (fun q3 => ?_)
        · refine x_aload_n (pc := 169) dM_findHeld_169 rfl (q := 1) rfl ?_
          refine x_getR (pc := 170) dM_findHeld_170 kv0 flM_36 rfl e4 ?_
          refine x_iconst (pc := 173) dM_findHeld_173 (v := 5) rfl ?_
          refine x_aldIj (pc := 174) (j := 5) (Or.inl ⟨rfl, rfl⟩) dM_findHeld_174 (wfk hw e4 kv0) ak_15 (by decide) (by unfold vp_in; decide) ?_
          refine x_bipush (pc := 175) dM_findHeld_175 (v := (-4)) rfl ?_
          refine x_icmp_eq (pc := 177) dM_findHeld_177 (t := 184) rfl (fun q4 => ?_) (fun q4 => ?_)
          · refine x_iconst (pc := 184) dM_findHeld_184 (v := 0) rfl ?_
            first | (rw [if_pos q1, if_pos q2, if_pos q3, if_pos q4] at hJ; exact hJ) | (simp only [if_pos q1, if_pos q2, if_pos q3, if_pos q4] at hJ ⊢; exact hJ)
          · refine x_iconst (pc := 180) dM_findHeld_180 (v := 4) rfl ?_
            refine x_goto (pc := 181) dM_findHeld_181 (t := 185) rfl ?_
            first | (rw [if_pos q1, if_pos q2, if_pos q3, if_neg q4] at hJ; exact hJ) | (simp only [if_pos q1, if_pos q2, if_pos q3, if_neg q4] at hJ ⊢; exact hJ)
        · refine x_iconst (pc := 165) dM_findHeld_165 (v := 3) rfl ?_
          refine x_goto (pc := 166) dM_findHeld_166 (t := 185) rfl ?_
          first | (rw [if_pos q1, if_pos q2, if_neg q3] at hJ; exact hJ) | (simp only [if_pos q1, if_pos q2, if_neg q3] at hJ ⊢; exact hJ)
      · refine x_iconst (pc := 155) dM_findHeld_155 (v := 2) rfl ?_
        refine x_goto (pc := 156) dM_findHeld_156 (t := 185) rfl ?_
        first | (rw [if_pos q1, if_neg q2] at hJ; exact hJ) | (simp only [if_pos q1, if_neg q2] at hJ ⊢; exact hJ)
    · refine x_iconst (pc := 136) dM_findHeld_136 (v := 1) rfl ?_
      refine x_goto (pc := 137) dM_findHeld_137 (t := 185) rfl ?_
      first | (rw [if_neg q1] at hJ; exact hJ) | (simp only [if_neg q1] at hJ ⊢; exact hJ)
  obtain ⟨s503, h⟩ := h
  refine x_astIj (pc := 185) (j := (v1).toNatClampNeg) (v := (if v2 = (-4) then (if (gi M r2 (v1).toNatClampNeg) = (gi M r3 (v1).toNatClampNeg) then (if w0 = (-4) then (if (gi M r4 5) = (-4) then 0 else 4 : Int32) else 3 : Int32) else 2 : Int32) else 1 : Int32)) (Or.inl ⟨rfl, rfl, rfl⟩) dM_findHeld_185 (wfk hw e1 kv0) ak_14 rfl s503 ?_
  refine x_aload_n (pc := 186) dM_findHeld_186 rfl (q := 1) rfl ?_
  refine x_getR (pc := 187) dM_findHeld_187 kv0 flM_67 rfl e5 ?_
  refine x_iload_n (pc := 190) dM_findHeld_190 rfl (q := 2) rfl ?_
  refine x_aload_n (pc := 191) dM_findHeld_191 rfl (q := 1) rfl ?_
  refine x_getR (pc := 192) dM_findHeld_192 kv0 flM_70 rfl e1 ?_
  refine x_iload_n (pc := 195) dM_findHeld_195 rfl (q := 2) rfl ?_
  obtain ⟨s504, h⟩ := h
  refine x_aldIj (pc := 196) (j := (v1).toNatClampNeg) (Or.inl ⟨rfl, rfl⟩) dM_findHeld_196 (wfk hw e1 kv0) ak_14 rfl s504 ?_
  refine x_iconst (pc := 197) dM_findHeld_197 (v := 1) rfl ?_
  obtain ⟨s5, h⟩ := h
  obtain ⟨s6, h⟩ := h
  obtain ⟨s7, h⟩ := h
  obtain ⟨s8, h⟩ := h
  suffices hJ : X mM_findHeld 258 [(3, .int w0), (0, .ref v0), (1, .int v1), (2, .int v2)] [.int (if (gi (si M r1 (v1).toNatClampNeg (if v2 = (-4) then (if (gi M r2 (v1).toNatClampNeg) = (gi M r3 (v1).toNatClampNeg) then (if w0 = (-4) then (if (gi M r4 5) = (-4) then 0 else 4 : Int32) else 3 : Int32) else 2 : Int32) else 1 : Int32)) r1 (v1).toNatClampNeg) = 1 then v2 else (if (gi (si M r1 (v1).toNatClampNeg (if v2 = (-4) then (if (gi M r2 (v1).toNatClampNeg) = (gi M r3 (v1).toNatClampNeg) then (if w0 = (-4) then (if (gi M r4 5) = (-4) then 0 else 4 : Int32) else 3 : Int32) else 2 : Int32) else 1 : Int32)) r1 (v1).toNatClampNeg) = 2 then (if (gi (si M r1 (v1).toNatClampNeg (if v2 = (-4) then (if (gi M r2 (v1).toNatClampNeg) = (gi M r3 (v1).toNatClampNeg) then (if w0 = (-4) then (if (gi M r4 5) = (-4) then 0 else 4 : Int32) else 3 : Int32) else 2 : Int32) else 1 : Int32)) r2 (v1).toNatClampNeg) ≤ (gi (si M r1 (v1).toNatClampNeg (if v2 = (-4) then (if (gi M r2 (v1).toNatClampNeg) = (gi M r3 (v1).toNatClampNeg) then (if w0 = (-4) then (if (gi M r4 5) = (-4) then 0 else 4 : Int32) else 3 : Int32) else 2 : Int32) else 1 : Int32)) r3 (v1).toNatClampNeg) then 0 else 1 : Int32) else (if (gi (si M r1 (v1).toNatClampNeg (if v2 = (-4) then (if (gi M r2 (v1).toNatClampNeg) = (gi M r3 (v1).toNatClampNeg) then (if w0 = (-4) then (if (gi M r4 5) = (-4) then 0 else 4 : Int32) else 3 : Int32) else 2 : Int32) else 1 : Int32)) r1 (v1).toNatClampNeg) = 3 then w0 else (gi (si M r1 (v1).toNatClampNeg (if v2 = (-4) then (if (gi M r2 (v1).toNatClampNeg) = (gi M r3 (v1).toNatClampNeg) then (if w0 = (-4) then (if (gi M r4 5) = (-4) then 0 else 4 : Int32) else 3 : Int32) else 2 : Int32) else 1 : Int32)) r4 5) : Int32) : Int32) : Int32), .int v1, .ref r5] (si M r1 (v1).toNatClampNeg (if v2 = (-4) then (if (gi M r2 (v1).toNatClampNeg) = (gi M r3 (v1).toNatClampNeg) then (if w0 = (-4) then (if (gi M r4 5) = (-4) then 0 else 4 : Int32) else 3 : Int32) else 2 : Int32) else 1 : Int32)) b (QV K) by
    refine x_icmp_ne (pc := 198) dM_findHeld_198 (t := 205) rfl (fun q5 => ?_) (fun q5 => ?_)
    · refine x_aload_n (pc := 205) dM_findHeld_205 rfl (q := 1) rfl ?_
      refine x_getR (pc := 206) dM_findHeld_206 kv0 flM_70 rfl e1 ?_
      refine x_iload_n (pc := 209) dM_findHeld_209 rfl (q := 2) rfl ?_
      refine x_aldIj (pc := 210) (j := (v1).toNatClampNeg) (Or.inl ⟨rfl, rfl⟩) dM_findHeld_210 (wfk hw e1 kv0) ak_14 rfl (s5 q5) ?_
      refine x_iconst (pc := 211) dM_findHeld_211 (v := 2) rfl ?_
      refine x_icmp_ne (pc := 212) dM_findHeld_212 (t := 238) rfl (fun q6 => ?_) (fun q6 => ?_)
      · refine x_aload_n (pc := 238) dM_findHeld_238 rfl (q := 1) rfl ?_
        refine x_getR (pc := 239) dM_findHeld_239 kv0 flM_70 rfl e1 ?_
        refine x_iload_n (pc := 242) dM_findHeld_242 rfl (q := 2) rfl ?_
        refine x_aldIj (pc := 243) (j := (v1).toNatClampNeg) (Or.inl ⟨rfl, rfl⟩) dM_findHeld_243 (wfk hw e1 kv0) ak_14 rfl (s6 ⟨q5, q6⟩) ?_
        refine x_iconst (pc := 244) dM_findHeld_244 (v := 3) rfl ?_
        refine x_icmp_ne (pc := 245) dM_findHeld_245 (t := 252) rfl (fun q7 => ?_) (fun q7 => ?_)
        · refine x_aload_n (pc := 252) dM_findHeld_252 rfl (q := 1) rfl ?_
          refine x_getR (pc := 253) dM_findHeld_253 kv0 flM_36 rfl e4 ?_
          refine x_iconst (pc := 256) dM_findHeld_256 (v := 5) rfl ?_
          refine x_aldIj (pc := 257) (j := 5) (Or.inl ⟨rfl, rfl⟩) dM_findHeld_257 (wfk hw e4 kv0) ak_15 (by decide) (by unfold vp_in; decide) ?_
          first | (rw [if_neg q5, if_neg q6, if_neg q7] at hJ; exact hJ) | (simp only [if_neg q5, if_neg q6, if_neg q7] at hJ ⊢; exact hJ)
        · refine x_iload_n (pc := 248) dM_findHeld_248 rfl (q := 0) rfl ?_
          refine x_goto (pc := 249) dM_findHeld_249 (t := 258) rfl ?_
          first | (rw [if_neg q5, if_neg q6, if_pos q7] at hJ; exact hJ) | (simp only [if_neg q5, if_neg q6, if_pos q7] at hJ ⊢; exact hJ)
      · refine x_aload_n (pc := 215) dM_findHeld_215 rfl (q := 1) rfl ?_
        refine x_getR (pc := 216) dM_findHeld_216 kv0 flM_73 rfl e2 ?_
        refine x_iload_n (pc := 219) dM_findHeld_219 rfl (q := 2) rfl ?_
        refine x_aldIj (pc := 220) (j := (v1).toNatClampNeg) (Or.inl ⟨rfl, rfl⟩) dM_findHeld_220 (wfk hw e2 kv0) ak_14 rfl (s7 ⟨q5, q6⟩) ?_
        refine x_aload_n (pc := 221) dM_findHeld_221 rfl (q := 1) rfl ?_
        refine x_getR (pc := 222) dM_findHeld_222 kv0 flM_76 rfl e3 ?_
        refine x_iload_n (pc := 225) dM_findHeld_225 rfl (q := 2) rfl ?_
        refine x_aldIj (pc := 226) (j := (v1).toNatClampNeg) (Or.inl ⟨rfl, rfl⟩) dM_findHeld_226 (wfk hw e3 kv0) ak_14 rfl (s8 ⟨q5, q6⟩) ?_
        refine x_icmp_le (pc := 227) dM_findHeld_227 (t := 234) rfl (fun q8 => ?_) (fun q8 => ?_)
        · refine x_iconst (pc := 234) dM_findHeld_234 (v := 0) rfl ?_
          refine x_goto (pc := 235) dM_findHeld_235 (t := 258) rfl ?_
          first | (rw [if_neg q5, if_pos q6, if_pos q8] at hJ; exact hJ) | (simp only [if_neg q5, if_pos q6, if_pos q8] at hJ ⊢; exact hJ)
        · refine x_iconst (pc := 230) dM_findHeld_230 (v := 1) rfl ?_
          refine x_goto (pc := 231) dM_findHeld_231 (t := 258) rfl ?_
          first | (rw [if_neg q5, if_pos q6, if_neg q8] at hJ; exact hJ) | (simp only [if_neg q5, if_pos q6, if_neg q8] at hJ ⊢; exact hJ)
    · refine x_iload_n (pc := 201) dM_findHeld_201 rfl (q := 3) rfl ?_
      refine x_goto (pc := 202) dM_findHeld_202 (t := 258) rfl ?_
      first | (rw [if_pos q5] at hJ; exact hJ) | (simp only [if_pos q5] at hJ ⊢; exact hJ)
  obtain ⟨s509, h⟩ := h
  refine x_astIj (pc := 258) (j := (v1).toNatClampNeg) (v := (if (gi (si M r1 (v1).toNatClampNeg (if v2 = (-4) then (if (gi M r2 (v1).toNatClampNeg) = (gi M r3 (v1).toNatClampNeg) then (if w0 = (-4) then (if (gi M r4 5) = (-4) then 0 else 4 : Int32) else 3 : Int32) else 2 : Int32) else 1 : Int32)) r1 (v1).toNatClampNeg) = 1 then v2 else (if (gi (si M r1 (v1).toNatClampNeg (if v2 = (-4) then (if (gi M r2 (v1).toNatClampNeg) = (gi M r3 (v1).toNatClampNeg) then (if w0 = (-4) then (if (gi M r4 5) = (-4) then 0 else 4 : Int32) else 3 : Int32) else 2 : Int32) else 1 : Int32)) r1 (v1).toNatClampNeg) = 2 then (if (gi (si M r1 (v1).toNatClampNeg (if v2 = (-4) then (if (gi M r2 (v1).toNatClampNeg) = (gi M r3 (v1).toNatClampNeg) then (if w0 = (-4) then (if (gi M r4 5) = (-4) then 0 else 4 : Int32) else 3 : Int32) else 2 : Int32) else 1 : Int32)) r2 (v1).toNatClampNeg) ≤ (gi (si M r1 (v1).toNatClampNeg (if v2 = (-4) then (if (gi M r2 (v1).toNatClampNeg) = (gi M r3 (v1).toNatClampNeg) then (if w0 = (-4) then (if (gi M r4 5) = (-4) then 0 else 4 : Int32) else 3 : Int32) else 2 : Int32) else 1 : Int32)) r3 (v1).toNatClampNeg) then 0 else 1 : Int32) else (if (gi (si M r1 (v1).toNatClampNeg (if v2 = (-4) then (if (gi M r2 (v1).toNatClampNeg) = (gi M r3 (v1).toNatClampNeg) then (if w0 = (-4) then (if (gi M r4 5) = (-4) then 0 else 4 : Int32) else 3 : Int32) else 2 : Int32) else 1 : Int32)) r1 (v1).toNatClampNeg) = 3 then w0 else (gi (si M r1 (v1).toNatClampNeg (if v2 = (-4) then (if (gi M r2 (v1).toNatClampNeg) = (gi M r3 (v1).toNatClampNeg) then (if w0 = (-4) then (if (gi M r4 5) = (-4) then 0 else 4 : Int32) else 3 : Int32) else 2 : Int32) else 1 : Int32)) r4 5) : Int32) : Int32) : Int32)) (Or.inl ⟨rfl, rfl, rfl⟩) dM_findHeld_258 (wfk hw e5 kv0) ak_14 rfl s509 ?_
  refine x_iinc (pc := 259) dM_findHeld_259 (q := 2) rfl (v := v1 + 1) rfl (by decide) (L' := [(1, .int (v1 + 1)), (3, .int w0), (0, .ref v0), (2, .int v2)]) rfl ?_
  refine x_goto (pc := 262) dM_findHeld_262 (t := 2) rfl ?_
  exact x_loc [2, 0] rfl h

theorem dM_lawOf_0 : decode (mB mM_lawOf) 0 = .ok (.bipush (-4), 2) := op16 252 (by decide +kernel)
theorem dM_lawOf_2 : decode (mB mM_lawOf) 2 = .ok (.istore_n 2, 1) := op61 (by decide +kernel)
theorem dM_lawOf_3 : decode (mB mM_lawOf) 3 = .ok (.iconst 0, 1) := op3 (by decide +kernel)
theorem dM_lawOf_4 : decode (mB mM_lawOf) 4 = .ok (.istore_n 3, 1) := op62 (by decide +kernel)
theorem dM_lawOf_5 : decode (mB mM_lawOf) 5 = .ok (.iconst 0, 1) := op3 (by decide +kernel)
theorem dM_lawOf_6 : decode (mB mM_lawOf) 6 = .ok (.istore 4, 2) := op54 4 (by decide +kernel)
theorem dM_lawOf_8 : decode (mB mM_lawOf) 8 = .ok (.iconst 0, 1) := op3 (by decide +kernel)
theorem dM_lawOf_9 : decode (mB mM_lawOf) 9 = .ok (.istore 5, 2) := op54 5 (by decide +kernel)
theorem dM_lawOf_11 : decode (mB mM_lawOf) 11 = .ok (.iload 5, 2) := op21 5 (by decide +kernel)
theorem dM_lawOf_13 : decode (mB mM_lawOf) 13 = .ok (.aload_n 0, 1) := op42 (by decide +kernel)
theorem dM_lawOf_14 : decode (mB mM_lawOf) 14 = .ok (.getfield 112, 3) := op180 0 112 (by decide +kernel)
theorem dM_lawOf_17 : decode (mB mM_lawOf) 17 = .ok (.if_icmp .ge 165, 3) := op162 0 165 (by decide +kernel)
theorem dM_lawOf_20 : decode (mB mM_lawOf) 20 = .ok (.aload_n 0, 1) := op42 (by decide +kernel)
theorem dM_lawOf_21 : decode (mB mM_lawOf) 21 = .ok (.getfield 36, 3) := op180 0 36 (by decide +kernel)
theorem dM_lawOf_24 : decode (mB mM_lawOf) 24 = .ok (.bipush 6, 2) := op16 6 (by decide +kernel)
theorem dM_lawOf_26 : decode (mB mM_lawOf) 26 = .ok (.iaload, 1) := op46 (by decide +kernel)
theorem dM_lawOf_27 : decode (mB mM_lawOf) 27 = .ok (.ifCond .le 155, 3) := op158 0 155 (by decide +kernel)
theorem dM_lawOf_30 : decode (mB mM_lawOf) 30 = .ok (.aload_n 0, 1) := op42 (by decide +kernel)
theorem dM_lawOf_31 : decode (mB mM_lawOf) 31 = .ok (.iload 5, 2) := op21 5 (by decide +kernel)
theorem dM_lawOf_33 : decode (mB mM_lawOf) 33 = .ok (.iconst 0, 1) := op3 (by decide +kernel)
theorem dM_lawOf_34 : decode (mB mM_lawOf) 34 = .ok (.invokevirtual 244, 3) := op182 0 244 (by decide +kernel)
theorem dM_lawOf_37 : decode (mB mM_lawOf) 37 = .ok (.iconst 5, 1) := op8 (by decide +kernel)
theorem dM_lawOf_38 : decode (mB mM_lawOf) 38 = .ok (.if_icmp .ne 24, 3) := op160 0 24 (by decide +kernel)
theorem dM_lawOf_41 : decode (mB mM_lawOf) 41 = .ok (.aload_n 0, 1) := op42 (by decide +kernel)
theorem dM_lawOf_42 : decode (mB mM_lawOf) 42 = .ok (.getfield 51, 3) := op180 0 51 (by decide +kernel)
theorem dM_lawOf_45 : decode (mB mM_lawOf) 45 = .ok (.iload 5, 2) := op21 5 (by decide +kernel)
theorem dM_lawOf_47 : decode (mB mM_lawOf) 47 = .ok (.laload, 1) := op47 (by decide +kernel)
theorem dM_lawOf_48 : decode (mB mM_lawOf) 48 = .ok (.aload_n 0, 1) := op42 (by decide +kernel)
theorem dM_lawOf_49 : decode (mB mM_lawOf) 49 = .ok (.getfield 55, 3) := op180 0 55 (by decide +kernel)
theorem dM_lawOf_52 : decode (mB mM_lawOf) 52 = .ok (.iload 5, 2) := op21 5 (by decide +kernel)
theorem dM_lawOf_54 : decode (mB mM_lawOf) 54 = .ok (.laload, 1) := op47 (by decide +kernel)
theorem dM_lawOf_55 : decode (mB mM_lawOf) 55 = .ok (.iload_n 1, 1) := op27 (by decide +kernel)
theorem dM_lawOf_56 : decode (mB mM_lawOf) 56 = .ok (.invokestatic 278, 3) := op184 1 22 (by decide +kernel)
theorem dM_lawOf_59 : decode (mB mM_lawOf) 59 = .ok (.goto 5, 3) := op167 0 5 (by decide +kernel)
theorem dM_lawOf_62 : decode (mB mM_lawOf) 62 = .ok (.bipush (-4), 2) := op16 252 (by decide +kernel)
theorem dM_lawOf_64 : decode (mB mM_lawOf) 64 = .ok (.istore 6, 2) := op54 6 (by decide +kernel)
theorem dM_lawOf_66 : decode (mB mM_lawOf) 66 = .ok (.iload_n 2, 1) := op28 (by decide +kernel)
theorem dM_lawOf_67 : decode (mB mM_lawOf) 67 = .ok (.bipush (-4), 2) := op16 252 (by decide +kernel)
theorem dM_lawOf_69 : decode (mB mM_lawOf) 69 = .ok (.if_icmp .eq 41, 3) := op159 0 41 (by decide +kernel)
theorem dM_lawOf_72 : decode (mB mM_lawOf) 72 = .ok (.aload_n 0, 1) := op42 (by decide +kernel)
theorem dM_lawOf_73 : decode (mB mM_lawOf) 73 = .ok (.getfield 36, 3) := op180 0 36 (by decide +kernel)
theorem dM_lawOf_76 : decode (mB mM_lawOf) 76 = .ok (.bipush 6, 2) := op16 6 (by decide +kernel)
theorem dM_lawOf_78 : decode (mB mM_lawOf) 78 = .ok (.iaload, 1) := op46 (by decide +kernel)
theorem dM_lawOf_79 : decode (mB mM_lawOf) 79 = .ok (.iconst 1, 1) := op4 (by decide +kernel)
theorem dM_lawOf_80 : decode (mB mM_lawOf) 80 = .ok (.if_icmp .ne 18, 3) := op160 0 18 (by decide +kernel)
theorem dM_lawOf_83 : decode (mB mM_lawOf) 83 = .ok (.aload_n 0, 1) := op42 (by decide +kernel)
theorem dM_lawOf_84 : decode (mB mM_lawOf) 84 = .ok (.iload 5, 2) := op21 5 (by decide +kernel)
theorem dM_lawOf_86 : decode (mB mM_lawOf) 86 = .ok (.bipush 7, 2) := op16 7 (by decide +kernel)
theorem dM_lawOf_88 : decode (mB mM_lawOf) 88 = .ok (.invokevirtual 244, 3) := op182 0 244 (by decide +kernel)
theorem dM_lawOf_91 : decode (mB mM_lawOf) 91 = .ok (.iload_n 3, 1) := op29 (by decide +kernel)
theorem dM_lawOf_92 : decode (mB mM_lawOf) 92 = .ok (.if_icmp .le 22, 3) := op164 0 22 (by decide +kernel)
theorem dM_lawOf_95 : decode (mB mM_lawOf) 95 = .ok (.goto 15, 3) := op167 0 15 (by decide +kernel)
theorem dM_lawOf_98 : decode (mB mM_lawOf) 98 = .ok (.aload_n 0, 1) := op42 (by decide +kernel)
theorem dM_lawOf_99 : decode (mB mM_lawOf) 99 = .ok (.iload 5, 2) := op21 5 (by decide +kernel)
theorem dM_lawOf_101 : decode (mB mM_lawOf) 101 = .ok (.bipush 7, 2) := op16 7 (by decide +kernel)
theorem dM_lawOf_103 : decode (mB mM_lawOf) 103 = .ok (.invokevirtual 244, 3) := op182 0 244 (by decide +kernel)
theorem dM_lawOf_106 : decode (mB mM_lawOf) 106 = .ok (.iload_n 3, 1) := op29 (by decide +kernel)
theorem dM_lawOf_107 : decode (mB mM_lawOf) 107 = .ok (.if_icmp .ge 7, 3) := op162 0 7 (by decide +kernel)
theorem dM_lawOf_110 : decode (mB mM_lawOf) 110 = .ok (.iconst 1, 1) := op4 (by decide +kernel)
theorem dM_lawOf_111 : decode (mB mM_lawOf) 111 = .ok (.goto 4, 3) := op167 0 4 (by decide +kernel)
theorem dM_lawOf_114 : decode (mB mM_lawOf) 114 = .ok (.iconst 0, 1) := op3 (by decide +kernel)
theorem dM_lawOf_115 : decode (mB mM_lawOf) 115 = .ok (.istore 7, 2) := op54 7 (by decide +kernel)
theorem dM_lawOf_117 : decode (mB mM_lawOf) 117 = .ok (.iload 6, 2) := op21 6 (by decide +kernel)
theorem dM_lawOf_119 : decode (mB mM_lawOf) 119 = .ok (.bipush (-4), 2) := op16 252 (by decide +kernel)
theorem dM_lawOf_121 : decode (mB mM_lawOf) 121 = .ok (.if_icmp .eq 55, 3) := op159 0 55 (by decide +kernel)
theorem dM_lawOf_124 : decode (mB mM_lawOf) 124 = .ok (.iload 7, 2) := op21 7 (by decide +kernel)
theorem dM_lawOf_126 : decode (mB mM_lawOf) 126 = .ok (.ifCond .ne 15, 3) := op154 0 15 (by decide +kernel)
theorem dM_lawOf_129 : decode (mB mM_lawOf) 129 = .ok (.aload_n 0, 1) := op42 (by decide +kernel)
theorem dM_lawOf_130 : decode (mB mM_lawOf) 130 = .ok (.iload 5, 2) := op21 5 (by decide +kernel)
theorem dM_lawOf_132 : decode (mB mM_lawOf) 132 = .ok (.bipush 7, 2) := op16 7 (by decide +kernel)
theorem dM_lawOf_134 : decode (mB mM_lawOf) 134 = .ok (.invokevirtual 244, 3) := op182 0 244 (by decide +kernel)
theorem dM_lawOf_137 : decode (mB mM_lawOf) 137 = .ok (.iload_n 3, 1) := op29 (by decide +kernel)
theorem dM_lawOf_138 : decode (mB mM_lawOf) 138 = .ok (.if_icmp .ne 38, 3) := op160 0 38 (by decide +kernel)
theorem dM_lawOf_141 : decode (mB mM_lawOf) 141 = .ok (.iload 7, 2) := op21 7 (by decide +kernel)
theorem dM_lawOf_143 : decode (mB mM_lawOf) 143 = .ok (.ifCond .ne 18, 3) := op154 0 18 (by decide +kernel)
theorem dM_lawOf_146 : decode (mB mM_lawOf) 146 = .ok (.iload 4, 2) := op21 4 (by decide +kernel)
theorem dM_lawOf_148 : decode (mB mM_lawOf) 148 = .ok (.ifCond .ne 9, 3) := op154 0 9 (by decide +kernel)
theorem dM_lawOf_151 : decode (mB mM_lawOf) 151 = .ok (.iload 6, 2) := op21 6 (by decide +kernel)
theorem dM_lawOf_153 : decode (mB mM_lawOf) 153 = .ok (.iload_n 2, 1) := op28 (by decide +kernel)
theorem dM_lawOf_154 : decode (mB mM_lawOf) 154 = .ok (.if_icmp .eq 7, 3) := op159 0 7 (by decide +kernel)
theorem dM_lawOf_157 : decode (mB mM_lawOf) 157 = .ok (.iconst 1, 1) := op4 (by decide +kernel)
theorem dM_lawOf_158 : decode (mB mM_lawOf) 158 = .ok (.goto 4, 3) := op167 0 4 (by decide +kernel)
theorem dM_lawOf_161 : decode (mB mM_lawOf) 161 = .ok (.iconst 0, 1) := op3 (by decide +kernel)
theorem dM_lawOf_162 : decode (mB mM_lawOf) 162 = .ok (.istore 4, 2) := op54 4 (by decide +kernel)
theorem dM_lawOf_164 : decode (mB mM_lawOf) 164 = .ok (.iload 6, 2) := op21 6 (by decide +kernel)
theorem dM_lawOf_166 : decode (mB mM_lawOf) 166 = .ok (.istore_n 2, 1) := op61 (by decide +kernel)
theorem dM_lawOf_167 : decode (mB mM_lawOf) 167 = .ok (.aload_n 0, 1) := op42 (by decide +kernel)
theorem dM_lawOf_168 : decode (mB mM_lawOf) 168 = .ok (.iload 5, 2) := op21 5 (by decide +kernel)
theorem dM_lawOf_170 : decode (mB mM_lawOf) 170 = .ok (.bipush 7, 2) := op16 7 (by decide +kernel)
theorem dM_lawOf_172 : decode (mB mM_lawOf) 172 = .ok (.invokevirtual 244, 3) := op182 0 244 (by decide +kernel)
theorem dM_lawOf_175 : decode (mB mM_lawOf) 175 = .ok (.istore_n 3, 1) := op62 (by decide +kernel)
theorem dM_lawOf_176 : decode (mB mM_lawOf) 176 = .ok (.iinc 5 1, 3) := op132 5 1 (by decide +kernel)
theorem dM_lawOf_179 : decode (mB mM_lawOf) 179 = .ok (.goto (-168), 3) := op167 255 88 (by decide +kernel)
theorem dM_lawOf_182 : decode (mB mM_lawOf) 182 = .ok (.iload 4, 2) := op21 4 (by decide +kernel)
theorem dM_lawOf_184 : decode (mB mM_lawOf) 184 = .ok (.ifCond .eq 8, 3) := op153 0 8 (by decide +kernel)
theorem dM_lawOf_187 : decode (mB mM_lawOf) 187 = .ok (.bipush (-4), 2) := op16 252 (by decide +kernel)
theorem dM_lawOf_189 : decode (mB mM_lawOf) 189 = .ok (.goto 4, 3) := op167 0 4 (by decide +kernel)
theorem dM_lawOf_192 : decode (mB mM_lawOf) 192 = .ok (.iload_n 2, 1) := op28 (by decide +kernel)
theorem dM_lawOf_193 : decode (mB mM_lawOf) 193 = .ok (.ireturn, 1) := op172 (by decide +kernel)

theorem vM_lawOf_0 {M : Mm} {b : Nat × Nat} {K : Int32 → Mm → Prop} {v0 : Nat} {v1 : Int32}  
    (h : X mM_lawOf 11 [(0, .ref v0), (1, .int v1), (2, .int (-4)), (3, .int 0), (4, .int 0), (5, .int 0)] [] M b (QI K)) : X mM_lawOf 0 [(0, .ref v0), (1, .int v1)] [] M b (QI K) := by
  refine x_wf (fun hw => ?_)
  refine x_bipush (pc := 0) dM_lawOf_0 (v := (-4)) rfl ?_
  refine x_istore_n (pc := 2) dM_lawOf_2 rfl (by decide) (L' := [(2, .int (-4)), (0, .ref v0), (1, .int v1)]) rfl ?_
  refine x_iconst (pc := 3) dM_lawOf_3 (v := 0) rfl ?_
  refine x_istore_n (pc := 4) dM_lawOf_4 rfl (by decide) (L' := [(3, .int 0), (2, .int (-4)), (0, .ref v0), (1, .int v1)]) rfl ?_
  refine x_iconst (pc := 5) dM_lawOf_5 (v := 0) rfl ?_
  refine x_istore (pc := 6) dM_lawOf_6 (by decide) (L' := [(4, .int 0), (3, .int 0), (2, .int (-4)), (0, .ref v0), (1, .int v1)]) rfl ?_
  refine x_iconst (pc := 8) dM_lawOf_8 (v := 0) rfl ?_
  refine x_istore (pc := 9) dM_lawOf_9 (by decide) (L' := [(5, .int 0), (4, .int 0), (3, .int 0), (2, .int (-4)), (0, .ref v0), (1, .int v1)]) rfl ?_
  exact x_loc [4, 5, 3, 2, 1, 0] rfl h

theorem vM_lawOf_11 {M : Mm} {b : Nat × Nat} {K : Int32 → Mm → Prop} {v0 : Nat} {v1 : Int32} {v2 : Int32} {v3 : Int32} {v4 : Int32} {v5 : Int32} {r1 : Nat} (kv0 : v0 % 64 = 11) (e1 : gr M v0 18 = some r1)
    (h : ((((gi M v0 0) ≤ v5) ∨ (¬ (gi M v0 0) ≤ v5 ∧ (gi M r1 6) ≤ 0)) → (K (if v4 = 0 then v2 else (-4) : Int32) M)) ∧ ((¬ (gi M v0 0) ≤ v5 ∧ ¬ (gi M r1 6) ≤ 0) → (CI mM_of [.ref v0, .int v5, .int 0] M (fun rv N => X mM_lawOf 37 [(0, .ref v0), (1, .int v1), (2, .int v2), (3, .int v3), (4, .int v4), (5, .int v5)] [.int rv] N b (QI K))))) : X mM_lawOf 11 [(0, .ref v0), (1, .int v1), (2, .int v2), (3, .int v3), (4, .int v4), (5, .int v5)] [] M b (QI K) := by
  refine x_wf (fun hw => ?_)
  refine x_iload (pc := 11) dM_lawOf_11 (q := 5) rfl ?_
  refine x_aload_n (pc := 13) dM_lawOf_13 rfl (q := 0) rfl ?_
  refine x_getI (pc := 14) dM_lawOf_14 kv0 flM_112 rfl ?_
  obtain ⟨g1_0, g1_1⟩ := h
  have g1_k0 : ((gi M v0 0) ≤ v5) ∨ (¬ (gi M v0 0) ≤ v5 ∧ (gi M r1 6) ≤ 0) → X mM_lawOf 182 [(0, .ref v0), (1, .int v1), (2, .int v2), (3, .int v3), (4, .int v4), (5, .int v5)] [] M b (QI K) := fun q => by
    have h := g1_0 q
    refine x_iload (pc := 182) dM_lawOf_182 (q := 4) rfl ?_
    suffices hJ : X mM_lawOf 193 [(0, .ref v0), (1, .int v1), (2, .int v2), (3, .int v3), (4, .int v4), (5, .int v5)] [.int (if v4 = 0 then v2 else (-4) : Int32)] M b (QI K) by
      refine x_if_eq (pc := 184) dM_lawOf_184 (t := 192) rfl (fun q3 => ?_) (fun q3 => ?_)
      · refine x_iload_n (pc := 192) dM_lawOf_192 rfl (q := 2) rfl ?_
        first | (rw [if_pos q3] at hJ; exact hJ) | (simp only [if_pos q3] at hJ ⊢; exact hJ)
      · refine x_bipush (pc := 187) dM_lawOf_187 (v := (-4)) rfl ?_
        refine x_goto (pc := 189) dM_lawOf_189 (t := 193) rfl ?_
        first | (rw [if_neg q3] at hJ; exact hJ) | (simp only [if_neg q3] at hJ ⊢; exact hJ)
    exact x_retQI (pc := 193) dM_lawOf_193 rfl rfl h
  refine x_icmp_ge (pc := 17) dM_lawOf_17 (t := 182) rfl (fun q1 => ?_) (fun q1 => ?_)
  · exact g1_k0 (Or.inl q1)
  · refine x_aload_n (pc := 20) dM_lawOf_20 rfl (q := 0) rfl ?_
    refine x_getR (pc := 21) dM_lawOf_21 kv0 flM_36 rfl e1 ?_
    refine x_bipush (pc := 24) dM_lawOf_24 (v := 6) rfl ?_
    refine x_aldIj (pc := 26) (j := 6) (Or.inl ⟨rfl, rfl⟩) dM_lawOf_26 (wfk hw e1 kv0) ak_15 (by decide) (by unfold vp_in; decide) ?_
    refine x_if_le (pc := 27) dM_lawOf_27 (t := 182) rfl (fun q2 => ?_) (fun q2 => ?_)
    · exact g1_k0 (Or.inr ⟨q1, q2⟩)
    · refine x_aload_n (pc := 30) dM_lawOf_30 rfl (q := 0) rfl ?_
      refine x_iload (pc := 31) dM_lawOf_31 (q := 5) rfl ?_
      refine x_iconst (pc := 33) dM_lawOf_33 (v := 0) rfl ?_
      have h := g1_1 ⟨q1, q2⟩
      exact x_invV (pc := 34) dM_lawOf_34 (c := 11) (S := []) (As := [.int v5, .int 0]) mlM_244 hM_of rfl (by decide) rfl kv0 ⟨by decide, by decide⟩ ⟨Nat.zero_le _, Nat.zero_le _⟩ rfl (Nat.le_of_ble_eq_true rfl) (aftI (b' := b) ⟨Nat.le_refl _, Nat.le_refl _⟩ (fun rv N h => h) h)

theorem vM_lawOf_37 {M : Mm} {b : Nat × Nat} {K : Int32 → Mm → Prop} {v0 : Nat} {v1 : Int32} {v2 : Int32} {v3 : Int32} {v4 : Int32} {v5 : Int32} {w0 : Int32} {r1 : Nat} {r2 : Nat} (kv0 : v0 % 64 = 11) (e1 : gr M v0 25 = some r1) (e2 : gr M v0 26 = some r2)
    (h : (w0 = 5 → vp_in v5 25) ∧ (w0 = 5 → vp_in v5 25) ∧ (¬ w0 = 5 → (X mM_lawOf 64 [(0, .ref v0), (1, .int v1), (2, .int v2), (3, .int v3), (4, .int v4), (5, .int v5)] [.int (-4)] M b (QI K))) ∧ (w0 = 5 → (CI mM_told [.long (gl M r1 (v5).toNatClampNeg), .long (gl M r2 (v5).toNatClampNeg), .int v1] M (fun rv N => X mM_lawOf 59 [(0, .ref v0), (1, .int v1), (2, .int v2), (3, .int v3), (4, .int v4), (5, .int v5)] [.int rv] N b (QI K))))) : X mM_lawOf 37 [(0, .ref v0), (1, .int v1), (2, .int v2), (3, .int v3), (4, .int v4), (5, .int v5)] [.int w0] M b (QI K) := by
  refine x_wf (fun hw => ?_)
  refine x_iconst (pc := 37) dM_lawOf_37 (v := 5) rfl ?_
  obtain ⟨s1, s2, g1_0, g1_1⟩ := h
  refine x_icmp_ne (pc := 38) dM_lawOf_38 (t := 62) rfl (fun q1 => ?_) (fun q1 => ?_)
  · refine x_bipush (pc := 62) dM_lawOf_62 (v := (-4)) rfl ?_
    have h := g1_0 q1
    exact h
  · refine x_aload_n (pc := 41) dM_lawOf_41 rfl (q := 0) rfl ?_
    refine x_getR (pc := 42) dM_lawOf_42 kv0 flM_51 rfl e1 ?_
    refine x_iload (pc := 45) dM_lawOf_45 (q := 5) rfl ?_
    refine x_aldLj (pc := 47) (j := (v5).toNatClampNeg) dM_lawOf_47 (wfk hw e1 kv0) ak_26 rfl (s1 q1) ?_
    refine x_aload_n (pc := 48) dM_lawOf_48 rfl (q := 0) rfl ?_
    refine x_getR (pc := 49) dM_lawOf_49 kv0 flM_55 rfl e2 ?_
    refine x_iload (pc := 52) dM_lawOf_52 (q := 5) rfl ?_
    refine x_aldLj (pc := 54) (j := (v5).toNatClampNeg) dM_lawOf_54 (wfk hw e2 kv0) ak_26 rfl (s2 q1) ?_
    refine x_iload_n (pc := 55) dM_lawOf_55 rfl (q := 1) rfl ?_
    have h := g1_1 q1
    exact x_invS (pc := 56) dM_lawOf_56 (S := []) (As := [.long (gl M r1 (v5).toNatClampNeg), .long (gl M r2 (v5).toNatClampNeg), .int v1]) mlM_278 hM_told rfl ⟨by decide, by decide⟩ ⟨Nat.zero_le _, Nat.zero_le _⟩ rfl (Nat.le_of_ble_eq_true rfl) (aftI (b' := b) ⟨Nat.le_refl _, Nat.le_refl _⟩ (fun rv N h => h) h)

theorem vM_lawOf_59 {M : Mm} {b : Nat × Nat} {K : Int32 → Mm → Prop} {v0 : Nat} {v1 : Int32} {v2 : Int32} {v3 : Int32} {v4 : Int32} {v5 : Int32} {w0 : Int32}  
    (h : X mM_lawOf 64 [(0, .ref v0), (1, .int v1), (2, .int v2), (3, .int v3), (4, .int v4), (5, .int v5)] [.int w0] M b (QI K)) : X mM_lawOf 59 [(0, .ref v0), (1, .int v1), (2, .int v2), (3, .int v3), (4, .int v4), (5, .int v5)] [.int w0] M b (QI K) := by
  refine x_wf (fun hw => ?_)
  refine x_goto (pc := 59) dM_lawOf_59 (t := 64) rfl ?_
  exact h

theorem vM_lawOf_64 {M : Mm} {b : Nat × Nat} {K : Int32 → Mm → Prop} {v0 : Nat} {v1 : Int32} {v2 : Int32} {v3 : Int32} {v4 : Int32} {v5 : Int32} {w0 : Int32} {r1 : Nat} (kv0 : v0 % 64 = 11) (e1 : gr M v0 18 = some r1)
    (h : (v2 = (-4) → (X mM_lawOf 110 [(0, .ref v0), (1, .int v1), (2, .int v2), (3, .int v3), (4, .int v4), (5, .int v5), (6, .int w0)] [] M b (QI K))) ∧ ((¬ v2 = (-4) ∧ ¬ (gi M r1 6) = 1) → (CI mM_of [.ref v0, .int v5, .int 7] M (fun rv N => X mM_lawOf 106 [(0, .ref v0), (1, .int v1), (2, .int v2), (3, .int v3), (4, .int v4), (5, .int v5), (6, .int w0)] [.int rv] N b (QI K)))) ∧ ((¬ v2 = (-4) ∧ (gi M r1 6) = 1) → (CI mM_of [.ref v0, .int v5, .int 7] M (fun rv N => X mM_lawOf 91 [(0, .ref v0), (1, .int v1), (2, .int v2), (3, .int v3), (4, .int v4), (5, .int v5), (6, .int w0)] [.int rv] N b (QI K))))) : X mM_lawOf 64 [(0, .ref v0), (1, .int v1), (2, .int v2), (3, .int v3), (4, .int v4), (5, .int v5)] [.int w0] M b (QI K) := by
  refine x_wf (fun hw => ?_)
  refine x_istore (pc := 64) dM_lawOf_64 (by decide) (L' := [(6, .int w0), (0, .ref v0), (1, .int v1), (2, .int v2), (3, .int v3), (4, .int v4), (5, .int v5)]) rfl ?_
  refine x_iload_n (pc := 66) dM_lawOf_66 rfl (q := 3) rfl ?_
  refine x_bipush (pc := 67) dM_lawOf_67 (v := (-4)) rfl ?_
  obtain ⟨g1_0, g1_1, g1_2⟩ := h
  refine x_icmp_eq (pc := 69) dM_lawOf_69 (t := 110) rfl (fun q1 => ?_) (fun q1 => ?_)
  · have h := g1_0 q1
    exact x_loc [1, 2, 3, 4, 5, 6, 0] rfl h
  · refine x_aload_n (pc := 72) dM_lawOf_72 rfl (q := 1) rfl ?_
    refine x_getR (pc := 73) dM_lawOf_73 kv0 flM_36 rfl e1 ?_
    refine x_bipush (pc := 76) dM_lawOf_76 (v := 6) rfl ?_
    refine x_aldIj (pc := 78) (j := 6) (Or.inl ⟨rfl, rfl⟩) dM_lawOf_78 (wfk hw e1 kv0) ak_15 (by decide) (by unfold vp_in; decide) ?_
    refine x_iconst (pc := 79) dM_lawOf_79 (v := 1) rfl ?_
    refine x_icmp_ne (pc := 80) dM_lawOf_80 (t := 98) rfl (fun q2 => ?_) (fun q2 => ?_)
    · refine x_aload_n (pc := 98) dM_lawOf_98 rfl (q := 1) rfl ?_
      refine x_iload (pc := 99) dM_lawOf_99 (q := 6) rfl ?_
      refine x_bipush (pc := 101) dM_lawOf_101 (v := 7) rfl ?_
      have h := g1_1 ⟨q1, q2⟩
      exact x_invV (pc := 103) dM_lawOf_103 (c := 11) (S := []) (As := [.int v5, .int 7]) mlM_244 hM_of rfl (by decide) rfl kv0 ⟨by decide, by decide⟩ ⟨Nat.zero_le _, Nat.zero_le _⟩ rfl (Nat.le_of_ble_eq_true rfl) (aftI (b' := b) ⟨Nat.le_refl _, Nat.le_refl _⟩ (fun rv N h => x_loc [1, 2, 3, 4, 5, 6, 0] rfl h) h)
    · refine x_aload_n (pc := 83) dM_lawOf_83 rfl (q := 1) rfl ?_
      refine x_iload (pc := 84) dM_lawOf_84 (q := 6) rfl ?_
      refine x_bipush (pc := 86) dM_lawOf_86 (v := 7) rfl ?_
      have h := g1_2 ⟨q1, q2⟩
      exact x_invV (pc := 88) dM_lawOf_88 (c := 11) (S := []) (As := [.int v5, .int 7]) mlM_244 hM_of rfl (by decide) rfl kv0 ⟨by decide, by decide⟩ ⟨Nat.zero_le _, Nat.zero_le _⟩ rfl (Nat.le_of_ble_eq_true rfl) (aftI (b' := b) ⟨Nat.le_refl _, Nat.le_refl _⟩ (fun rv N h => x_loc [1, 2, 3, 4, 5, 6, 0] rfl h) h)

theorem vM_lawOf_91 {M : Mm} {b : Nat × Nat} {K : Int32 → Mm → Prop} {v0 : Nat} {v1 : Int32} {v2 : Int32} {v3 : Int32} {v4 : Int32} {v5 : Int32} {v6 : Int32} {w0 : Int32}  
    (h : (w0 ≤ v3 → (X mM_lawOf 114 [(0, .ref v0), (1, .int v1), (2, .int v2), (3, .int v3), (4, .int v4), (5, .int v5), (6, .int v6)] [] M b (QI K))) ∧ (¬ w0 ≤ v3 → (X mM_lawOf 110 [(0, .ref v0), (1, .int v1), (2, .int v2), (3, .int v3), (4, .int v4), (5, .int v5), (6, .int v6)] [] M b (QI K)))) : X mM_lawOf 91 [(0, .ref v0), (1, .int v1), (2, .int v2), (3, .int v3), (4, .int v4), (5, .int v5), (6, .int v6)] [.int w0] M b (QI K) := by
  refine x_wf (fun hw => ?_)
  refine x_iload_n (pc := 91) dM_lawOf_91 rfl (q := 3) rfl ?_
  obtain ⟨g1_0, g1_1⟩ := h
  refine x_icmp_le (pc := 92) dM_lawOf_92 (t := 114) rfl (fun q1 => ?_) (fun q1 => ?_)
  · have h := g1_0 q1
    exact h
  · refine x_goto (pc := 95) dM_lawOf_95 (t := 110) rfl ?_
    have h := g1_1 q1
    exact h

theorem vM_lawOf_106 {M : Mm} {b : Nat × Nat} {K : Int32 → Mm → Prop} {v0 : Nat} {v1 : Int32} {v2 : Int32} {v3 : Int32} {v4 : Int32} {v5 : Int32} {v6 : Int32} {w0 : Int32}  
    (h : (v3 ≤ w0 → (X mM_lawOf 114 [(0, .ref v0), (1, .int v1), (2, .int v2), (3, .int v3), (4, .int v4), (5, .int v5), (6, .int v6)] [] M b (QI K))) ∧ (¬ v3 ≤ w0 → (X mM_lawOf 110 [(0, .ref v0), (1, .int v1), (2, .int v2), (3, .int v3), (4, .int v4), (5, .int v5), (6, .int v6)] [] M b (QI K)))) : X mM_lawOf 106 [(0, .ref v0), (1, .int v1), (2, .int v2), (3, .int v3), (4, .int v4), (5, .int v5), (6, .int v6)] [.int w0] M b (QI K) := by
  refine x_wf (fun hw => ?_)
  refine x_iload_n (pc := 106) dM_lawOf_106 rfl (q := 3) rfl ?_
  obtain ⟨g1_0, g1_1⟩ := h
  refine x_icmp_ge (pc := 107) dM_lawOf_107 (t := 114) rfl (fun q1 => ?_) (fun q1 => ?_)
  · have h := g1_0 q1
    exact h
  · have h := g1_1 q1
    exact h

theorem vM_lawOf_110 {M : Mm} {b : Nat × Nat} {K : Int32 → Mm → Prop} {v0 : Nat} {v1 : Int32} {v2 : Int32} {v3 : Int32} {v4 : Int32} {v5 : Int32} {v6 : Int32}  
    (h : X mM_lawOf 115 [(0, .ref v0), (1, .int v1), (2, .int v2), (3, .int v3), (4, .int v4), (5, .int v5), (6, .int v6)] [.int 1] M b (QI K)) : X mM_lawOf 110 [(0, .ref v0), (1, .int v1), (2, .int v2), (3, .int v3), (4, .int v4), (5, .int v5), (6, .int v6)] [] M b (QI K) := by
  refine x_wf (fun hw => ?_)
  refine x_iconst (pc := 110) dM_lawOf_110 (v := 1) rfl ?_
  refine x_goto (pc := 111) dM_lawOf_111 (t := 115) rfl ?_
  exact h

theorem vM_lawOf_114 {M : Mm} {b : Nat × Nat} {K : Int32 → Mm → Prop} {v0 : Nat} {v1 : Int32} {v2 : Int32} {v3 : Int32} {v4 : Int32} {v5 : Int32} {v6 : Int32}  
    (h : X mM_lawOf 115 [(0, .ref v0), (1, .int v1), (2, .int v2), (3, .int v3), (4, .int v4), (5, .int v5), (6, .int v6)] [.int 0] M b (QI K)) : X mM_lawOf 114 [(0, .ref v0), (1, .int v1), (2, .int v2), (3, .int v3), (4, .int v4), (5, .int v5), (6, .int v6)] [] M b (QI K) := by
  refine x_wf (fun hw => ?_)
  refine x_iconst (pc := 114) dM_lawOf_114 (v := 0) rfl ?_
  exact h

theorem vM_lawOf_115 {M : Mm} {b : Nat × Nat} {K : Int32 → Mm → Prop} {v0 : Nat} {v1 : Int32} {v2 : Int32} {v3 : Int32} {v4 : Int32} {v5 : Int32} {v6 : Int32} {w0 : Int32} (kv0 : v0 % 64 = 11) 
    (h : (v6 = (-4) → (X mM_lawOf 11 [(0, .ref v0), (1, .int v1), (2, .int v2), (3, .int v3), (4, .int v4), (5, .int (v5 + 1))] [] M b (QI K))) ∧ ((¬ v6 = (-4) ∧ ¬ w0 = 0) → (X mM_lawOf 141 [(0, .ref v0), (1, .int v1), (2, .int v2), (4, .int v4), (5, .int v5), (6, .int v6), (7, .int w0)] [] M b (QI K))) ∧ ((¬ v6 = (-4) ∧ w0 = 0) → (CI mM_of [.ref v0, .int v5, .int 7] M (fun rv N => X mM_lawOf 137 [(0, .ref v0), (1, .int v1), (2, .int v2), (3, .int v3), (4, .int v4), (5, .int v5), (6, .int v6), (7, .int w0)] [.int rv] N b (QI K))))) : X mM_lawOf 115 [(0, .ref v0), (1, .int v1), (2, .int v2), (3, .int v3), (4, .int v4), (5, .int v5), (6, .int v6)] [.int w0] M b (QI K) := by
  refine x_wf (fun hw => ?_)
  refine x_istore (pc := 115) dM_lawOf_115 (by decide) (L' := [(7, .int w0), (0, .ref v0), (1, .int v1), (2, .int v2), (3, .int v3), (4, .int v4), (5, .int v5), (6, .int v6)]) rfl ?_
  refine x_iload (pc := 117) dM_lawOf_117 (q := 7) rfl ?_
  refine x_bipush (pc := 119) dM_lawOf_119 (v := (-4)) rfl ?_
  obtain ⟨g1_0, g1_1, g1_2⟩ := h
  refine x_icmp_eq (pc := 121) dM_lawOf_121 (t := 176) rfl (fun q1 => ?_) (fun q1 => ?_)
  · have h := g1_0 q1
    refine x_iinc (pc := 176) dM_lawOf_176 (q := 6) rfl (v := v5 + 1) rfl (by decide) (L' := [(5, .int (v5 + 1)), (7, .int w0), (0, .ref v0), (1, .int v1), (2, .int v2), (3, .int v3), (4, .int v4), (6, .int v6)]) rfl ?_
    refine x_goto (pc := 179) dM_lawOf_179 (t := 11) rfl ?_
    exact x_loc [2, 3, 4, 5, 6, 0] rfl h
  · refine x_iload (pc := 124) dM_lawOf_124 (q := 0) rfl ?_
    refine x_if_ne (pc := 126) dM_lawOf_126 (t := 141) rfl (fun q2 => ?_) (fun q2 => ?_)
    · have h := g1_1 ⟨q1, q2⟩
      exact x_loc [1, 2, 3, 5, 6, 7, 0] rfl h
    · refine x_aload_n (pc := 129) dM_lawOf_129 rfl (q := 1) rfl ?_
      refine x_iload (pc := 130) dM_lawOf_130 (q := 6) rfl ?_
      refine x_bipush (pc := 132) dM_lawOf_132 (v := 7) rfl ?_
      have h := g1_2 ⟨q1, q2⟩
      exact x_invV (pc := 134) dM_lawOf_134 (c := 11) (S := []) (As := [.int v5, .int 7]) mlM_244 hM_of rfl (by decide) rfl kv0 ⟨by decide, by decide⟩ ⟨Nat.zero_le _, Nat.zero_le _⟩ rfl (Nat.le_of_ble_eq_true rfl) (aftI (b' := b) ⟨Nat.le_refl _, Nat.le_refl _⟩ (fun rv N h => x_loc [1, 2, 3, 4, 5, 6, 7, 0] rfl h) h)

theorem vM_lawOf_137 {M : Mm} {b : Nat × Nat} {K : Int32 → Mm → Prop} {v0 : Nat} {v1 : Int32} {v2 : Int32} {v3 : Int32} {v4 : Int32} {v5 : Int32} {v6 : Int32} {v7 : Int32} {w0 : Int32}  
    (h : (¬ w0 = v3 → (X mM_lawOf 11 [(0, .ref v0), (1, .int v1), (2, .int v2), (3, .int v3), (4, .int v4), (5, .int (v5 + 1))] [] M b (QI K))) ∧ (w0 = v3 → (X mM_lawOf 141 [(0, .ref v0), (1, .int v1), (2, .int v2), (4, .int v4), (5, .int v5), (6, .int v6), (7, .int v7)] [] M b (QI K)))) : X mM_lawOf 137 [(0, .ref v0), (1, .int v1), (2, .int v2), (3, .int v3), (4, .int v4), (5, .int v5), (6, .int v6), (7, .int v7)] [.int w0] M b (QI K) := by
  refine x_wf (fun hw => ?_)
  refine x_iload_n (pc := 137) dM_lawOf_137 rfl (q := 3) rfl ?_
  obtain ⟨g1_0, g1_1⟩ := h
  refine x_icmp_ne (pc := 138) dM_lawOf_138 (t := 176) rfl (fun q1 => ?_) (fun q1 => ?_)
  · have h := g1_0 q1
    refine x_iinc (pc := 176) dM_lawOf_176 (q := 5) rfl (v := v5 + 1) rfl (by decide) (L' := [(5, .int (v5 + 1)), (0, .ref v0), (1, .int v1), (2, .int v2), (3, .int v3), (4, .int v4), (6, .int v6), (7, .int v7)]) rfl ?_
    refine x_goto (pc := 179) dM_lawOf_179 (t := 11) rfl ?_
    exact x_loc [1, 2, 3, 4, 5, 0] rfl h
  · have h := g1_1 q1
    exact x_loc [0, 1, 2, 4, 5, 6, 7] rfl h

theorem vM_lawOf_141 {M : Mm} {b : Nat × Nat} {K : Int32 → Mm → Prop} {v0 : Nat} {v1 : Int32} {v2 : Int32} {v4 : Int32} {v5 : Int32} {v6 : Int32} {v7 : Int32}  
    (h : (((¬ v7 = 0) ∨ (v7 = 0 ∧ v4 = 0 ∧ v6 = v2)) → (X mM_lawOf 162 [(0, .ref v0), (1, .int v1), (5, .int v5), (6, .int v6)] [.int 0] M b (QI K))) ∧ (((v7 = 0 ∧ ¬ v4 = 0) ∨ (v7 = 0 ∧ v4 = 0 ∧ ¬ v6 = v2)) → (X mM_lawOf 162 [(0, .ref v0), (1, .int v1), (5, .int v5), (6, .int v6)] [.int 1] M b (QI K)))) : X mM_lawOf 141 [(0, .ref v0), (1, .int v1), (2, .int v2), (4, .int v4), (5, .int v5), (6, .int v6), (7, .int v7)] [] M b (QI K) := by
  refine x_wf (fun hw => ?_)
  refine x_iload (pc := 141) dM_lawOf_141 (q := 6) rfl ?_
  obtain ⟨g1_0, g1_1⟩ := h
  have g1_k0 : (¬ v7 = 0) ∨ (v7 = 0 ∧ v4 = 0 ∧ v6 = v2) → X mM_lawOf 161 [(0, .ref v0), (1, .int v1), (2, .int v2), (4, .int v4), (5, .int v5), (6, .int v6), (7, .int v7)] [] M b (QI K) := fun q => by
    have h := g1_0 q
    refine x_iconst (pc := 161) dM_lawOf_161 (v := 0) rfl ?_
    exact x_loc [0, 1, 4, 5] rfl h
  have g1_k1 : (v7 = 0 ∧ ¬ v4 = 0) ∨ (v7 = 0 ∧ v4 = 0 ∧ ¬ v6 = v2) → X mM_lawOf 157 [(0, .ref v0), (1, .int v1), (2, .int v2), (4, .int v4), (5, .int v5), (6, .int v6), (7, .int v7)] [] M b (QI K) := fun q => by
    have h := g1_1 q
    refine x_iconst (pc := 157) dM_lawOf_157 (v := 1) rfl ?_
    refine x_goto (pc := 158) dM_lawOf_158 (t := 162) rfl ?_
    exact x_loc [0, 1, 4, 5] rfl h
  refine x_if_ne (pc := 143) dM_lawOf_143 (t := 161) rfl (fun q1 => ?_) (fun q1 => ?_)
  · exact g1_k0 (Or.inl q1)
  · refine x_iload (pc := 146) dM_lawOf_146 (q := 3) rfl ?_
    refine x_if_ne (pc := 148) dM_lawOf_148 (t := 157) rfl (fun q2 => ?_) (fun q2 => ?_)
    · exact g1_k1 (Or.inl ⟨q1, q2⟩)
    · refine x_iload (pc := 151) dM_lawOf_151 (q := 5) rfl ?_
      refine x_iload_n (pc := 153) dM_lawOf_153 rfl (q := 2) rfl ?_
      refine x_icmp_eq (pc := 154) dM_lawOf_154 (t := 161) rfl (fun q3 => ?_) (fun q3 => ?_)
      · exact g1_k0 (Or.inr ⟨q1, q2, q3⟩)
      · exact g1_k1 (Or.inr ⟨q1, q2, q3⟩)

theorem vM_lawOf_162 {M : Mm} {b : Nat × Nat} {K : Int32 → Mm → Prop} {v0 : Nat} {v1 : Int32} {v5 : Int32} {v6 : Int32} {w0 : Int32} (kv0 : v0 % 64 = 11) 
    (h : CI mM_of [.ref v0, .int v5, .int 7] M (fun rv N => X mM_lawOf 175 [(0, .ref v0), (1, .int v1), (2, .int v6), (4, .int w0), (5, .int v5)] [.int rv] N b (QI K))) : X mM_lawOf 162 [(0, .ref v0), (1, .int v1), (5, .int v5), (6, .int v6)] [.int w0] M b (QI K) := by
  refine x_wf (fun hw => ?_)
  refine x_istore (pc := 162) dM_lawOf_162 (by decide) (L' := [(4, .int w0), (0, .ref v0), (1, .int v1), (5, .int v5), (6, .int v6)]) rfl ?_
  refine x_iload (pc := 164) dM_lawOf_164 (q := 4) rfl ?_
  refine x_istore_n (pc := 166) dM_lawOf_166 rfl (by decide) (L' := [(2, .int v6), (4, .int w0), (0, .ref v0), (1, .int v1), (5, .int v5), (6, .int v6)]) rfl ?_
  refine x_aload_n (pc := 167) dM_lawOf_167 rfl (q := 2) rfl ?_
  refine x_iload (pc := 168) dM_lawOf_168 (q := 4) rfl ?_
  refine x_bipush (pc := 170) dM_lawOf_170 (v := 7) rfl ?_
  exact x_invV (pc := 172) dM_lawOf_172 (c := 11) (S := []) (As := [.int v5, .int 7]) mlM_244 hM_of rfl (by decide) rfl kv0 ⟨by decide, by decide⟩ ⟨Nat.zero_le _, Nat.zero_le _⟩ rfl (Nat.le_of_ble_eq_true rfl) (aftI (b' := b) ⟨Nat.le_refl _, Nat.le_refl _⟩ (fun rv N h => x_loc [2, 3, 0, 1, 4] rfl h) h)

theorem vM_lawOf_175 {M : Mm} {b : Nat × Nat} {K : Int32 → Mm → Prop} {v0 : Nat} {v1 : Int32} {v2 : Int32} {v4 : Int32} {v5 : Int32} {w0 : Int32}  
    (h : X mM_lawOf 11 [(0, .ref v0), (1, .int v1), (2, .int v2), (3, .int w0), (4, .int v4), (5, .int (v5 + 1))] [] M b (QI K)) : X mM_lawOf 175 [(0, .ref v0), (1, .int v1), (2, .int v2), (4, .int v4), (5, .int v5)] [.int w0] M b (QI K) := by
  refine x_wf (fun hw => ?_)
  refine x_istore_n (pc := 175) dM_lawOf_175 rfl (by decide) (L' := [(3, .int w0), (0, .ref v0), (1, .int v1), (2, .int v2), (4, .int v4), (5, .int v5)]) rfl ?_
  refine x_iinc (pc := 176) dM_lawOf_176 (q := 5) rfl (v := v5 + 1) rfl (by decide) (L' := [(5, .int (v5 + 1)), (3, .int w0), (0, .ref v0), (1, .int v1), (2, .int v2), (4, .int v4)]) rfl ?_
  refine x_goto (pc := 179) dM_lawOf_179 (t := 11) rfl ?_
  exact x_loc [2, 3, 4, 1, 5, 0] rfl h

theorem dM_keepHeld_0 : decode (mB mM_keepHeld) 0 = .ok (.iconst 0, 1) := op3 (by decide +kernel)
theorem dM_keepHeld_1 : decode (mB mM_keepHeld) 1 = .ok (.istore_n 1, 1) := op60 (by decide +kernel)
theorem dM_keepHeld_2 : decode (mB mM_keepHeld) 2 = .ok (.iload_n 1, 1) := op27 (by decide +kernel)
theorem dM_keepHeld_3 : decode (mB mM_keepHeld) 3 = .ok (.bipush 64, 2) := op16 64 (by decide +kernel)
theorem dM_keepHeld_5 : decode (mB mM_keepHeld) 5 = .ok (.if_icmp .ge 21, 3) := op162 0 21 (by decide +kernel)
theorem dM_keepHeld_8 : decode (mB mM_keepHeld) 8 = .ok (.aload_n 0, 1) := op42 (by decide +kernel)
theorem dM_keepHeld_9 : decode (mB mM_keepHeld) 9 = .ok (.getfield 79, 3) := op180 0 79 (by decide +kernel)
theorem dM_keepHeld_12 : decode (mB mM_keepHeld) 12 = .ok (.iload_n 1, 1) := op27 (by decide +kernel)
theorem dM_keepHeld_13 : decode (mB mM_keepHeld) 13 = .ok (.aload_n 0, 1) := op42 (by decide +kernel)
theorem dM_keepHeld_14 : decode (mB mM_keepHeld) 14 = .ok (.getfield 67, 3) := op180 0 67 (by decide +kernel)
theorem dM_keepHeld_17 : decode (mB mM_keepHeld) 17 = .ok (.iload_n 1, 1) := op27 (by decide +kernel)
theorem dM_keepHeld_18 : decode (mB mM_keepHeld) 18 = .ok (.iaload, 1) := op46 (by decide +kernel)
theorem dM_keepHeld_19 : decode (mB mM_keepHeld) 19 = .ok (.iastore, 1) := op79 (by decide +kernel)
theorem dM_keepHeld_20 : decode (mB mM_keepHeld) 20 = .ok (.iinc 1 1, 3) := op132 1 1 (by decide +kernel)
theorem dM_keepHeld_23 : decode (mB mM_keepHeld) 23 = .ok (.goto (-21), 3) := op167 255 235 (by decide +kernel)
theorem dM_keepHeld_26 : decode (mB mM_keepHeld) 26 = .ok (.return_, 1) := op177 (by decide +kernel)

theorem vM_keepHeld_0 {M : Mm} {b : Nat × Nat} {K : Mm → Prop} {v0 : Nat}  
    (h : X mM_keepHeld 2 [(0, .ref v0), (1, .int 0)] [] M b (QV K)) : X mM_keepHeld 0 [(0, .ref v0)] [] M b (QV K) := by
  refine x_wf (fun hw => ?_)
  refine x_iconst (pc := 0) dM_keepHeld_0 (v := 0) rfl ?_
  refine x_istore_n (pc := 1) dM_keepHeld_1 rfl (by decide) (L' := [(1, .int 0), (0, .ref v0)]) rfl ?_
  exact x_loc [1, 0] rfl h

theorem vM_keepHeld_2 {M : Mm} {b : Nat × Nat} {K : Mm → Prop} {v0 : Nat} {v1 : Int32} {r1 : Nat} {r2 : Nat} (kv0 : v0 % 64 = 11) (e1 : gr M v0 34 = some r1) (e2 : gr M v0 30 = some r2)
    (h : (¬ 64 ≤ v1 → vp_in v1 64) ∧ (64 ≤ v1 → (K M)) ∧ (¬ 64 ≤ v1 → (vp_in v1 64 ∧ (X mM_keepHeld 2 [(0, .ref v0), (1, .int (v1 + 1))] [] (si M r1 (v1).toNatClampNeg (gi M r2 (v1).toNatClampNeg)) b (QV K))))) : X mM_keepHeld 2 [(0, .ref v0), (1, .int v1)] [] M b (QV K) := by
  refine x_wf (fun hw => ?_)
  refine x_iload_n (pc := 2) dM_keepHeld_2 rfl (q := 1) rfl ?_
  refine x_bipush (pc := 3) dM_keepHeld_3 (v := 64) rfl ?_
  obtain ⟨s1, g1_0, g1_1⟩ := h
  refine x_icmp_ge (pc := 5) dM_keepHeld_5 (t := 26) rfl (fun q1 => ?_) (fun q1 => ?_)
  · have h := g1_0 q1
    exact x_retQV (pc := 26) dM_keepHeld_26 rfl h
  · refine x_aload_n (pc := 8) dM_keepHeld_8 rfl (q := 0) rfl ?_
    refine x_getR (pc := 9) dM_keepHeld_9 kv0 flM_79 rfl e1 ?_
    refine x_iload_n (pc := 12) dM_keepHeld_12 rfl (q := 1) rfl ?_
    refine x_aload_n (pc := 13) dM_keepHeld_13 rfl (q := 0) rfl ?_
    refine x_getR (pc := 14) dM_keepHeld_14 kv0 flM_67 rfl e2 ?_
    refine x_iload_n (pc := 17) dM_keepHeld_17 rfl (q := 1) rfl ?_
    refine x_aldIj (pc := 18) (j := (v1).toNatClampNeg) (Or.inl ⟨rfl, rfl⟩) dM_keepHeld_18 (wfk hw e2 kv0) ak_14 rfl (s1 q1) ?_
    have h := g1_1 q1
    obtain ⟨s502, h⟩ := h
    refine x_astIj (pc := 19) (j := (v1).toNatClampNeg) (v := gi M r2 (v1).toNatClampNeg) (Or.inl ⟨rfl, rfl, rfl⟩) dM_keepHeld_19 (wfk hw e1 kv0) ak_14 rfl s502 ?_
    refine x_iinc (pc := 20) dM_keepHeld_20 (q := 1) rfl (v := v1 + 1) rfl (by decide) (L' := [(1, .int (v1 + 1)), (0, .ref v0)]) rfl ?_
    refine x_goto (pc := 23) dM_keepHeld_23 (t := 2) rfl ?_
    exact x_loc [1, 0] rfl h

theorem dM_findChanged_0 : decode (mB mM_findChanged) 0 = .ok (.aload_n 0, 1) := op42 (by decide +kernel)
theorem dM_findChanged_1 : decode (mB mM_findChanged) 1 = .ok (.iconst 0, 1) := op3 (by decide +kernel)
theorem dM_findChanged_2 : decode (mB mM_findChanged) 2 = .ok (.putfield 313, 3) := op181 1 57 (by decide +kernel)
theorem dM_findChanged_5 : decode (mB mM_findChanged) 5 = .ok (.aload_n 0, 1) := op42 (by decide +kernel)
theorem dM_findChanged_6 : decode (mB mM_findChanged) 6 = .ok (.bipush (-4), 2) := op16 252 (by decide +kernel)
theorem dM_findChanged_8 : decode (mB mM_findChanged) 8 = .ok (.putfield 316, 3) := op181 1 60 (by decide +kernel)
theorem dM_findChanged_11 : decode (mB mM_findChanged) 11 = .ok (.bipush 63, 2) := op16 63 (by decide +kernel)
theorem dM_findChanged_13 : decode (mB mM_findChanged) 13 = .ok (.istore_n 1, 1) := op60 (by decide +kernel)
theorem dM_findChanged_14 : decode (mB mM_findChanged) 14 = .ok (.iload_n 1, 1) := op27 (by decide +kernel)
theorem dM_findChanged_15 : decode (mB mM_findChanged) 15 = .ok (.ifCond .lt 65, 3) := op155 0 65 (by decide +kernel)
theorem dM_findChanged_18 : decode (mB mM_findChanged) 18 = .ok (.aload_n 0, 1) := op42 (by decide +kernel)
theorem dM_findChanged_19 : decode (mB mM_findChanged) 19 = .ok (.dup, 1) := op89 (by decide +kernel)
theorem dM_findChanged_20 : decode (mB mM_findChanged) 20 = .ok (.getfield 313, 3) := op180 1 57 (by decide +kernel)
theorem dM_findChanged_23 : decode (mB mM_findChanged) 23 = .ok (.aload_n 0, 1) := op42 (by decide +kernel)
theorem dM_findChanged_24 : decode (mB mM_findChanged) 24 = .ok (.getfield 67, 3) := op180 0 67 (by decide +kernel)
theorem dM_findChanged_27 : decode (mB mM_findChanged) 27 = .ok (.iload_n 1, 1) := op27 (by decide +kernel)
theorem dM_findChanged_28 : decode (mB mM_findChanged) 28 = .ok (.iaload, 1) := op46 (by decide +kernel)
theorem dM_findChanged_29 : decode (mB mM_findChanged) 29 = .ok (.aload_n 0, 1) := op42 (by decide +kernel)
theorem dM_findChanged_30 : decode (mB mM_findChanged) 30 = .ok (.getfield 79, 3) := op180 0 79 (by decide +kernel)
theorem dM_findChanged_33 : decode (mB mM_findChanged) 33 = .ok (.iload_n 1, 1) := op27 (by decide +kernel)
theorem dM_findChanged_34 : decode (mB mM_findChanged) 34 = .ok (.iaload, 1) := op46 (by decide +kernel)
theorem dM_findChanged_35 : decode (mB mM_findChanged) 35 = .ok (.if_icmp .ne 7, 3) := op160 0 7 (by decide +kernel)
theorem dM_findChanged_38 : decode (mB mM_findChanged) 38 = .ok (.iconst 0, 1) := op3 (by decide +kernel)
theorem dM_findChanged_39 : decode (mB mM_findChanged) 39 = .ok (.goto 4, 3) := op167 0 4 (by decide +kernel)
theorem dM_findChanged_42 : decode (mB mM_findChanged) 42 = .ok (.iconst 1, 1) := op4 (by decide +kernel)
theorem dM_findChanged_43 : decode (mB mM_findChanged) 43 = .ok (.iadd, 1) := op96 (by decide +kernel)
theorem dM_findChanged_44 : decode (mB mM_findChanged) 44 = .ok (.putfield 313, 3) := op181 1 57 (by decide +kernel)
theorem dM_findChanged_47 : decode (mB mM_findChanged) 47 = .ok (.aload_n 0, 1) := op42 (by decide +kernel)
theorem dM_findChanged_48 : decode (mB mM_findChanged) 48 = .ok (.aload_n 0, 1) := op42 (by decide +kernel)
theorem dM_findChanged_49 : decode (mB mM_findChanged) 49 = .ok (.getfield 67, 3) := op180 0 67 (by decide +kernel)
theorem dM_findChanged_52 : decode (mB mM_findChanged) 52 = .ok (.iload_n 1, 1) := op27 (by decide +kernel)
theorem dM_findChanged_53 : decode (mB mM_findChanged) 53 = .ok (.iaload, 1) := op46 (by decide +kernel)
theorem dM_findChanged_54 : decode (mB mM_findChanged) 54 = .ok (.aload_n 0, 1) := op42 (by decide +kernel)
theorem dM_findChanged_55 : decode (mB mM_findChanged) 55 = .ok (.getfield 79, 3) := op180 0 79 (by decide +kernel)
theorem dM_findChanged_58 : decode (mB mM_findChanged) 58 = .ok (.iload_n 1, 1) := op27 (by decide +kernel)
theorem dM_findChanged_59 : decode (mB mM_findChanged) 59 = .ok (.iaload, 1) := op46 (by decide +kernel)
theorem dM_findChanged_60 : decode (mB mM_findChanged) 60 = .ok (.if_icmp .ne 10, 3) := op160 0 10 (by decide +kernel)
theorem dM_findChanged_63 : decode (mB mM_findChanged) 63 = .ok (.aload_n 0, 1) := op42 (by decide +kernel)
theorem dM_findChanged_64 : decode (mB mM_findChanged) 64 = .ok (.getfield 316, 3) := op180 1 60 (by decide +kernel)
theorem dM_findChanged_67 : decode (mB mM_findChanged) 67 = .ok (.goto 4, 3) := op167 0 4 (by decide +kernel)
theorem dM_findChanged_70 : decode (mB mM_findChanged) 70 = .ok (.iload_n 1, 1) := op27 (by decide +kernel)
theorem dM_findChanged_71 : decode (mB mM_findChanged) 71 = .ok (.putfield 316, 3) := op181 1 60 (by decide +kernel)
theorem dM_findChanged_74 : decode (mB mM_findChanged) 74 = .ok (.iinc 1 (-1), 3) := op132 1 255 (by decide +kernel)
theorem dM_findChanged_77 : decode (mB mM_findChanged) 77 = .ok (.goto (-63), 3) := op167 255 193 (by decide +kernel)
theorem dM_findChanged_80 : decode (mB mM_findChanged) 80 = .ok (.return_, 1) := op177 (by decide +kernel)

theorem vM_findChanged_0 {M : Mm} {b : Nat × Nat} {K : Mm → Prop} {v0 : Nat} (kv0 : v0 % 64 = 11) 
    (h : X mM_findChanged 14 [(0, .ref v0), (1, .int 63)] [] (si (si M v0 35 0) v0 36 (-4)) b (QV K)) : X mM_findChanged 0 [(0, .ref v0)] [] M b (QV K) := by
  refine x_wf (fun hw => ?_)
  refine x_aload_n (pc := 0) dM_findChanged_0 rfl (q := 0) rfl ?_
  refine x_iconst (pc := 1) dM_findChanged_1 (v := 0) rfl ?_
  refine x_putI (pc := 2) dM_findChanged_2 kv0 flM_313 rfl rfl ?_
  refine x_aload_n (pc := 5) dM_findChanged_5 rfl (q := 0) rfl ?_
  refine x_bipush (pc := 6) dM_findChanged_6 (v := (-4)) rfl ?_
  refine x_putI (pc := 8) dM_findChanged_8 kv0 flM_316 rfl rfl ?_
  refine x_bipush (pc := 11) dM_findChanged_11 (v := 63) rfl ?_
  refine x_istore_n (pc := 13) dM_findChanged_13 rfl (by decide) (L' := [(1, .int 63), (0, .ref v0)]) rfl ?_
  exact x_loc [1, 0] rfl h

theorem vM_findChanged_14 {M : Mm} {b : Nat × Nat} {K : Mm → Prop} {v0 : Nat} {v1 : Int32} {r1 : Nat} {r2 : Nat} (kv0 : v0 % 64 = 11) (e1 : gr M v0 30 = some r1) (e2 : gr M v0 34 = some r2)
    (h : (¬ v1 < 0 → vp_in v1 64) ∧ (¬ v1 < 0 → vp_in v1 64) ∧ (v1 < 0 → (K M)) ∧ ((¬ v1 < 0 ∧ ¬ (gi M r1 (v1).toNatClampNeg) = (gi M r2 (v1).toNatClampNeg)) → (X mM_findChanged 43 [(0, .ref v0), (1, .int v1)] [.int 1, .int (gi M v0 35), .ref v0] M b (QV K))) ∧ ((¬ v1 < 0 ∧ (gi M r1 (v1).toNatClampNeg) = (gi M r2 (v1).toNatClampNeg)) → (X mM_findChanged 43 [(0, .ref v0), (1, .int v1)] [.int 0, .int (gi M v0 35), .ref v0] M b (QV K)))) : X mM_findChanged 14 [(0, .ref v0), (1, .int v1)] [] M b (QV K) := by
  refine x_wf (fun hw => ?_)
  refine x_iload_n (pc := 14) dM_findChanged_14 rfl (q := 1) rfl ?_
  obtain ⟨s1, s2, g1_0, g1_1, g1_2⟩ := h
  refine x_if_lt (pc := 15) dM_findChanged_15 (t := 80) rfl (fun q1 => ?_) (fun q1 => ?_)
  · have h := g1_0 q1
    exact x_retQV (pc := 80) dM_findChanged_80 rfl h
  · refine x_aload_n (pc := 18) dM_findChanged_18 rfl (q := 0) rfl ?_
    refine x_dup (pc := 19) dM_findChanged_19 rfl ?_
    refine x_getI (pc := 20) dM_findChanged_20 kv0 flM_313 rfl ?_
    refine x_aload_n (pc := 23) dM_findChanged_23 rfl (q := 0) rfl ?_
    refine x_getR (pc := 24) dM_findChanged_24 kv0 flM_67 rfl e1 ?_
    refine x_iload_n (pc := 27) dM_findChanged_27 rfl (q := 1) rfl ?_
    refine x_aldIj (pc := 28) (j := (v1).toNatClampNeg) (Or.inl ⟨rfl, rfl⟩) dM_findChanged_28 (wfk hw e1 kv0) ak_14 rfl (s1 q1) ?_
    refine x_aload_n (pc := 29) dM_findChanged_29 rfl (q := 0) rfl ?_
    refine x_getR (pc := 30) dM_findChanged_30 kv0 flM_79 rfl e2 ?_
    refine x_iload_n (pc := 33) dM_findChanged_33 rfl (q := 1) rfl ?_
    refine x_aldIj (pc := 34) (j := (v1).toNatClampNeg) (Or.inl ⟨rfl, rfl⟩) dM_findChanged_34 (wfk hw e2 kv0) ak_14 rfl (s2 q1) ?_
    refine x_icmp_ne (pc := 35) dM_findChanged_35 (t := 42) rfl (fun q2 => ?_) (fun q2 => ?_)
    · refine x_iconst (pc := 42) dM_findChanged_42 (v := 1) rfl ?_
      have h := g1_1 ⟨q1, q2⟩
      exact h
    · refine x_iconst (pc := 38) dM_findChanged_38 (v := 0) rfl ?_
      refine x_goto (pc := 39) dM_findChanged_39 (t := 43) rfl ?_
      have h := g1_2 ⟨q1, q2⟩
      exact h

theorem vM_findChanged_43 {M : Mm} {b : Nat × Nat} {K : Mm → Prop} {v0 : Nat} {v1 : Int32} {w0 : Int32} {w1 : Int32} {w2 : Nat} {r1 : Nat} {r2 : Nat} (kw2 : w2 % 64 = 11) (kv0 : v0 % 64 = 11) (e1 : gr M v0 30 = some r1) (e2 : gr M v0 34 = some r2)
    (h : vp_in v1 64 ∧ (vp_in v1 64 ∧ (X mM_findChanged 14 [(0, .ref v0), (1, .int (v1 + (-1)))] [] (si (si M w2 35 (w1 + w0)) v0 36 (if (gi (si M w2 35 (w1 + w0)) r1 (v1).toNatClampNeg) = (gi (si M w2 35 (w1 + w0)) r2 (v1).toNatClampNeg) then (gi (si M w2 35 (w1 + w0)) v0 36) else v1 : Int32)) b (QV K)))) : X mM_findChanged 43 [(0, .ref v0), (1, .int v1)] [.int w0, .int w1, .ref w2] M b (QV K) := by
  refine x_wf (fun hw => ?_)
  refine x_iadd (pc := 43) dM_findChanged_43 ?_
  refine x_putI (pc := 44) dM_findChanged_44 kw2 flM_313 rfl rfl ?_
  refine x_aload_n (pc := 47) dM_findChanged_47 rfl (q := 0) rfl ?_
  refine x_aload_n (pc := 48) dM_findChanged_48 rfl (q := 0) rfl ?_
  refine x_getR (pc := 49) dM_findChanged_49 kv0 flM_67 rfl e1 ?_
  refine x_iload_n (pc := 52) dM_findChanged_52 rfl (q := 1) rfl ?_
  obtain ⟨s501, h⟩ := h
  refine x_aldIj (pc := 53) (j := (v1).toNatClampNeg) (Or.inl ⟨rfl, rfl⟩) dM_findChanged_53 (wfk hw e1 kv0) ak_14 rfl s501 ?_
  refine x_aload_n (pc := 54) dM_findChanged_54 rfl (q := 0) rfl ?_
  refine x_getR (pc := 55) dM_findChanged_55 kv0 flM_79 rfl e2 ?_
  refine x_iload_n (pc := 58) dM_findChanged_58 rfl (q := 1) rfl ?_
  obtain ⟨s502, h⟩ := h
  refine x_aldIj (pc := 59) (j := (v1).toNatClampNeg) (Or.inl ⟨rfl, rfl⟩) dM_findChanged_59 (wfk hw e2 kv0) ak_14 rfl s502 ?_
  suffices hJ : X mM_findChanged 71 [(0, .ref v0), (1, .int v1)] [.int (if (gi (si M w2 35 (w1 + w0)) r1 (v1).toNatClampNeg) = (gi (si M w2 35 (w1 + w0)) r2 (v1).toNatClampNeg) then (gi (si M w2 35 (w1 + w0)) v0 36) else v1 : Int32), .ref v0] (si M w2 35 (w1 + w0)) b (QV K) by
    refine x_icmp_ne (pc := 60) dM_findChanged_60 (t := 70) rfl (fun q1 => ?_) (fun q1 => ?_)
    · refine x_iload_n (pc := 70) dM_findChanged_70 rfl (q := 1) rfl ?_
      first | (rw [if_neg q1] at hJ; exact hJ) | (simp only [if_neg q1] at hJ ⊢; exact hJ)
    · refine x_aload_n (pc := 63) dM_findChanged_63 rfl (q := 0) rfl ?_
      refine x_getI (pc := 64) dM_findChanged_64 kv0 flM_316 rfl ?_
      refine x_goto (pc := 67) dM_findChanged_67 (t := 71) rfl ?_
      first | (rw [if_pos q1] at hJ; exact hJ) | (simp only [if_pos q1] at hJ ⊢; exact hJ)
  refine x_putI (pc := 71) dM_findChanged_71 kv0 flM_316 rfl rfl ?_
  refine x_iinc (pc := 74) dM_findChanged_74 (q := 1) rfl (v := v1 + (-1)) rfl (by decide) (L' := [(1, .int (v1 + (-1))), (0, .ref v0)]) rfl ?_
  refine x_goto (pc := 77) dM_findChanged_77 (t := 14) rfl ?_
  exact x_loc [1, 0] rfl h

theorem dM_held_0 : decode (mB mM_held) 0 = .ok (.iload_n 1, 1) := op27 (by decide +kernel)
theorem dM_held_1 : decode (mB mM_held) 1 = .ok (.invokestatic 275, 3) := op184 1 19 (by decide +kernel)
theorem dM_held_4 : decode (mB mM_held) 4 = .ok (.ifCond .eq 15, 3) := op153 0 15 (by decide +kernel)
theorem dM_held_7 : decode (mB mM_held) 7 = .ok (.iload_n 2, 1) := op28 (by decide +kernel)
theorem dM_held_8 : decode (mB mM_held) 8 = .ok (.i2l, 1) := op133 (by decide +kernel)
theorem dM_held_9 : decode (mB mM_held) 9 = .ok (.lconst 0, 1) := op9 (by decide +kernel)
theorem dM_held_10 : decode (mB mM_held) 10 = .ok (.ldc2_w 204, 3) := op20 0 204 (by decide +kernel)
theorem dM_held_13 : decode (mB mM_held) 13 = .ok (.invokestatic 126, 3) := op184 0 126 (by decide +kernel)
theorem dM_held_16 : decode (mB mM_held) 16 = .ok (.ifCond .ne 5, 3) := op154 0 5 (by decide +kernel)
theorem dM_held_19 : decode (mB mM_held) 19 = .ok (.iconst (-1), 1) := op2 (by decide +kernel)
theorem dM_held_20 : decode (mB mM_held) 20 = .ok (.ireturn, 1) := op172 (by decide +kernel)
theorem dM_held_21 : decode (mB mM_held) 21 = .ok (.aload_n 0, 1) := op42 (by decide +kernel)
theorem dM_held_22 : decode (mB mM_held) 22 = .ok (.invokevirtual 319, 3) := op182 1 63 (by decide +kernel)
theorem dM_held_25 : decode (mB mM_held) 25 = .ok (.iload_n 2, 1) := op28 (by decide +kernel)
theorem dM_held_26 : decode (mB mM_held) 26 = .ok (.ifCond .ne 12, 3) := op154 0 12 (by decide +kernel)
theorem dM_held_29 : decode (mB mM_held) 29 = .ok (.aload_n 0, 1) := op42 (by decide +kernel)
theorem dM_held_30 : decode (mB mM_held) 30 = .ok (.getfield 67, 3) := op180 0 67 (by decide +kernel)
theorem dM_held_33 : decode (mB mM_held) 33 = .ok (.iload_n 1, 1) := op27 (by decide +kernel)
theorem dM_held_34 : decode (mB mM_held) 34 = .ok (.iaload, 1) := op46 (by decide +kernel)
theorem dM_held_35 : decode (mB mM_held) 35 = .ok (.goto 37, 3) := op167 0 37 (by decide +kernel)
theorem dM_held_38 : decode (mB mM_held) 38 = .ok (.iload_n 2, 1) := op28 (by decide +kernel)
theorem dM_held_39 : decode (mB mM_held) 39 = .ok (.iconst 1, 1) := op4 (by decide +kernel)
theorem dM_held_40 : decode (mB mM_held) 40 = .ok (.if_icmp .ne 12, 3) := op160 0 12 (by decide +kernel)
theorem dM_held_43 : decode (mB mM_held) 43 = .ok (.aload_n 0, 1) := op42 (by decide +kernel)
theorem dM_held_44 : decode (mB mM_held) 44 = .ok (.getfield 70, 3) := op180 0 70 (by decide +kernel)
theorem dM_held_47 : decode (mB mM_held) 47 = .ok (.iload_n 1, 1) := op27 (by decide +kernel)
theorem dM_held_48 : decode (mB mM_held) 48 = .ok (.iaload, 1) := op46 (by decide +kernel)
theorem dM_held_49 : decode (mB mM_held) 49 = .ok (.goto 23, 3) := op167 0 23 (by decide +kernel)
theorem dM_held_52 : decode (mB mM_held) 52 = .ok (.iload_n 2, 1) := op28 (by decide +kernel)
theorem dM_held_53 : decode (mB mM_held) 53 = .ok (.iconst 2, 1) := op5 (by decide +kernel)
theorem dM_held_54 : decode (mB mM_held) 54 = .ok (.if_icmp .ne 12, 3) := op160 0 12 (by decide +kernel)
theorem dM_held_57 : decode (mB mM_held) 57 = .ok (.aload_n 0, 1) := op42 (by decide +kernel)
theorem dM_held_58 : decode (mB mM_held) 58 = .ok (.getfield 73, 3) := op180 0 73 (by decide +kernel)
theorem dM_held_61 : decode (mB mM_held) 61 = .ok (.iload_n 1, 1) := op27 (by decide +kernel)
theorem dM_held_62 : decode (mB mM_held) 62 = .ok (.iaload, 1) := op46 (by decide +kernel)
theorem dM_held_63 : decode (mB mM_held) 63 = .ok (.goto 9, 3) := op167 0 9 (by decide +kernel)
theorem dM_held_66 : decode (mB mM_held) 66 = .ok (.aload_n 0, 1) := op42 (by decide +kernel)
theorem dM_held_67 : decode (mB mM_held) 67 = .ok (.getfield 76, 3) := op180 0 76 (by decide +kernel)
theorem dM_held_70 : decode (mB mM_held) 70 = .ok (.iload_n 1, 1) := op27 (by decide +kernel)
theorem dM_held_71 : decode (mB mM_held) 71 = .ok (.iaload, 1) := op46 (by decide +kernel)
theorem dM_held_72 : decode (mB mM_held) 72 = .ok (.ireturn, 1) := op172 (by decide +kernel)

theorem vM_held_0 {M : Mm} {b : Nat × Nat} {K : Int32 → Mm → Prop} {v0 : Nat} {v1 : Int32} {v2 : Int32}  
    (h : CI mM_isCase [.int v1] M (fun rv N => X mM_held 4 [(0, .ref v0), (1, .int v1), (2, .int v2)] [.int rv] N b (QI K))) : X mM_held 0 [(0, .ref v0), (1, .int v1), (2, .int v2)] [] M b (QI K) := by
  refine x_wf (fun hw => ?_)
  refine x_iload_n (pc := 0) dM_held_0 rfl (q := 1) rfl ?_
  exact x_invS (pc := 1) dM_held_1 (S := []) (As := [.int v1]) mlM_275 hM_isCase rfl ⟨by decide, by decide⟩ ⟨Nat.zero_le _, Nat.zero_le _⟩ rfl (Nat.le_of_ble_eq_true rfl) (aftI (b' := b) ⟨Nat.le_refl _, Nat.le_refl _⟩ (fun rv N h => h) h)

theorem vM_held_4 {M : Mm} {b : Nat × Nat} {K : Int32 → Mm → Prop} {v0 : Nat} {v1 : Int32} {v2 : Int32} {w0 : Int32}  
    (h : (w0 = 0 → (K (-1) M)) ∧ (¬ w0 = 0 → (CI mM_in [.long ((v2).toInt64), .long 0, .long 3] M (fun rv N => X mM_held 16 [(0, .ref v0), (1, .int v1), (2, .int v2)] [.int rv] N b (QI K))))) : X mM_held 4 [(0, .ref v0), (1, .int v1), (2, .int v2)] [.int w0] M b (QI K) := by
  refine x_wf (fun hw => ?_)
  obtain ⟨g1_0, g1_1⟩ := h
  refine x_if_eq (pc := 4) dM_held_4 (t := 19) rfl (fun q1 => ?_) (fun q1 => ?_)
  · have h := g1_0 q1
    refine x_iconst (pc := 19) dM_held_19 (v := (-1)) rfl ?_
    exact x_retQI (pc := 20) dM_held_20 rfl rfl h
  · refine x_iload_n (pc := 7) dM_held_7 rfl (q := 2) rfl ?_
    refine x_i2l (pc := 8) dM_held_8 ?_
    refine x_lconst (pc := 9) dM_held_9 (v := 0) rfl ?_
    refine x_ldc2 (pc := 10) dM_held_10 klM_204 ?_
    have h := g1_1 q1
    exact x_invS (pc := 13) dM_held_13 (S := []) (As := [.long ((v2).toInt64), .long 0, .long 3]) mlM_126 hM_in rfl ⟨by decide, by decide⟩ ⟨Nat.zero_le _, Nat.zero_le _⟩ rfl (Nat.le_of_ble_eq_true rfl) (aftI (b' := b) ⟨Nat.le_refl _, Nat.le_refl _⟩ (fun rv N h => h) h)

theorem vM_held_16 {M : Mm} {b : Nat × Nat} {K : Int32 → Mm → Prop} {v0 : Nat} {v1 : Int32} {v2 : Int32} {w0 : Int32} (kv0 : v0 % 64 = 11) 
    (h : (¬ w0 = 0 → (CV mM_findAll [.ref v0] M (fun N => X mM_held 25 [(0, .ref v0), (1, .int v1), (2, .int v2)] [] N b (QI K)))) ∧ (w0 = 0 → (K (-1) M))) : X mM_held 16 [(0, .ref v0), (1, .int v1), (2, .int v2)] [.int w0] M b (QI K) := by
  refine x_wf (fun hw => ?_)
  obtain ⟨g1_0, g1_1⟩ := h
  refine x_if_ne (pc := 16) dM_held_16 (t := 21) rfl (fun q1 => ?_) (fun q1 => ?_)
  · refine x_aload_n (pc := 21) dM_held_21 rfl (q := 0) rfl ?_
    have h := g1_0 q1
    exact x_invV (pc := 22) dM_held_22 (c := 11) (S := []) (As := []) mlM_319 hM_findAll rfl (by decide) rfl kv0 ⟨by decide, by decide⟩ ⟨Nat.zero_le _, Nat.zero_le _⟩ rfl (Nat.le_of_ble_eq_true rfl) (aftV (b' := b) ⟨Nat.le_refl _, Nat.le_refl _⟩ (fun N h => h) h)
  · have h := g1_1 q1
    refine x_iconst (pc := 19) dM_held_19 (v := (-1)) rfl ?_
    exact x_retQI (pc := 20) dM_held_20 rfl rfl h

theorem vM_held_25 {M : Mm} {b : Nat × Nat} {K : Int32 → Mm → Prop} {v0 : Nat} {v1 : Int32} {v2 : Int32} {r1 : Nat} {r2 : Nat} {r3 : Nat} {r4 : Nat} (kv0 : v0 % 64 = 11) (e1 : gr M v0 33 = some r1) (e2 : gr M v0 32 = some r2) (e3 : gr M v0 31 = some r3) (e4 : gr M v0 30 = some r4)
    (h : (¬ v2 = 0 ∧ ¬ v2 = 1 ∧ ¬ v2 = 2 → vp_in v1 64) ∧ ((¬ v2 = 0 ∧ ¬ v2 = 1 ∧ v2 = 2 → vp_in v1 64) ∧ ((¬ v2 = 0 ∧ v2 = 1 → vp_in v1 64) ∧ ((v2 = 0 → vp_in v1 64) ∧ (K (if v2 = 0 then (gi M r4 (v1).toNatClampNeg) else (if v2 = 1 then (gi M r3 (v1).toNatClampNeg) else (if v2 = 2 then (gi M r2 (v1).toNatClampNeg) else (gi M r1 (v1).toNatClampNeg) : Int32) : Int32) : Int32) M))))) : X mM_held 25 [(0, .ref v0), (1, .int v1), (2, .int v2)] [] M b (QI K) := by
  refine x_wf (fun hw => ?_)
  refine x_iload_n (pc := 25) dM_held_25 rfl (q := 2) rfl ?_
  obtain ⟨s1, h⟩ := h
  obtain ⟨s2, h⟩ := h
  obtain ⟨s3, h⟩ := h
  obtain ⟨s4, h⟩ := h
  suffices hJ : X mM_held 72 [(0, .ref v0), (1, .int v1), (2, .int v2)] [.int (if v2 = 0 then (gi M r4 (v1).toNatClampNeg) else (if v2 = 1 then (gi M r3 (v1).toNatClampNeg) else (if v2 = 2 then (gi M r2 (v1).toNatClampNeg) else (gi M r1 (v1).toNatClampNeg) : Int32) : Int32) : Int32)] M b (QI K) by
    refine x_if_ne (pc := 26) dM_held_26 (t := 38) rfl (fun q1 => ?_) (fun q1 => ?_)
    · refine x_iload_n (pc := 38) dM_held_38 rfl (q := 2) rfl ?_
      refine x_iconst (pc := 39) dM_held_39 (v := 1) rfl ?_
      refine x_icmp_ne (pc := 40) dM_held_40 (t := 52) rfl (fun q2 => ?_) (fun q2 => ?_)
      · refine x_iload_n (pc := 52) dM_held_52 rfl (q := 2) rfl ?_
        refine x_iconst (pc := 53) dM_held_53 (v := 2) rfl ?_
        refine x_icmp_ne (pc := 54) dM_held_54 (t := 66) rfl (fun q3 => ?_) (fun q3 => ?_)
        · refine x_aload_n (pc := 66) dM_held_66 rfl (q := 0) rfl ?_
          refine x_getR (pc := 67) dM_held_67 kv0 flM_76 rfl e1 ?_
          refine x_iload_n (pc := 70) dM_held_70 rfl (q := 1) rfl ?_
          refine x_aldIj (pc := 71) (j := (v1).toNatClampNeg) (Or.inl ⟨rfl, rfl⟩) dM_held_71 (wfk hw e1 kv0) ak_14 rfl (s1 ⟨q1, q2, q3⟩) ?_
          first | (rw [if_neg q1, if_neg q2, if_neg q3] at hJ; exact hJ) | (simp only [if_neg q1, if_neg q2, if_neg q3] at hJ ⊢; exact hJ)
        · refine x_aload_n (pc := 57) dM_held_57 rfl (q := 0) rfl ?_
          refine x_getR (pc := 58) dM_held_58 kv0 flM_73 rfl e2 ?_
          refine x_iload_n (pc := 61) dM_held_61 rfl (q := 1) rfl ?_
          refine x_aldIj (pc := 62) (j := (v1).toNatClampNeg) (Or.inl ⟨rfl, rfl⟩) dM_held_62 (wfk hw e2 kv0) ak_14 rfl (s2 ⟨q1, q2, q3⟩) ?_
          refine x_goto (pc := 63) dM_held_63 (t := 72) rfl ?_
          first | (rw [if_neg q1, if_neg q2, if_pos q3] at hJ; exact hJ) | (simp only [if_neg q1, if_neg q2, if_pos q3] at hJ ⊢; exact hJ)
      · refine x_aload_n (pc := 43) dM_held_43 rfl (q := 0) rfl ?_
        refine x_getR (pc := 44) dM_held_44 kv0 flM_70 rfl e3 ?_
        refine x_iload_n (pc := 47) dM_held_47 rfl (q := 1) rfl ?_
        refine x_aldIj (pc := 48) (j := (v1).toNatClampNeg) (Or.inl ⟨rfl, rfl⟩) dM_held_48 (wfk hw e3 kv0) ak_14 rfl (s3 ⟨q1, q2⟩) ?_
        refine x_goto (pc := 49) dM_held_49 (t := 72) rfl ?_
        first | (rw [if_neg q1, if_pos q2] at hJ; exact hJ) | (simp only [if_neg q1, if_pos q2] at hJ ⊢; exact hJ)
    · refine x_aload_n (pc := 29) dM_held_29 rfl (q := 0) rfl ?_
      refine x_getR (pc := 30) dM_held_30 kv0 flM_67 rfl e4 ?_
      refine x_iload_n (pc := 33) dM_held_33 rfl (q := 1) rfl ?_
      refine x_aldIj (pc := 34) (j := (v1).toNatClampNeg) (Or.inl ⟨rfl, rfl⟩) dM_held_34 (wfk hw e4 kv0) ak_14 rfl (s4 q1) ?_
      refine x_goto (pc := 35) dM_held_35 (t := 72) rfl ?_
      first | (rw [if_pos q1] at hJ; exact hJ) | (simp only [if_pos q1] at hJ ⊢; exact hJ)
  exact x_retQI (pc := 72) dM_held_72 rfl rfl h

theorem dM_cases_0 : decode (mB mM_cases) 0 = .ok (.aload_n 0, 1) := op42 (by decide +kernel)
theorem dM_cases_1 : decode (mB mM_cases) 1 = .ok (.iload_n 1, 1) := op27 (by decide +kernel)
theorem dM_cases_2 : decode (mB mM_cases) 2 = .ok (.invokevirtual 332, 3) := op182 1 76 (by decide +kernel)
theorem dM_cases_5 : decode (mB mM_cases) 5 = .ok (.ifCond .ne 5, 3) := op154 0 5 (by decide +kernel)
theorem dM_cases_8 : decode (mB mM_cases) 8 = .ok (.lconst 0, 1) := op9 (by decide +kernel)
theorem dM_cases_9 : decode (mB mM_cases) 9 = .ok (.lreturn, 1) := op173 (by decide +kernel)
theorem dM_cases_10 : decode (mB mM_cases) 10 = .ok (.aload_n 0, 1) := op42 (by decide +kernel)
theorem dM_cases_11 : decode (mB mM_cases) 11 = .ok (.invokevirtual 319, 3) := op182 1 63 (by decide +kernel)
theorem dM_cases_14 : decode (mB mM_cases) 14 = .ok (.lconst 0, 1) := op9 (by decide +kernel)
theorem dM_cases_15 : decode (mB mM_cases) 15 = .ok (.lstore_n 2, 1) := op65 (by decide +kernel)
theorem dM_cases_16 : decode (mB mM_cases) 16 = .ok (.iconst 0, 1) := op3 (by decide +kernel)
theorem dM_cases_17 : decode (mB mM_cases) 17 = .ok (.istore 4, 2) := op54 4 (by decide +kernel)
theorem dM_cases_19 : decode (mB mM_cases) 19 = .ok (.iload 4, 2) := op21 4 (by decide +kernel)
theorem dM_cases_21 : decode (mB mM_cases) 21 = .ok (.bipush 64, 2) := op16 64 (by decide +kernel)
theorem dM_cases_23 : decode (mB mM_cases) 23 = .ok (.if_icmp .ge 117, 3) := op162 0 117 (by decide +kernel)
theorem dM_cases_26 : decode (mB mM_cases) 26 = .ok (.iload_n 1, 1) := op27 (by decide +kernel)
theorem dM_cases_27 : decode (mB mM_cases) 27 = .ok (.ifCond .ne 22, 3) := op154 0 22 (by decide +kernel)
theorem dM_cases_30 : decode (mB mM_cases) 30 = .ok (.aload_n 0, 1) := op42 (by decide +kernel)
theorem dM_cases_31 : decode (mB mM_cases) 31 = .ok (.getfield 67, 3) := op180 0 67 (by decide +kernel)
theorem dM_cases_34 : decode (mB mM_cases) 34 = .ok (.iload 4, 2) := op21 4 (by decide +kernel)
theorem dM_cases_36 : decode (mB mM_cases) 36 = .ok (.iaload, 1) := op46 (by decide +kernel)
theorem dM_cases_37 : decode (mB mM_cases) 37 = .ok (.iconst 1, 1) := op4 (by decide +kernel)
theorem dM_cases_38 : decode (mB mM_cases) 38 = .ok (.if_icmp .ne 7, 3) := op160 0 7 (by decide +kernel)
theorem dM_cases_41 : decode (mB mM_cases) 41 = .ok (.iconst 1, 1) := op4 (by decide +kernel)
theorem dM_cases_42 : decode (mB mM_cases) 42 = .ok (.goto 74, 3) := op167 0 74 (by decide +kernel)
theorem dM_cases_45 : decode (mB mM_cases) 45 = .ok (.iconst 0, 1) := op3 (by decide +kernel)
theorem dM_cases_46 : decode (mB mM_cases) 46 = .ok (.goto 70, 3) := op167 0 70 (by decide +kernel)
theorem dM_cases_49 : decode (mB mM_cases) 49 = .ok (.iload_n 1, 1) := op27 (by decide +kernel)
theorem dM_cases_50 : decode (mB mM_cases) 50 = .ok (.iconst 1, 1) := op4 (by decide +kernel)
theorem dM_cases_51 : decode (mB mM_cases) 51 = .ok (.if_icmp .ne 21, 3) := op160 0 21 (by decide +kernel)
theorem dM_cases_54 : decode (mB mM_cases) 54 = .ok (.aload_n 0, 1) := op42 (by decide +kernel)
theorem dM_cases_55 : decode (mB mM_cases) 55 = .ok (.getfield 67, 3) := op180 0 67 (by decide +kernel)
theorem dM_cases_58 : decode (mB mM_cases) 58 = .ok (.iload 4, 2) := op21 4 (by decide +kernel)
theorem dM_cases_60 : decode (mB mM_cases) 60 = .ok (.iaload, 1) := op46 (by decide +kernel)
theorem dM_cases_61 : decode (mB mM_cases) 61 = .ok (.ifCond .ne 7, 3) := op154 0 7 (by decide +kernel)
theorem dM_cases_64 : decode (mB mM_cases) 64 = .ok (.iconst 1, 1) := op4 (by decide +kernel)
theorem dM_cases_65 : decode (mB mM_cases) 65 = .ok (.goto 51, 3) := op167 0 51 (by decide +kernel)
theorem dM_cases_68 : decode (mB mM_cases) 68 = .ok (.iconst 0, 1) := op3 (by decide +kernel)
theorem dM_cases_69 : decode (mB mM_cases) 69 = .ok (.goto 47, 3) := op167 0 47 (by decide +kernel)
theorem dM_cases_72 : decode (mB mM_cases) 72 = .ok (.iload_n 1, 1) := op27 (by decide +kernel)
theorem dM_cases_73 : decode (mB mM_cases) 73 = .ok (.iconst 2, 1) := op5 (by decide +kernel)
theorem dM_cases_74 : decode (mB mM_cases) 74 = .ok (.if_icmp .ne 23, 3) := op160 0 23 (by decide +kernel)
theorem dM_cases_77 : decode (mB mM_cases) 77 = .ok (.aload_n 0, 1) := op42 (by decide +kernel)
theorem dM_cases_78 : decode (mB mM_cases) 78 = .ok (.getfield 67, 3) := op180 0 67 (by decide +kernel)
theorem dM_cases_81 : decode (mB mM_cases) 81 = .ok (.iload 4, 2) := op21 4 (by decide +kernel)
theorem dM_cases_83 : decode (mB mM_cases) 83 = .ok (.iaload, 1) := op46 (by decide +kernel)
theorem dM_cases_84 : decode (mB mM_cases) 84 = .ok (.bipush (-4), 2) := op16 252 (by decide +kernel)
theorem dM_cases_86 : decode (mB mM_cases) 86 = .ok (.if_icmp .ne 7, 3) := op160 0 7 (by decide +kernel)
theorem dM_cases_89 : decode (mB mM_cases) 89 = .ok (.iconst 1, 1) := op4 (by decide +kernel)
theorem dM_cases_90 : decode (mB mM_cases) 90 = .ok (.goto 26, 3) := op167 0 26 (by decide +kernel)
theorem dM_cases_93 : decode (mB mM_cases) 93 = .ok (.iconst 0, 1) := op3 (by decide +kernel)
theorem dM_cases_94 : decode (mB mM_cases) 94 = .ok (.goto 22, 3) := op167 0 22 (by decide +kernel)
theorem dM_cases_97 : decode (mB mM_cases) 97 = .ok (.aload_n 0, 1) := op42 (by decide +kernel)
theorem dM_cases_98 : decode (mB mM_cases) 98 = .ok (.getfield 70, 3) := op180 0 70 (by decide +kernel)
theorem dM_cases_101 : decode (mB mM_cases) 101 = .ok (.iload 4, 2) := op21 4 (by decide +kernel)
theorem dM_cases_103 : decode (mB mM_cases) 103 = .ok (.iaload, 1) := op46 (by decide +kernel)
theorem dM_cases_104 : decode (mB mM_cases) 104 = .ok (.iload_n 1, 1) := op27 (by decide +kernel)
theorem dM_cases_105 : decode (mB mM_cases) 105 = .ok (.bipush 10, 2) := op16 10 (by decide +kernel)
theorem dM_cases_107 : decode (mB mM_cases) 107 = .ok (.isub, 1) := op100 (by decide +kernel)
theorem dM_cases_108 : decode (mB mM_cases) 108 = .ok (.if_icmp .ne 7, 3) := op160 0 7 (by decide +kernel)
theorem dM_cases_111 : decode (mB mM_cases) 111 = .ok (.iconst 1, 1) := op4 (by decide +kernel)
theorem dM_cases_112 : decode (mB mM_cases) 112 = .ok (.goto 4, 3) := op167 0 4 (by decide +kernel)
theorem dM_cases_115 : decode (mB mM_cases) 115 = .ok (.iconst 0, 1) := op3 (by decide +kernel)
theorem dM_cases_116 : decode (mB mM_cases) 116 = .ok (.istore 5, 2) := op54 5 (by decide +kernel)
theorem dM_cases_118 : decode (mB mM_cases) 118 = .ok (.lload_n 2, 1) := op32 (by decide +kernel)
theorem dM_cases_119 : decode (mB mM_cases) 119 = .ok (.iload 5, 2) := op21 5 (by decide +kernel)
theorem dM_cases_121 : decode (mB mM_cases) 121 = .ok (.ifCond .eq 10, 3) := op153 0 10 (by decide +kernel)
theorem dM_cases_124 : decode (mB mM_cases) 124 = .ok (.lconst 1, 1) := op10 (by decide +kernel)
theorem dM_cases_125 : decode (mB mM_cases) 125 = .ok (.iload 4, 2) := op21 4 (by decide +kernel)
theorem dM_cases_127 : decode (mB mM_cases) 127 = .ok (.lshl, 1) := op121 (by decide +kernel)
theorem dM_cases_128 : decode (mB mM_cases) 128 = .ok (.goto 4, 3) := op167 0 4 (by decide +kernel)
theorem dM_cases_131 : decode (mB mM_cases) 131 = .ok (.lconst 0, 1) := op9 (by decide +kernel)
theorem dM_cases_132 : decode (mB mM_cases) 132 = .ok (.lor, 1) := op129 (by decide +kernel)
theorem dM_cases_133 : decode (mB mM_cases) 133 = .ok (.lstore_n 2, 1) := op65 (by decide +kernel)
theorem dM_cases_134 : decode (mB mM_cases) 134 = .ok (.iinc 4 1, 3) := op132 4 1 (by decide +kernel)
theorem dM_cases_137 : decode (mB mM_cases) 137 = .ok (.goto (-118), 3) := op167 255 138 (by decide +kernel)
theorem dM_cases_140 : decode (mB mM_cases) 140 = .ok (.lload_n 2, 1) := op32 (by decide +kernel)
theorem dM_cases_141 : decode (mB mM_cases) 141 = .ok (.lreturn, 1) := op173 (by decide +kernel)

theorem vM_cases_0 {M : Mm} {b : Nat × Nat} {K : Int64 → Mm → Prop} {v0 : Nat} {v1 : Int32} (kv0 : v0 % 64 = 11) 
    (h : CI mM_areAsked [.ref v0, .int v1] M (fun rv N => X mM_cases 5 [(0, .ref v0), (1, .int v1)] [.int rv] N b (QJ K))) : X mM_cases 0 [(0, .ref v0), (1, .int v1)] [] M b (QJ K) := by
  refine x_wf (fun hw => ?_)
  refine x_aload_n (pc := 0) dM_cases_0 rfl (q := 0) rfl ?_
  refine x_iload_n (pc := 1) dM_cases_1 rfl (q := 1) rfl ?_
  exact x_invV (pc := 2) dM_cases_2 (c := 11) (S := []) (As := [.int v1]) mlM_332 hM_areAsked rfl (by decide) rfl kv0 ⟨by decide, by decide⟩ ⟨Nat.zero_le _, Nat.zero_le _⟩ rfl (Nat.le_of_ble_eq_true rfl) (aftI (b' := b) ⟨Nat.le_refl _, Nat.le_refl _⟩ (fun rv N h => h) h)

theorem vM_cases_5 {M : Mm} {b : Nat × Nat} {K : Int64 → Mm → Prop} {v0 : Nat} {v1 : Int32} {w0 : Int32} (kv0 : v0 % 64 = 11) 
    (h : (¬ w0 = 0 → (CV mM_findAll [.ref v0] M (fun N => X mM_cases 14 [(0, .ref v0), (1, .int v1)] [] N b (QJ K)))) ∧ (w0 = 0 → (K 0 M))) : X mM_cases 5 [(0, .ref v0), (1, .int v1)] [.int w0] M b (QJ K) := by
  refine x_wf (fun hw => ?_)
  obtain ⟨g1_0, g1_1⟩ := h
  refine x_if_ne (pc := 5) dM_cases_5 (t := 10) rfl (fun q1 => ?_) (fun q1 => ?_)
  · refine x_aload_n (pc := 10) dM_cases_10 rfl (q := 0) rfl ?_
    have h := g1_0 q1
    exact x_invV (pc := 11) dM_cases_11 (c := 11) (S := []) (As := []) mlM_319 hM_findAll rfl (by decide) rfl kv0 ⟨by decide, by decide⟩ ⟨Nat.zero_le _, Nat.zero_le _⟩ rfl (Nat.le_of_ble_eq_true rfl) (aftV (b' := b) ⟨Nat.le_refl _, Nat.le_refl _⟩ (fun N h => h) h)
  · refine x_lconst (pc := 8) dM_cases_8 (v := 0) rfl ?_
    have h := g1_1 q1
    exact x_retQJ (pc := 9) dM_cases_9 rfl h

theorem vM_cases_14 {M : Mm} {b : Nat × Nat} {K : Int64 → Mm → Prop} {v0 : Nat} {v1 : Int32}  
    (h : X mM_cases 19 [(0, .ref v0), (1, .int v1), (2, .long 0), (4, .int 0)] [] M b (QJ K)) : X mM_cases 14 [(0, .ref v0), (1, .int v1)] [] M b (QJ K) := by
  refine x_wf (fun hw => ?_)
  refine x_lconst (pc := 14) dM_cases_14 (v := 0) rfl ?_
  refine x_lstore_n (pc := 15) dM_cases_15 rfl (by decide) (L' := [(2, .long 0), (0, .ref v0), (1, .int v1)]) rfl ?_
  refine x_iconst (pc := 16) dM_cases_16 (v := 0) rfl ?_
  refine x_istore (pc := 17) dM_cases_17 (by decide) (L' := [(4, .int 0), (2, .long 0), (0, .ref v0), (1, .int v1)]) rfl ?_
  exact x_loc [2, 3, 1, 0] rfl h

theorem vM_cases_19 {M : Mm} {b : Nat × Nat} {K : Int64 → Mm → Prop} {v0 : Nat} {v1 : Int32} {v2 : Int64} {v4 : Int32} {r1 : Nat} {r2 : Nat} (kv0 : v0 % 64 = 11) (e1 : gr M v0 31 = some r1) (e2 : gr M v0 30 = some r2)
    (h : (¬ 64 ≤ v4 ∧ ¬ v1 = 0 ∧ ¬ v1 = 1 ∧ ¬ v1 = 2 → vp_in v4 64) ∧ (¬ 64 ≤ v4 ∧ ¬ v1 = 0 ∧ ¬ v1 = 1 ∧ v1 = 2 → vp_in v4 64) ∧ (¬ 64 ≤ v4 ∧ ¬ v1 = 0 ∧ v1 = 1 → vp_in v4 64) ∧ (¬ 64 ≤ v4 ∧ v1 = 0 → vp_in v4 64) ∧ (64 ≤ v4 → (K v2 M)) ∧ (((¬ 64 ≤ v4 ∧ ¬ v1 = 0 ∧ ¬ v1 = 1 ∧ ¬ v1 = 2 ∧ ¬ (gi M r1 (v4).toNatClampNeg) = (v1 - 10)) ∨ (¬ 64 ≤ v4 ∧ ¬ v1 = 0 ∧ ¬ v1 = 1 ∧ v1 = 2 ∧ ¬ (gi M r2 (v4).toNatClampNeg) = (-4)) ∨ (¬ 64 ≤ v4 ∧ ¬ v1 = 0 ∧ v1 = 1 ∧ ¬ (gi M r2 (v4).toNatClampNeg) = 0) ∨ (¬ 64 ≤ v4 ∧ v1 = 0 ∧ ¬ (gi M r2 (v4).toNatClampNeg) = 1)) → (X mM_cases 116 [(0, .ref v0), (1, .int v1), (2, .long v2), (4, .int v4)] [.int 0] M b (QJ K))) ∧ (((¬ 64 ≤ v4 ∧ ¬ v1 = 0 ∧ ¬ v1 = 1 ∧ ¬ v1 = 2 ∧ (gi M r1 (v4).toNatClampNeg) = (v1 - 10)) ∨ (¬ 64 ≤ v4 ∧ ¬ v1 = 0 ∧ ¬ v1 = 1 ∧ v1 = 2 ∧ (gi M r2 (v4).toNatClampNeg) = (-4)) ∨ (¬ 64 ≤ v4 ∧ ¬ v1 = 0 ∧ v1 = 1 ∧ (gi M r2 (v4).toNatClampNeg) = 0) ∨ (¬ 64 ≤ v4 ∧ v1 = 0 ∧ (gi M r2 (v4).toNatClampNeg) = 1)) → (X mM_cases 116 [(0, .ref v0), (1, .int v1), (2, .long v2), (4, .int v4)] [.int 1] M b (QJ K)))) : X mM_cases 19 [(0, .ref v0), (1, .int v1), (2, .long v2), (4, .int v4)] [] M b (QJ K) := by
  refine x_wf (fun hw => ?_)
  refine x_iload (pc := 19) dM_cases_19 (q := 3) rfl ?_
  refine x_bipush (pc := 21) dM_cases_21 (v := 64) rfl ?_
  obtain ⟨s1, s2, s3, s4, g1_0, g1_1, g1_2⟩ := h
  have g1_k1 : (¬ 64 ≤ v4 ∧ ¬ v1 = 0 ∧ ¬ v1 = 1 ∧ ¬ v1 = 2 ∧ ¬ (gi M r1 (v4).toNatClampNeg) = (v1 - 10)) ∨ (¬ 64 ≤ v4 ∧ ¬ v1 = 0 ∧ ¬ v1 = 1 ∧ v1 = 2 ∧ ¬ (gi M r2 (v4).toNatClampNeg) = (-4)) ∨ (¬ 64 ≤ v4 ∧ ¬ v1 = 0 ∧ v1 = 1 ∧ ¬ (gi M r2 (v4).toNatClampNeg) = 0) ∨ (¬ 64 ≤ v4 ∧ v1 = 0 ∧ ¬ (gi M r2 (v4).toNatClampNeg) = 1) → X mM_cases 116 [(0, .ref v0), (1, .int v1), (2, .long v2), (4, .int v4)] [.int 0] M b (QJ K) := fun q => by
    have h := g1_1 q
    exact h
  have g1_k2 : (¬ 64 ≤ v4 ∧ ¬ v1 = 0 ∧ ¬ v1 = 1 ∧ ¬ v1 = 2 ∧ (gi M r1 (v4).toNatClampNeg) = (v1 - 10)) ∨ (¬ 64 ≤ v4 ∧ ¬ v1 = 0 ∧ ¬ v1 = 1 ∧ v1 = 2 ∧ (gi M r2 (v4).toNatClampNeg) = (-4)) ∨ (¬ 64 ≤ v4 ∧ ¬ v1 = 0 ∧ v1 = 1 ∧ (gi M r2 (v4).toNatClampNeg) = 0) ∨ (¬ 64 ≤ v4 ∧ v1 = 0 ∧ (gi M r2 (v4).toNatClampNeg) = 1) → X mM_cases 116 [(0, .ref v0), (1, .int v1), (2, .long v2), (4, .int v4)] [.int 1] M b (QJ K) := fun q => by
    have h := g1_2 q
    exact h
  refine x_icmp_ge (pc := 23) dM_cases_23 (t := 140) rfl (fun q1 => ?_) (fun q1 => ?_)
  · refine x_lload_n (pc := 140) dM_cases_140 rfl (q := 2) rfl ?_
    have h := g1_0 q1
    exact x_retQJ (pc := 141) dM_cases_141 rfl h
  · refine x_iload_n (pc := 26) dM_cases_26 rfl (q := 1) rfl ?_
    refine x_if_ne (pc := 27) dM_cases_27 (t := 49) rfl (fun q2 => ?_) (fun q2 => ?_)
    · refine x_iload_n (pc := 49) dM_cases_49 rfl (q := 1) rfl ?_
      refine x_iconst (pc := 50) dM_cases_50 (v := 1) rfl ?_
      refine x_icmp_ne (pc := 51) dM_cases_51 (t := 72) rfl (fun q3 => ?_) (fun q3 => ?_)
      · refine x_iload_n (pc := 72) dM_cases_72 rfl (q := 1) rfl ?_
        refine x_iconst (pc := 73) dM_cases_73 (v := 2) rfl ?_
        refine x_icmp_ne (pc := 74) dM_cases_74 (t := 97) rfl (fun q4 => ?_) (fun q4 => ?_)
        · refine x_aload_n (pc := 97) dM_cases_97 rfl (q := 0) rfl ?_
          refine x_getR (pc := 98) dM_cases_98 kv0 flM_70 rfl e1 ?_
          refine x_iload (pc := 101) dM_cases_101 (q := 3) rfl ?_
          refine x_aldIj (pc := 103) (j := (v4).toNatClampNeg) (Or.inl ⟨rfl, rfl⟩) dM_cases_103 (wfk hw e1 kv0) ak_14 rfl (s1 ⟨q1, q2, q3, q4⟩) ?_
          refine x_iload_n (pc := 104) dM_cases_104 rfl (q := 1) rfl ?_
          refine x_bipush (pc := 105) dM_cases_105 (v := 10) rfl ?_
          refine x_isub (pc := 107) dM_cases_107 ?_
          refine x_icmp_ne (pc := 108) dM_cases_108 (t := 115) rfl (fun q5 => ?_) (fun q5 => ?_)
          · refine x_iconst (pc := 115) dM_cases_115 (v := 0) rfl ?_
            exact g1_k1 (Or.inl ⟨q1, q2, q3, q4, q5⟩)
          · refine x_iconst (pc := 111) dM_cases_111 (v := 1) rfl ?_
            refine x_goto (pc := 112) dM_cases_112 (t := 116) rfl ?_
            exact g1_k2 (Or.inl ⟨q1, q2, q3, q4, q5⟩)
        · refine x_aload_n (pc := 77) dM_cases_77 rfl (q := 0) rfl ?_
          refine x_getR (pc := 78) dM_cases_78 kv0 flM_67 rfl e2 ?_
          refine x_iload (pc := 81) dM_cases_81 (q := 3) rfl ?_
          refine x_aldIj (pc := 83) (j := (v4).toNatClampNeg) (Or.inl ⟨rfl, rfl⟩) dM_cases_83 (wfk hw e2 kv0) ak_14 rfl (s2 ⟨q1, q2, q3, q4⟩) ?_
          refine x_bipush (pc := 84) dM_cases_84 (v := (-4)) rfl ?_
          refine x_icmp_ne (pc := 86) dM_cases_86 (t := 93) rfl (fun q6 => ?_) (fun q6 => ?_)
          · refine x_iconst (pc := 93) dM_cases_93 (v := 0) rfl ?_
            refine x_goto (pc := 94) dM_cases_94 (t := 116) rfl ?_
            exact g1_k1 (Or.inr (Or.inl ⟨q1, q2, q3, q4, q6⟩))
          · refine x_iconst (pc := 89) dM_cases_89 (v := 1) rfl ?_
            refine x_goto (pc := 90) dM_cases_90 (t := 116) rfl ?_
            exact g1_k2 (Or.inr (Or.inl ⟨q1, q2, q3, q4, q6⟩))
      · refine x_aload_n (pc := 54) dM_cases_54 rfl (q := 0) rfl ?_
        refine x_getR (pc := 55) dM_cases_55 kv0 flM_67 rfl e2 ?_
        refine x_iload (pc := 58) dM_cases_58 (q := 3) rfl ?_
        refine x_aldIj (pc := 60) (j := (v4).toNatClampNeg) (Or.inl ⟨rfl, rfl⟩) dM_cases_60 (wfk hw e2 kv0) ak_14 rfl (s3 ⟨q1, q2, q3⟩) ?_
        refine x_if_ne (pc := 61) dM_cases_61 (t := 68) rfl (fun q7 => ?_) (fun q7 => ?_)
        · refine x_iconst (pc := 68) dM_cases_68 (v := 0) rfl ?_
          refine x_goto (pc := 69) dM_cases_69 (t := 116) rfl ?_
          exact g1_k1 (Or.inr (Or.inr (Or.inl ⟨q1, q2, q3, q7⟩)))
        · refine x_iconst (pc := 64) dM_cases_64 (v := 1) rfl ?_
          refine x_goto (pc := 65) dM_cases_65 (t := 116) rfl ?_
          exact g1_k2 (Or.inr (Or.inr (Or.inl ⟨q1, q2, q3, q7⟩)))
    · refine x_aload_n (pc := 30) dM_cases_30 rfl (q := 0) rfl ?_
      refine x_getR (pc := 31) dM_cases_31 kv0 flM_67 rfl e2 ?_
      refine x_iload (pc := 34) dM_cases_34 (q := 3) rfl ?_
      refine x_aldIj (pc := 36) (j := (v4).toNatClampNeg) (Or.inl ⟨rfl, rfl⟩) dM_cases_36 (wfk hw e2 kv0) ak_14 rfl (s4 ⟨q1, q2⟩) ?_
      refine x_iconst (pc := 37) dM_cases_37 (v := 1) rfl ?_
      refine x_icmp_ne (pc := 38) dM_cases_38 (t := 45) rfl (fun q8 => ?_) (fun q8 => ?_)
      · refine x_iconst (pc := 45) dM_cases_45 (v := 0) rfl ?_
        refine x_goto (pc := 46) dM_cases_46 (t := 116) rfl ?_
        exact g1_k1 (Or.inr (Or.inr (Or.inr ⟨q1, q2, q8⟩)))
      · refine x_iconst (pc := 41) dM_cases_41 (v := 1) rfl ?_
        refine x_goto (pc := 42) dM_cases_42 (t := 116) rfl ?_
        exact g1_k2 (Or.inr (Or.inr (Or.inr ⟨q1, q2, q8⟩)))

theorem vM_cases_116 {M : Mm} {b : Nat × Nat} {K : Int64 → Mm → Prop} {v0 : Nat} {v1 : Int32} {v2 : Int64} {v4 : Int32} {w0 : Int32}  
    (h : X mM_cases 19 [(0, .ref v0), (1, .int v1), (2, .long (v2 ||| (if w0 = 0 then 0 else ((1 : Int64) <<< ((v4).toInt64 &&& 63)) : Int64))), (4, .int (v4 + 1))] [] M b (QJ K)) : X mM_cases 116 [(0, .ref v0), (1, .int v1), (2, .long v2), (4, .int v4)] [.int w0] M b (QJ K) := by
  refine x_wf (fun hw => ?_)
  refine x_istore (pc := 116) dM_cases_116 (by decide) (L' := [(5, .int w0), (0, .ref v0), (1, .int v1), (2, .long v2), (4, .int v4)]) rfl ?_
  refine x_lload_n (pc := 118) dM_cases_118 rfl (q := 3) rfl ?_
  refine x_iload (pc := 119) dM_cases_119 (q := 0) rfl ?_
  suffices hJ : X mM_cases 132 [(5, .int w0), (0, .ref v0), (1, .int v1), (2, .long v2), (4, .int v4)] [.long (if w0 = 0 then 0 else ((1 : Int64) <<< ((v4).toInt64 &&& 63)) : Int64), .long v2] M b (QJ K) by
    refine x_if_eq (pc := 121) dM_cases_121 (t := 131) rfl (fun q1 => ?_) (fun q1 => ?_)
    · refine x_lconst (pc := 131) dM_cases_131 (v := 0) rfl ?_
      first | (rw [if_pos q1] at hJ; exact hJ) | (simp only [if_pos q1] at hJ ⊢; exact hJ)
    · refine x_lconst (pc := 124) dM_cases_124 (v := 1) rfl ?_
      refine x_iload (pc := 125) dM_cases_125 (q := 4) rfl ?_
      refine x_lshl (pc := 127) dM_cases_127 ?_
      refine x_goto (pc := 128) dM_cases_128 (t := 132) rfl ?_
      first | (rw [if_neg q1] at hJ; exact hJ) | (simp only [if_neg q1] at hJ ⊢; exact hJ)
  refine x_lor (pc := 132) dM_cases_132 ?_
  refine x_lstore_n (pc := 133) dM_cases_133 rfl (by decide) (L' := [(2, .long (v2 ||| (if w0 = 0 then 0 else ((1 : Int64) <<< ((v4).toInt64 &&& 63)) : Int64))), (5, .int w0), (0, .ref v0), (1, .int v1), (4, .int v4)]) rfl ?_
  refine x_iinc (pc := 134) dM_cases_134 (q := 4) rfl (v := v4 + 1) rfl (by decide) (L' := [(4, .int (v4 + 1)), (2, .long (v2 ||| (if w0 = 0 then 0 else ((1 : Int64) <<< ((v4).toInt64 &&& 63)) : Int64))), (5, .int w0), (0, .ref v0), (1, .int v1)]) rfl ?_
  refine x_goto (pc := 137) dM_cases_137 (t := 19) rfl ?_
  exact x_loc [3, 4, 1, 0] rfl h

theorem dM_areAsked_0 : decode (mB mM_areAsked) 0 = .ok (.iload_n 1, 1) := op27 (by decide +kernel)
theorem dM_areAsked_1 : decode (mB mM_areAsked) 1 = .ok (.i2l, 1) := op133 (by decide +kernel)
theorem dM_areAsked_2 : decode (mB mM_areAsked) 2 = .ok (.lconst 0, 1) := op9 (by decide +kernel)
theorem dM_areAsked_3 : decode (mB mM_areAsked) 3 = .ok (.ldc2_w 281, 3) := op20 1 25 (by decide +kernel)
theorem dM_areAsked_6 : decode (mB mM_areAsked) 6 = .ok (.invokestatic 126, 3) := op184 0 126 (by decide +kernel)
theorem dM_areAsked_9 : decode (mB mM_areAsked) 9 = .ok (.ifCond .ne 17, 3) := op154 0 17 (by decide +kernel)
theorem dM_areAsked_12 : decode (mB mM_areAsked) 12 = .ok (.iload_n 1, 1) := op27 (by decide +kernel)
theorem dM_areAsked_13 : decode (mB mM_areAsked) 13 = .ok (.i2l, 1) := op133 (by decide +kernel)
theorem dM_areAsked_14 : decode (mB mM_areAsked) 14 = .ok (.ldc2_w 328, 3) := op20 1 72 (by decide +kernel)
theorem dM_areAsked_17 : decode (mB mM_areAsked) 17 = .ok (.ldc2_w 330, 3) := op20 1 74 (by decide +kernel)
theorem dM_areAsked_20 : decode (mB mM_areAsked) 20 = .ok (.invokestatic 126, 3) := op184 0 126 (by decide +kernel)
theorem dM_areAsked_23 : decode (mB mM_areAsked) 23 = .ok (.ifCond .eq 7, 3) := op153 0 7 (by decide +kernel)
theorem dM_areAsked_26 : decode (mB mM_areAsked) 26 = .ok (.iconst 1, 1) := op4 (by decide +kernel)
theorem dM_areAsked_27 : decode (mB mM_areAsked) 27 = .ok (.goto 4, 3) := op167 0 4 (by decide +kernel)
theorem dM_areAsked_30 : decode (mB mM_areAsked) 30 = .ok (.iconst 0, 1) := op3 (by decide +kernel)
theorem dM_areAsked_31 : decode (mB mM_areAsked) 31 = .ok (.ireturn, 1) := op172 (by decide +kernel)

theorem vM_areAsked_0 {M : Mm} {b : Nat × Nat} {K : Int32 → Mm → Prop} {v1 : Int32}  
    (h : CI mM_in [.long ((v1).toInt64), .long 0, .long 2] M (fun rv N => X mM_areAsked 9 [(1, .int v1)] [.int rv] N b (QI K))) : X mM_areAsked 0 [(1, .int v1)] [] M b (QI K) := by
  refine x_wf (fun hw => ?_)
  refine x_iload_n (pc := 0) dM_areAsked_0 rfl (q := 0) rfl ?_
  refine x_i2l (pc := 1) dM_areAsked_1 ?_
  refine x_lconst (pc := 2) dM_areAsked_2 (v := 0) rfl ?_
  refine x_ldc2 (pc := 3) dM_areAsked_3 klM_281 ?_
  exact x_invS (pc := 6) dM_areAsked_6 (S := []) (As := [.long ((v1).toInt64), .long 0, .long 2]) mlM_126 hM_in rfl ⟨by decide, by decide⟩ ⟨Nat.zero_le _, Nat.zero_le _⟩ rfl (Nat.le_of_ble_eq_true rfl) (aftI (b' := b) ⟨Nat.le_refl _, Nat.le_refl _⟩ (fun rv N h => h) h)

theorem vM_areAsked_9 {M : Mm} {b : Nat × Nat} {K : Int32 → Mm → Prop} {v1 : Int32} {w0 : Int32}  
    (h : (¬ w0 = 0 → (K 1 M)) ∧ (w0 = 0 → (CI mM_in [.long ((v1).toInt64), .long 10, .long 14] M (fun rv N => X mM_areAsked 23 [] [.int rv] N b (QI K))))) : X mM_areAsked 9 [(1, .int v1)] [.int w0] M b (QI K) := by
  refine x_wf (fun hw => ?_)
  obtain ⟨g1_0, g1_1⟩ := h
  refine x_if_ne (pc := 9) dM_areAsked_9 (t := 26) rfl (fun q1 => ?_) (fun q1 => ?_)
  · have h := g1_0 q1
    refine x_iconst (pc := 26) dM_areAsked_26 (v := 1) rfl ?_
    refine x_goto (pc := 27) dM_areAsked_27 (t := 31) rfl ?_
    exact x_retQI (pc := 31) dM_areAsked_31 rfl (by (repeat' split) <;> rfl) h
  · refine x_iload_n (pc := 12) dM_areAsked_12 rfl (q := 0) rfl ?_
    refine x_i2l (pc := 13) dM_areAsked_13 ?_
    refine x_ldc2 (pc := 14) dM_areAsked_14 klM_328 ?_
    refine x_ldc2 (pc := 17) dM_areAsked_17 klM_330 ?_
    have h := g1_1 q1
    exact x_invS (pc := 20) dM_areAsked_20 (S := []) (As := [.long ((v1).toInt64), .long 10, .long 14]) mlM_126 hM_in rfl ⟨by decide, by decide⟩ ⟨Nat.zero_le _, Nat.zero_le _⟩ rfl (Nat.le_of_ble_eq_true rfl) (aftI (b' := b) ⟨Nat.le_refl _, Nat.le_refl _⟩ (fun rv N h => x_loc [] rfl h) h)

theorem vM_areAsked_23 {M : Mm} {b : Nat × Nat} {K : Int32 → Mm → Prop} {w0 : Int32}  
    (h : (w0 = 0 → (K 0 M)) ∧ (¬ w0 = 0 → (K 1 M))) : X mM_areAsked 23 [] [.int w0] M b (QI K) := by
  refine x_wf (fun hw => ?_)
  obtain ⟨g1_0, g1_1⟩ := h
  refine x_if_eq (pc := 23) dM_areAsked_23 (t := 30) rfl (fun q1 => ?_) (fun q1 => ?_)
  · refine x_iconst (pc := 30) dM_areAsked_30 (v := 0) rfl ?_
    have h := g1_0 q1
    exact x_retQI (pc := 31) dM_areAsked_31 rfl (by (repeat' split) <;> rfl) h
  · have h := g1_1 q1
    refine x_iconst (pc := 26) dM_areAsked_26 (v := 1) rfl ?_
    refine x_goto (pc := 27) dM_areAsked_27 (t := 31) rfl ?_
    exact x_retQI (pc := 31) dM_areAsked_31 rfl (by (repeat' split) <;> rfl) h

theorem dM_many_0 : decode (mB mM_many) 0 = .ok (.aload_n 0, 1) := op42 (by decide +kernel)
theorem dM_many_1 : decode (mB mM_many) 1 = .ok (.iload_n 1, 1) := op27 (by decide +kernel)
theorem dM_many_2 : decode (mB mM_many) 2 = .ok (.invokevirtual 332, 3) := op182 1 76 (by decide +kernel)
theorem dM_many_5 : decode (mB mM_many) 5 = .ok (.ifCond .eq 14, 3) := op153 0 14 (by decide +kernel)
theorem dM_many_8 : decode (mB mM_many) 8 = .ok (.aload_n 0, 1) := op42 (by decide +kernel)
theorem dM_many_9 : decode (mB mM_many) 9 = .ok (.iload_n 1, 1) := op27 (by decide +kernel)
theorem dM_many_10 : decode (mB mM_many) 10 = .ok (.invokevirtual 335, 3) := op182 1 79 (by decide +kernel)
theorem dM_many_13 : decode (mB mM_many) 13 = .ok (.invokestatic 300, 3) := op184 1 44 (by decide +kernel)
theorem dM_many_16 : decode (mB mM_many) 16 = .ok (.goto 4, 3) := op167 0 4 (by decide +kernel)
theorem dM_many_19 : decode (mB mM_many) 19 = .ok (.iconst (-1), 1) := op2 (by decide +kernel)
theorem dM_many_20 : decode (mB mM_many) 20 = .ok (.ireturn, 1) := op172 (by decide +kernel)

theorem vM_many_0 {M : Mm} {b : Nat × Nat} {K : Int32 → Mm → Prop} {v0 : Nat} {v1 : Int32} (kv0 : v0 % 64 = 11) 
    (h : CI mM_areAsked [.ref v0, .int v1] M (fun rv N => X mM_many 5 [(0, .ref v0), (1, .int v1)] [.int rv] N b (QI K))) : X mM_many 0 [(0, .ref v0), (1, .int v1)] [] M b (QI K) := by
  refine x_wf (fun hw => ?_)
  refine x_aload_n (pc := 0) dM_many_0 rfl (q := 0) rfl ?_
  refine x_iload_n (pc := 1) dM_many_1 rfl (q := 1) rfl ?_
  exact x_invV (pc := 2) dM_many_2 (c := 11) (S := []) (As := [.int v1]) mlM_332 hM_areAsked rfl (by decide) rfl kv0 ⟨by decide, by decide⟩ ⟨Nat.zero_le _, Nat.zero_le _⟩ rfl (Nat.le_of_ble_eq_true rfl) (aftI (b' := b) ⟨Nat.le_refl _, Nat.le_refl _⟩ (fun rv N h => h) h)

theorem vM_many_5 {M : Mm} {b : Nat × Nat} {K : Int32 → Mm → Prop} {v0 : Nat} {v1 : Int32} {w0 : Int32} (kv0 : v0 % 64 = 11) 
    (h : (w0 = 0 → (K (-1) M)) ∧ (¬ w0 = 0 → (CJ mM_cases [.ref v0, .int v1] M (fun rv N => X mM_many 13 [] [.long rv] N b (QI K))))) : X mM_many 5 [(0, .ref v0), (1, .int v1)] [.int w0] M b (QI K) := by
  refine x_wf (fun hw => ?_)
  obtain ⟨g1_0, g1_1⟩ := h
  refine x_if_eq (pc := 5) dM_many_5 (t := 19) rfl (fun q1 => ?_) (fun q1 => ?_)
  · refine x_iconst (pc := 19) dM_many_19 (v := (-1)) rfl ?_
    have h := g1_0 q1
    exact x_retQI (pc := 20) dM_many_20 rfl rfl h
  · refine x_aload_n (pc := 8) dM_many_8 rfl (q := 0) rfl ?_
    refine x_iload_n (pc := 9) dM_many_9 rfl (q := 1) rfl ?_
    have h := g1_1 q1
    exact x_invV (pc := 10) dM_many_10 (c := 11) (S := []) (As := [.int v1]) mlM_335 hM_cases rfl (by decide) rfl kv0 ⟨by decide, by decide⟩ ⟨Nat.zero_le _, Nat.zero_le _⟩ rfl (Nat.le_of_ble_eq_true rfl) (aftJ (b' := b) ⟨Nat.le_refl _, Nat.le_refl _⟩ (fun rv N h => x_loc [] rfl h) h)

theorem vM_many_13 {M : Mm} {b : Nat × Nat} {K : Int32 → Mm → Prop} {w0 : Int64}  
    (h : CI mM_manyOf [.long w0] M (fun rv N => X mM_many 16 [] [.int rv] N b (QI K))) : X mM_many 13 [] [.long w0] M b (QI K) := by
  refine x_wf (fun hw => ?_)
  exact x_invS (pc := 13) dM_many_13 (S := []) (As := [.long w0]) mlM_300 hM_manyOf rfl ⟨by decide, by decide⟩ ⟨Nat.zero_le _, Nat.zero_le _⟩ rfl (Nat.le_of_ble_eq_true rfl) (aftI (b' := b) ⟨Nat.le_refl _, Nat.le_refl _⟩ (fun rv N h => h) h)

theorem vM_many_16 {M : Mm} {b : Nat × Nat} {K : Int32 → Mm → Prop} {w0 : Int32}  
    (h : K w0 M) : X mM_many 16 [] [.int w0] M b (QI K) := by
  refine x_wf (fun hw => ?_)
  refine x_goto (pc := 16) dM_many_16 (t := 20) rfl ?_
  exact x_retQI (pc := 20) dM_many_20 rfl rfl h

theorem dM_reckon_0 : decode (mB mM_reckon) 0 = .ok (.iload_n 1, 1) := op27 (by decide +kernel)
theorem dM_reckon_1 : decode (mB mM_reckon) 1 = .ok (.invokestatic 275, 3) := op184 1 19 (by decide +kernel)
theorem dM_reckon_4 : decode (mB mM_reckon) 4 = .ok (.ifCond .ne 5, 3) := op154 0 5 (by decide +kernel)
theorem dM_reckon_7 : decode (mB mM_reckon) 7 = .ok (.iconst (-1), 1) := op2 (by decide +kernel)
theorem dM_reckon_8 : decode (mB mM_reckon) 8 = .ok (.ireturn, 1) := op172 (by decide +kernel)
theorem dM_reckon_9 : decode (mB mM_reckon) 9 = .ok (.aload_n 0, 1) := op42 (by decide +kernel)
theorem dM_reckon_10 : decode (mB mM_reckon) 10 = .ok (.invokevirtual 319, 3) := op182 1 63 (by decide +kernel)
theorem dM_reckon_13 : decode (mB mM_reckon) 13 = .ok (.iload_n 2, 1) := op28 (by decide +kernel)
theorem dM_reckon_14 : decode (mB mM_reckon) 14 = .ok (.aload_n 0, 1) := op42 (by decide +kernel)
theorem dM_reckon_15 : decode (mB mM_reckon) 15 = .ok (.getfield 70, 3) := op180 0 70 (by decide +kernel)
theorem dM_reckon_18 : decode (mB mM_reckon) 18 = .ok (.iload_n 1, 1) := op27 (by decide +kernel)
theorem dM_reckon_19 : decode (mB mM_reckon) 19 = .ok (.iaload, 1) := op46 (by decide +kernel)
theorem dM_reckon_20 : decode (mB mM_reckon) 20 = .ok (.if_icmp .eq 7, 3) := op159 0 7 (by decide +kernel)
theorem dM_reckon_23 : decode (mB mM_reckon) 23 = .ok (.iconst 1, 1) := op4 (by decide +kernel)
theorem dM_reckon_24 : decode (mB mM_reckon) 24 = .ok (.goto 48, 3) := op167 0 48 (by decide +kernel)
theorem dM_reckon_27 : decode (mB mM_reckon) 27 = .ok (.iload_n 3, 1) := op29 (by decide +kernel)
theorem dM_reckon_28 : decode (mB mM_reckon) 28 = .ok (.aload_n 0, 1) := op42 (by decide +kernel)
theorem dM_reckon_29 : decode (mB mM_reckon) 29 = .ok (.getfield 73, 3) := op180 0 73 (by decide +kernel)
theorem dM_reckon_32 : decode (mB mM_reckon) 32 = .ok (.iload_n 1, 1) := op27 (by decide +kernel)
theorem dM_reckon_33 : decode (mB mM_reckon) 33 = .ok (.iaload, 1) := op46 (by decide +kernel)
theorem dM_reckon_34 : decode (mB mM_reckon) 34 = .ok (.if_icmp .eq 7, 3) := op159 0 7 (by decide +kernel)
theorem dM_reckon_37 : decode (mB mM_reckon) 37 = .ok (.iconst 2, 1) := op5 (by decide +kernel)
theorem dM_reckon_38 : decode (mB mM_reckon) 38 = .ok (.goto 34, 3) := op167 0 34 (by decide +kernel)
theorem dM_reckon_41 : decode (mB mM_reckon) 41 = .ok (.iload 4, 2) := op21 4 (by decide +kernel)
theorem dM_reckon_43 : decode (mB mM_reckon) 43 = .ok (.aload_n 0, 1) := op42 (by decide +kernel)
theorem dM_reckon_44 : decode (mB mM_reckon) 44 = .ok (.getfield 76, 3) := op180 0 76 (by decide +kernel)
theorem dM_reckon_47 : decode (mB mM_reckon) 47 = .ok (.iload_n 1, 1) := op27 (by decide +kernel)
theorem dM_reckon_48 : decode (mB mM_reckon) 48 = .ok (.iaload, 1) := op46 (by decide +kernel)
theorem dM_reckon_49 : decode (mB mM_reckon) 49 = .ok (.if_icmp .eq 7, 3) := op159 0 7 (by decide +kernel)
theorem dM_reckon_52 : decode (mB mM_reckon) 52 = .ok (.iconst 3, 1) := op6 (by decide +kernel)
theorem dM_reckon_53 : decode (mB mM_reckon) 53 = .ok (.goto 19, 3) := op167 0 19 (by decide +kernel)
theorem dM_reckon_56 : decode (mB mM_reckon) 56 = .ok (.iload 5, 2) := op21 5 (by decide +kernel)
theorem dM_reckon_58 : decode (mB mM_reckon) 58 = .ok (.aload_n 0, 1) := op42 (by decide +kernel)
theorem dM_reckon_59 : decode (mB mM_reckon) 59 = .ok (.getfield 67, 3) := op180 0 67 (by decide +kernel)
theorem dM_reckon_62 : decode (mB mM_reckon) 62 = .ok (.iload_n 1, 1) := op27 (by decide +kernel)
theorem dM_reckon_63 : decode (mB mM_reckon) 63 = .ok (.iaload, 1) := op46 (by decide +kernel)
theorem dM_reckon_64 : decode (mB mM_reckon) 64 = .ok (.if_icmp .eq 7, 3) := op159 0 7 (by decide +kernel)
theorem dM_reckon_67 : decode (mB mM_reckon) 67 = .ok (.iconst 4, 1) := op7 (by decide +kernel)
theorem dM_reckon_68 : decode (mB mM_reckon) 68 = .ok (.goto 4, 3) := op167 0 4 (by decide +kernel)
theorem dM_reckon_71 : decode (mB mM_reckon) 71 = .ok (.iconst 0, 1) := op3 (by decide +kernel)
theorem dM_reckon_72 : decode (mB mM_reckon) 72 = .ok (.ireturn, 1) := op172 (by decide +kernel)

theorem vM_reckon_0 {M : Mm} {b : Nat × Nat} {K : Int32 → Mm → Prop} {v0 : Nat} {v1 : Int32} {v2 : Int32} {v3 : Int32} {v4 : Int32} {v5 : Int32}  
    (h : CI mM_isCase [.int v1] M (fun rv N => X mM_reckon 4 [(0, .ref v0), (1, .int v1), (2, .int v2), (3, .int v3), (4, .int v4), (5, .int v5)] [.int rv] N b (QI K))) : X mM_reckon 0 [(0, .ref v0), (1, .int v1), (2, .int v2), (3, .int v3), (4, .int v4), (5, .int v5)] [] M b (QI K) := by
  refine x_wf (fun hw => ?_)
  refine x_iload_n (pc := 0) dM_reckon_0 rfl (q := 1) rfl ?_
  exact x_invS (pc := 1) dM_reckon_1 (S := []) (As := [.int v1]) mlM_275 hM_isCase rfl ⟨by decide, by decide⟩ ⟨Nat.zero_le _, Nat.zero_le _⟩ rfl (Nat.le_of_ble_eq_true rfl) (aftI (b' := b) ⟨Nat.le_refl _, Nat.le_refl _⟩ (fun rv N h => h) h)

theorem vM_reckon_4 {M : Mm} {b : Nat × Nat} {K : Int32 → Mm → Prop} {v0 : Nat} {v1 : Int32} {v2 : Int32} {v3 : Int32} {v4 : Int32} {v5 : Int32} {w0 : Int32} (kv0 : v0 % 64 = 11) 
    (h : (¬ w0 = 0 → (CV mM_findAll [.ref v0] M (fun N => X mM_reckon 13 [(0, .ref v0), (1, .int v1), (2, .int v2), (3, .int v3), (4, .int v4), (5, .int v5)] [] N b (QI K)))) ∧ (w0 = 0 → (K (-1) M))) : X mM_reckon 4 [(0, .ref v0), (1, .int v1), (2, .int v2), (3, .int v3), (4, .int v4), (5, .int v5)] [.int w0] M b (QI K) := by
  refine x_wf (fun hw => ?_)
  obtain ⟨g1_0, g1_1⟩ := h
  refine x_if_ne (pc := 4) dM_reckon_4 (t := 9) rfl (fun q1 => ?_) (fun q1 => ?_)
  · refine x_aload_n (pc := 9) dM_reckon_9 rfl (q := 0) rfl ?_
    have h := g1_0 q1
    exact x_invV (pc := 10) dM_reckon_10 (c := 11) (S := []) (As := []) mlM_319 hM_findAll rfl (by decide) rfl kv0 ⟨by decide, by decide⟩ ⟨Nat.zero_le _, Nat.zero_le _⟩ rfl (Nat.le_of_ble_eq_true rfl) (aftV (b' := b) ⟨Nat.le_refl _, Nat.le_refl _⟩ (fun N h => h) h)
  · refine x_iconst (pc := 7) dM_reckon_7 (v := (-1)) rfl ?_
    have h := g1_1 q1
    exact x_retQI (pc := 8) dM_reckon_8 rfl rfl h

theorem vM_reckon_13 {M : Mm} {b : Nat × Nat} {K : Int32 → Mm → Prop} {v0 : Nat} {v1 : Int32} {v2 : Int32} {v3 : Int32} {v4 : Int32} {v5 : Int32} {r1 : Nat} {r2 : Nat} {r3 : Nat} {r4 : Nat} (kv0 : v0 % 64 = 11) (e1 : gr M v0 31 = some r1) (e2 : gr M v0 32 = some r2) (e3 : gr M v0 33 = some r3) (e4 : gr M v0 30 = some r4)
    (h : vp_in v1 64 ∧ ((v2 = (gi M r1 (v1).toNatClampNeg) → vp_in v1 64) ∧ ((v2 = (gi M r1 (v1).toNatClampNeg) ∧ v3 = (gi M r2 (v1).toNatClampNeg) → vp_in v1 64) ∧ ((v2 = (gi M r1 (v1).toNatClampNeg) ∧ v3 = (gi M r2 (v1).toNatClampNeg) ∧ v4 = (gi M r3 (v1).toNatClampNeg) → vp_in v1 64) ∧ (K (if v2 = (gi M r1 (v1).toNatClampNeg) then (if v3 = (gi M r2 (v1).toNatClampNeg) then (if v4 = (gi M r3 (v1).toNatClampNeg) then (if v5 = (gi M r4 (v1).toNatClampNeg) then 0 else 4 : Int32) else 3 : Int32) else 2 : Int32) else 1 : Int32) M))))) : X mM_reckon 13 [(0, .ref v0), (1, .int v1), (2, .int v2), (3, .int v3), (4, .int v4), (5, .int v5)] [] M b (QI K) := by
  refine x_wf (fun hw => ?_)
  refine x_iload_n (pc := 13) dM_reckon_13 rfl (q := 2) rfl ?_
  refine x_aload_n (pc := 14) dM_reckon_14 rfl (q := 0) rfl ?_
  refine x_getR (pc := 15) dM_reckon_15 kv0 flM_70 rfl e1 ?_
  refine x_iload_n (pc := 18) dM_reckon_18 rfl (q := 1) rfl ?_
  obtain ⟨s501, h⟩ := h
  refine x_aldIj (pc := 19) (j := (v1).toNatClampNeg) (Or.inl ⟨rfl, rfl⟩) dM_reckon_19 (wfk hw e1 kv0) ak_14 rfl s501 ?_
  obtain ⟨s2, h⟩ := h
  obtain ⟨s3, h⟩ := h
  obtain ⟨s4, h⟩ := h
  suffices hJ : X mM_reckon 72 [(0, .ref v0), (1, .int v1), (2, .int v2), (3, .int v3), (4, .int v4), (5, .int v5)] [.int (if v2 = (gi M r1 (v1).toNatClampNeg) then (if v3 = (gi M r2 (v1).toNatClampNeg) then (if v4 = (gi M r3 (v1).toNatClampNeg) then (if v5 = (gi M r4 (v1).toNatClampNeg) then 0 else 4 : Int32) else 3 : Int32) else 2 : Int32) else 1 : Int32)] M b (QI K) by
    refine x_icmp_eq (pc := 20) dM_reckon_20 (t := 27) rfl (fun q1 => ?_) (fun q1 => ?_)
    · refine x_iload_n (pc := 27) dM_reckon_27 rfl (q := 3) rfl ?_
      refine x_aload_n (pc := 28) dM_reckon_28 rfl (q := 0) rfl ?_
      refine x_getR (pc := 29) dM_reckon_29 kv0 flM_73 rfl e2 ?_
      refine x_iload_n (pc := 32) dM_reckon_32 rfl (q := 1) rfl ?_
      refine x_aldIj (pc := 33) (j := (v1).toNatClampNeg) (Or.inl ⟨rfl, rfl⟩) dM_reckon_33 (wfk hw e2 kv0) ak_14 rfl (s2 q1) ?_
      refine x_icmp_eq (pc := 34) dM_reckon_34 (t := 41) rfl (fun q2 => ?_) (fun q2 => ?_)
      · refine x_iload (pc := 41) dM_reckon_41 (q := 4) rfl ?_
        refine x_aload_n (pc := 43) dM_reckon_43 rfl (q := 0) rfl ?_
        refine x_getR (pc := 44) dM_reckon_44 kv0 flM_76 rfl e3 ?_
        refine x_iload_n (pc := 47) dM_reckon_47 rfl (q := 1) rfl ?_
        refine x_aldIj (pc := 48) (j := (v1).toNatClampNeg) (Or.inl ⟨rfl, rfl⟩) dM_reckon_48 (wfk hw e3 kv0) ak_14 rfl (s3 ⟨q1, q2⟩) ?_
        refine x_icmp_eq (pc := 49) dM_reckon_49 (t := 56) rfl (fun q3 => ?_) (fun q3 => ?_)
        · refine x_iload (pc := 56) dM_reckon_56 (q := 5) rfl ?_
          refine x_aload_n (pc := 58) dM_reckon_58 rfl (q := 0) rfl ?_
          refine x_getR (pc := 59) dM_reckon_59 kv0 flM_67 rfl e4 ?_
          refine x_iload_n (pc := 62) dM_reckon_62 rfl (q := 1) rfl ?_
          refine x_aldIj (pc := 63) (j := (v1).toNatClampNeg) (Or.inl ⟨rfl, rfl⟩) dM_reckon_63 (wfk hw e4 kv0) ak_14 rfl (s4 ⟨q1, q2, q3⟩) ?_
          refine x_icmp_eq (pc := 64) dM_reckon_64 (t := 71) rfl (fun q4 => ?_) (fun q4 => ?_)
          · refine x_iconst (pc := 71) dM_reckon_71 (v := 0) rfl ?_
            first | (rw [if_pos q1, if_pos q2, if_pos q3, if_pos q4] at hJ; exact hJ) | (simp only [if_pos q1, if_pos q2, if_pos q3, if_pos q4] at hJ ⊢; exact hJ)
          · refine x_iconst (pc := 67) dM_reckon_67 (v := 4) rfl ?_
            refine x_goto (pc := 68) dM_reckon_68 (t := 72) rfl ?_
            first | (rw [if_pos q1, if_pos q2, if_pos q3, if_neg q4] at hJ; exact hJ) | (simp only [if_pos q1, if_pos q2, if_pos q3, if_neg q4] at hJ ⊢; exact hJ)
        · refine x_iconst (pc := 52) dM_reckon_52 (v := 3) rfl ?_
          refine x_goto (pc := 53) dM_reckon_53 (t := 72) rfl ?_
          first | (rw [if_pos q1, if_pos q2, if_neg q3] at hJ; exact hJ) | (simp only [if_pos q1, if_pos q2, if_neg q3] at hJ ⊢; exact hJ)
      · refine x_iconst (pc := 37) dM_reckon_37 (v := 2) rfl ?_
        refine x_goto (pc := 38) dM_reckon_38 (t := 72) rfl ?_
        first | (rw [if_pos q1, if_neg q2] at hJ; exact hJ) | (simp only [if_pos q1, if_neg q2] at hJ ⊢; exact hJ)
    · refine x_iconst (pc := 23) dM_reckon_23 (v := 1) rfl ?_
      refine x_goto (pc := 24) dM_reckon_24 (t := 72) rfl ?_
      first | (rw [if_neg q1] at hJ; exact hJ) | (simp only [if_neg q1] at hJ ⊢; exact hJ)
  exact x_retQI (pc := 72) dM_reckon_72 rfl rfl h

theorem dM_widest_0 : decode (mB mM_widest) 0 = .ok (.iload_n 1, 1) := op27 (by decide +kernel)
theorem dM_widest_1 : decode (mB mM_widest) 1 = .ok (.i2l, 1) := op133 (by decide +kernel)
theorem dM_widest_2 : decode (mB mM_widest) 2 = .ok (.lconst 0, 1) := op9 (by decide +kernel)
theorem dM_widest_3 : decode (mB mM_widest) 3 = .ok (.lconst 1, 1) := op10 (by decide +kernel)
theorem dM_widest_4 : decode (mB mM_widest) 4 = .ok (.invokestatic 126, 3) := op184 0 126 (by decide +kernel)
theorem dM_widest_7 : decode (mB mM_widest) 7 = .ok (.ifCond .ne 5, 3) := op154 0 5 (by decide +kernel)
theorem dM_widest_10 : decode (mB mM_widest) 10 = .ok (.iconst (-1), 1) := op2 (by decide +kernel)
theorem dM_widest_11 : decode (mB mM_widest) 11 = .ok (.ireturn, 1) := op172 (by decide +kernel)
theorem dM_widest_12 : decode (mB mM_widest) 12 = .ok (.aload_n 0, 1) := op42 (by decide +kernel)
theorem dM_widest_13 : decode (mB mM_widest) 13 = .ok (.invokevirtual 319, 3) := op182 1 63 (by decide +kernel)
theorem dM_widest_16 : decode (mB mM_widest) 16 = .ok (.bipush (-4), 2) := op16 252 (by decide +kernel)
theorem dM_widest_18 : decode (mB mM_widest) 18 = .ok (.istore_n 2, 1) := op61 (by decide +kernel)
theorem dM_widest_19 : decode (mB mM_widest) 19 = .ok (.iconst 0, 1) := op3 (by decide +kernel)
theorem dM_widest_20 : decode (mB mM_widest) 20 = .ok (.istore_n 3, 1) := op62 (by decide +kernel)
theorem dM_widest_21 : decode (mB mM_widest) 21 = .ok (.iconst 0, 1) := op3 (by decide +kernel)
theorem dM_widest_22 : decode (mB mM_widest) 22 = .ok (.istore 4, 2) := op54 4 (by decide +kernel)
theorem dM_widest_24 : decode (mB mM_widest) 24 = .ok (.iload 4, 2) := op21 4 (by decide +kernel)
theorem dM_widest_26 : decode (mB mM_widest) 26 = .ok (.bipush 64, 2) := op16 64 (by decide +kernel)
theorem dM_widest_28 : decode (mB mM_widest) 28 = .ok (.if_icmp .ge 94, 3) := op162 0 94 (by decide +kernel)
theorem dM_widest_31 : decode (mB mM_widest) 31 = .ok (.aload_n 0, 1) := op42 (by decide +kernel)
theorem dM_widest_32 : decode (mB mM_widest) 32 = .ok (.getfield 73, 3) := op180 0 73 (by decide +kernel)
theorem dM_widest_35 : decode (mB mM_widest) 35 = .ok (.iload 4, 2) := op21 4 (by decide +kernel)
theorem dM_widest_37 : decode (mB mM_widest) 37 = .ok (.iaload, 1) := op46 (by decide +kernel)
theorem dM_widest_38 : decode (mB mM_widest) 38 = .ok (.aload_n 0, 1) := op42 (by decide +kernel)
theorem dM_widest_39 : decode (mB mM_widest) 39 = .ok (.getfield 76, 3) := op180 0 76 (by decide +kernel)
theorem dM_widest_42 : decode (mB mM_widest) 42 = .ok (.iload 4, 2) := op21 4 (by decide +kernel)
theorem dM_widest_44 : decode (mB mM_widest) 44 = .ok (.iaload, 1) := op46 (by decide +kernel)
theorem dM_widest_45 : decode (mB mM_widest) 45 = .ok (.if_icmp .ge 13, 3) := op162 0 13 (by decide +kernel)
theorem dM_widest_48 : decode (mB mM_widest) 48 = .ok (.aload_n 0, 1) := op42 (by decide +kernel)
theorem dM_widest_49 : decode (mB mM_widest) 49 = .ok (.getfield 73, 3) := op180 0 73 (by decide +kernel)
theorem dM_widest_52 : decode (mB mM_widest) 52 = .ok (.iload 4, 2) := op21 4 (by decide +kernel)
theorem dM_widest_54 : decode (mB mM_widest) 54 = .ok (.iaload, 1) := op46 (by decide +kernel)
theorem dM_widest_55 : decode (mB mM_widest) 55 = .ok (.goto 10, 3) := op167 0 10 (by decide +kernel)
theorem dM_widest_58 : decode (mB mM_widest) 58 = .ok (.aload_n 0, 1) := op42 (by decide +kernel)
theorem dM_widest_59 : decode (mB mM_widest) 59 = .ok (.getfield 76, 3) := op180 0 76 (by decide +kernel)
theorem dM_widest_62 : decode (mB mM_widest) 62 = .ok (.iload 4, 2) := op21 4 (by decide +kernel)
theorem dM_widest_64 : decode (mB mM_widest) 64 = .ok (.iaload, 1) := op46 (by decide +kernel)
theorem dM_widest_65 : decode (mB mM_widest) 65 = .ok (.istore 5, 2) := op54 5 (by decide +kernel)
theorem dM_widest_67 : decode (mB mM_widest) 67 = .ok (.bipush 100, 2) := op16 100 (by decide +kernel)
theorem dM_widest_69 : decode (mB mM_widest) 69 = .ok (.iload 5, 2) := op21 5 (by decide +kernel)
theorem dM_widest_71 : decode (mB mM_widest) 71 = .ok (.imul, 1) := op104 (by decide +kernel)
theorem dM_widest_72 : decode (mB mM_widest) 72 = .ok (.aload_n 0, 1) := op42 (by decide +kernel)
theorem dM_widest_73 : decode (mB mM_widest) 73 = .ok (.getfield 73, 3) := op180 0 73 (by decide +kernel)
theorem dM_widest_76 : decode (mB mM_widest) 76 = .ok (.iload 4, 2) := op21 4 (by decide +kernel)
theorem dM_widest_78 : decode (mB mM_widest) 78 = .ok (.iaload, 1) := op46 (by decide +kernel)
theorem dM_widest_79 : decode (mB mM_widest) 79 = .ok (.iadd, 1) := op96 (by decide +kernel)
theorem dM_widest_80 : decode (mB mM_widest) 80 = .ok (.aload_n 0, 1) := op42 (by decide +kernel)
theorem dM_widest_81 : decode (mB mM_widest) 81 = .ok (.getfield 76, 3) := op180 0 76 (by decide +kernel)
theorem dM_widest_84 : decode (mB mM_widest) 84 = .ok (.iload 4, 2) := op21 4 (by decide +kernel)
theorem dM_widest_86 : decode (mB mM_widest) 86 = .ok (.iaload, 1) := op46 (by decide +kernel)
theorem dM_widest_87 : decode (mB mM_widest) 87 = .ok (.iadd, 1) := op96 (by decide +kernel)
theorem dM_widest_88 : decode (mB mM_widest) 88 = .ok (.istore 6, 2) := op54 6 (by decide +kernel)
theorem dM_widest_90 : decode (mB mM_widest) 90 = .ok (.iload 6, 2) := op21 6 (by decide +kernel)
theorem dM_widest_92 : decode (mB mM_widest) 92 = .ok (.iload_n 3, 1) := op29 (by decide +kernel)
theorem dM_widest_93 : decode (mB mM_widest) 93 = .ok (.if_icmp .le 8, 3) := op164 0 8 (by decide +kernel)
theorem dM_widest_96 : decode (mB mM_widest) 96 = .ok (.iload 4, 2) := op21 4 (by decide +kernel)
theorem dM_widest_98 : decode (mB mM_widest) 98 = .ok (.goto 4, 3) := op167 0 4 (by decide +kernel)
theorem dM_widest_101 : decode (mB mM_widest) 101 = .ok (.iload_n 2, 1) := op28 (by decide +kernel)
theorem dM_widest_102 : decode (mB mM_widest) 102 = .ok (.istore_n 2, 1) := op61 (by decide +kernel)
theorem dM_widest_103 : decode (mB mM_widest) 103 = .ok (.iload 6, 2) := op21 6 (by decide +kernel)
theorem dM_widest_105 : decode (mB mM_widest) 105 = .ok (.iload_n 3, 1) := op29 (by decide +kernel)
theorem dM_widest_106 : decode (mB mM_widest) 106 = .ok (.if_icmp .le 8, 3) := op164 0 8 (by decide +kernel)
theorem dM_widest_109 : decode (mB mM_widest) 109 = .ok (.iload 6, 2) := op21 6 (by decide +kernel)
theorem dM_widest_111 : decode (mB mM_widest) 111 = .ok (.goto 4, 3) := op167 0 4 (by decide +kernel)
theorem dM_widest_114 : decode (mB mM_widest) 114 = .ok (.iload_n 3, 1) := op29 (by decide +kernel)
theorem dM_widest_115 : decode (mB mM_widest) 115 = .ok (.istore_n 3, 1) := op62 (by decide +kernel)
theorem dM_widest_116 : decode (mB mM_widest) 116 = .ok (.iinc 4 1, 3) := op132 4 1 (by decide +kernel)
theorem dM_widest_119 : decode (mB mM_widest) 119 = .ok (.goto (-95), 3) := op167 255 161 (by decide +kernel)
theorem dM_widest_122 : decode (mB mM_widest) 122 = .ok (.iload_n 2, 1) := op28 (by decide +kernel)
theorem dM_widest_123 : decode (mB mM_widest) 123 = .ok (.bipush (-4), 2) := op16 252 (by decide +kernel)
theorem dM_widest_125 : decode (mB mM_widest) 125 = .ok (.if_icmp .ne 8, 3) := op160 0 8 (by decide +kernel)
theorem dM_widest_128 : decode (mB mM_widest) 128 = .ok (.bipush (-4), 2) := op16 252 (by decide +kernel)
theorem dM_widest_130 : decode (mB mM_widest) 130 = .ok (.goto 15, 3) := op167 0 15 (by decide +kernel)
theorem dM_widest_133 : decode (mB mM_widest) 133 = .ok (.iload_n 1, 1) := op27 (by decide +kernel)
theorem dM_widest_134 : decode (mB mM_widest) 134 = .ok (.ifCond .ne 7, 3) := op154 0 7 (by decide +kernel)
theorem dM_widest_137 : decode (mB mM_widest) 137 = .ok (.iload_n 2, 1) := op28 (by decide +kernel)
theorem dM_widest_138 : decode (mB mM_widest) 138 = .ok (.goto 7, 3) := op167 0 7 (by decide +kernel)
theorem dM_widest_141 : decode (mB mM_widest) 141 = .ok (.iload_n 3, 1) := op29 (by decide +kernel)
theorem dM_widest_142 : decode (mB mM_widest) 142 = .ok (.bipush 100, 2) := op16 100 (by decide +kernel)
theorem dM_widest_144 : decode (mB mM_widest) 144 = .ok (.idiv, 1) := op108 (by decide +kernel)
theorem dM_widest_145 : decode (mB mM_widest) 145 = .ok (.ireturn, 1) := op172 (by decide +kernel)

theorem vM_widest_0 {M : Mm} {b : Nat × Nat} {K : Int32 → Mm → Prop} {v0 : Nat} {v1 : Int32}  
    (h : CI mM_in [.long ((v1).toInt64), .long 0, .long 1] M (fun rv N => X mM_widest 7 [(0, .ref v0), (1, .int v1)] [.int rv] N b (QI K))) : X mM_widest 0 [(0, .ref v0), (1, .int v1)] [] M b (QI K) := by
  refine x_wf (fun hw => ?_)
  refine x_iload_n (pc := 0) dM_widest_0 rfl (q := 1) rfl ?_
  refine x_i2l (pc := 1) dM_widest_1 ?_
  refine x_lconst (pc := 2) dM_widest_2 (v := 0) rfl ?_
  refine x_lconst (pc := 3) dM_widest_3 (v := 1) rfl ?_
  exact x_invS (pc := 4) dM_widest_4 (S := []) (As := [.long ((v1).toInt64), .long 0, .long 1]) mlM_126 hM_in rfl ⟨by decide, by decide⟩ ⟨Nat.zero_le _, Nat.zero_le _⟩ rfl (Nat.le_of_ble_eq_true rfl) (aftI (b' := b) ⟨Nat.le_refl _, Nat.le_refl _⟩ (fun rv N h => h) h)

theorem vM_widest_7 {M : Mm} {b : Nat × Nat} {K : Int32 → Mm → Prop} {v0 : Nat} {v1 : Int32} {w0 : Int32} (kv0 : v0 % 64 = 11) 
    (h : (¬ w0 = 0 → (CV mM_findAll [.ref v0] M (fun N => X mM_widest 16 [(0, .ref v0), (1, .int v1)] [] N b (QI K)))) ∧ (w0 = 0 → (K (-1) M))) : X mM_widest 7 [(0, .ref v0), (1, .int v1)] [.int w0] M b (QI K) := by
  refine x_wf (fun hw => ?_)
  obtain ⟨g1_0, g1_1⟩ := h
  refine x_if_ne (pc := 7) dM_widest_7 (t := 12) rfl (fun q1 => ?_) (fun q1 => ?_)
  · refine x_aload_n (pc := 12) dM_widest_12 rfl (q := 0) rfl ?_
    have h := g1_0 q1
    exact x_invV (pc := 13) dM_widest_13 (c := 11) (S := []) (As := []) mlM_319 hM_findAll rfl (by decide) rfl kv0 ⟨by decide, by decide⟩ ⟨Nat.zero_le _, Nat.zero_le _⟩ rfl (Nat.le_of_ble_eq_true rfl) (aftV (b' := b) ⟨Nat.le_refl _, Nat.le_refl _⟩ (fun N h => h) h)
  · refine x_iconst (pc := 10) dM_widest_10 (v := (-1)) rfl ?_
    have h := g1_1 q1
    exact x_retQI (pc := 11) dM_widest_11 rfl rfl h

theorem vM_widest_16 {M : Mm} {b : Nat × Nat} {K : Int32 → Mm → Prop} {v0 : Nat} {v1 : Int32}  
    (h : X mM_widest 24 [(0, .ref v0), (1, .int v1), (2, .int (-4)), (3, .int 0), (4, .int 0)] [] M b (QI K)) : X mM_widest 16 [(0, .ref v0), (1, .int v1)] [] M b (QI K) := by
  refine x_wf (fun hw => ?_)
  refine x_bipush (pc := 16) dM_widest_16 (v := (-4)) rfl ?_
  refine x_istore_n (pc := 18) dM_widest_18 rfl (by decide) (L' := [(2, .int (-4)), (0, .ref v0), (1, .int v1)]) rfl ?_
  refine x_iconst (pc := 19) dM_widest_19 (v := 0) rfl ?_
  refine x_istore_n (pc := 20) dM_widest_20 rfl (by decide) (L' := [(3, .int 0), (2, .int (-4)), (0, .ref v0), (1, .int v1)]) rfl ?_
  refine x_iconst (pc := 21) dM_widest_21 (v := 0) rfl ?_
  refine x_istore (pc := 22) dM_widest_22 (by decide) (L' := [(4, .int 0), (3, .int 0), (2, .int (-4)), (0, .ref v0), (1, .int v1)]) rfl ?_
  exact x_loc [3, 4, 2, 1, 0] rfl h

theorem vM_widest_24 {M : Mm} {b : Nat × Nat} {K : Int32 → Mm → Prop} {v0 : Nat} {v1 : Int32} {v2 : Int32} {v3 : Int32} {v4 : Int32} {r1 : Nat} {r2 : Nat} (kv0 : v0 % 64 = 11) (e1 : gr M v0 32 = some r1) (e2 : gr M v0 33 = some r2)
    (h : (¬ 64 ≤ v4 → vp_in v4 64) ∧ (¬ 64 ≤ v4 → vp_in v4 64) ∧ (¬ 64 ≤ v4 ∧ (gi M r2 (v4).toNatClampNeg) ≤ (gi M r1 (v4).toNatClampNeg) → vp_in v4 64) ∧ (¬ 64 ≤ v4 ∧ ¬ (gi M r2 (v4).toNatClampNeg) ≤ (gi M r1 (v4).toNatClampNeg) → vp_in v4 64) ∧ ((64 ≤ v4 ∧ ¬ v2 = (-4) ∧ ¬ v1 = 0) → (K (v3 / 100) M)) ∧ ((64 ≤ v4 ∧ ¬ v2 = (-4) ∧ v1 = 0) → (K v2 M)) ∧ ((64 ≤ v4 ∧ v2 = (-4)) → (K (-4) M)) ∧ ((¬ 64 ≤ v4 ∧ (gi M r2 (v4).toNatClampNeg) ≤ (gi M r1 (v4).toNatClampNeg)) → (X mM_widest 65 [(0, .ref v0), (1, .int v1), (2, .int v2), (3, .int v3), (4, .int v4)] [.int (gi M r2 (v4).toNatClampNeg)] M b (QI K))) ∧ ((¬ 64 ≤ v4 ∧ ¬ (gi M r2 (v4).toNatClampNeg) ≤ (gi M r1 (v4).toNatClampNeg)) → (X mM_widest 65 [(0, .ref v0), (1, .int v1), (2, .int v2), (3, .int v3), (4, .int v4)] [.int (gi M r1 (v4).toNatClampNeg)] M b (QI K)))) : X mM_widest 24 [(0, .ref v0), (1, .int v1), (2, .int v2), (3, .int v3), (4, .int v4)] [] M b (QI K) := by
  refine x_wf (fun hw => ?_)
  refine x_iload (pc := 24) dM_widest_24 (q := 4) rfl ?_
  refine x_bipush (pc := 26) dM_widest_26 (v := 64) rfl ?_
  obtain ⟨s1, s2, s3, s4, g1_0, g1_1, g1_2, g1_3, g1_4⟩ := h
  refine x_icmp_ge (pc := 28) dM_widest_28 (t := 122) rfl (fun q1 => ?_) (fun q1 => ?_)
  · refine x_iload_n (pc := 122) dM_widest_122 rfl (q := 2) rfl ?_
    refine x_bipush (pc := 123) dM_widest_123 (v := (-4)) rfl ?_
    refine x_icmp_ne (pc := 125) dM_widest_125 (t := 133) rfl (fun q2 => ?_) (fun q2 => ?_)
    · refine x_iload_n (pc := 133) dM_widest_133 rfl (q := 1) rfl ?_
      refine x_if_ne (pc := 134) dM_widest_134 (t := 141) rfl (fun q3 => ?_) (fun q3 => ?_)
      · refine x_iload_n (pc := 141) dM_widest_141 rfl (q := 3) rfl ?_
        refine x_bipush (pc := 142) dM_widest_142 (v := 100) rfl ?_
        refine x_idiv (pc := 144) dM_widest_144 (by decide) ?_
        have h := g1_0 ⟨q1, q2, q3⟩
        exact x_retQI (pc := 145) dM_widest_145 rfl rfl h
      · refine x_iload_n (pc := 137) dM_widest_137 rfl (q := 2) rfl ?_
        refine x_goto (pc := 138) dM_widest_138 (t := 145) rfl ?_
        have h := g1_1 ⟨q1, q2, q3⟩
        exact x_retQI (pc := 145) dM_widest_145 rfl rfl h
    · refine x_bipush (pc := 128) dM_widest_128 (v := (-4)) rfl ?_
      refine x_goto (pc := 130) dM_widest_130 (t := 145) rfl ?_
      have h := g1_2 ⟨q1, q2⟩
      exact x_retQI (pc := 145) dM_widest_145 rfl rfl h
  · refine x_aload_n (pc := 31) dM_widest_31 rfl (q := 0) rfl ?_
    refine x_getR (pc := 32) dM_widest_32 kv0 flM_73 rfl e1 ?_
    refine x_iload (pc := 35) dM_widest_35 (q := 4) rfl ?_
    refine x_aldIj (pc := 37) (j := (v4).toNatClampNeg) (Or.inl ⟨rfl, rfl⟩) dM_widest_37 (wfk hw e1 kv0) ak_14 rfl (s1 q1) ?_
    refine x_aload_n (pc := 38) dM_widest_38 rfl (q := 0) rfl ?_
    refine x_getR (pc := 39) dM_widest_39 kv0 flM_76 rfl e2 ?_
    refine x_iload (pc := 42) dM_widest_42 (q := 4) rfl ?_
    refine x_aldIj (pc := 44) (j := (v4).toNatClampNeg) (Or.inl ⟨rfl, rfl⟩) dM_widest_44 (wfk hw e2 kv0) ak_14 rfl (s2 q1) ?_
    refine x_icmp_ge (pc := 45) dM_widest_45 (t := 58) rfl (fun q4 => ?_) (fun q4 => ?_)
    · refine x_aload_n (pc := 58) dM_widest_58 rfl (q := 0) rfl ?_
      refine x_getR (pc := 59) dM_widest_59 kv0 flM_76 rfl e2 ?_
      refine x_iload (pc := 62) dM_widest_62 (q := 4) rfl ?_
      refine x_aldIj (pc := 64) (j := (v4).toNatClampNeg) (Or.inl ⟨rfl, rfl⟩) dM_widest_64 (wfk hw e2 kv0) ak_14 rfl (s3 ⟨q1, q4⟩) ?_
      have h := g1_3 ⟨q1, q4⟩
      exact h
    · refine x_aload_n (pc := 48) dM_widest_48 rfl (q := 0) rfl ?_
      refine x_getR (pc := 49) dM_widest_49 kv0 flM_73 rfl e1 ?_
      refine x_iload (pc := 52) dM_widest_52 (q := 4) rfl ?_
      refine x_aldIj (pc := 54) (j := (v4).toNatClampNeg) (Or.inl ⟨rfl, rfl⟩) dM_widest_54 (wfk hw e1 kv0) ak_14 rfl (s4 ⟨q1, q4⟩) ?_
      refine x_goto (pc := 55) dM_widest_55 (t := 65) rfl ?_
      have h := g1_4 ⟨q1, q4⟩
      exact h

theorem vM_widest_65 {M : Mm} {b : Nat × Nat} {K : Int32 → Mm → Prop} {v0 : Nat} {v1 : Int32} {v2 : Int32} {v3 : Int32} {v4 : Int32} {w0 : Int32} {r1 : Nat} {r2 : Nat} (kv0 : v0 % 64 = 11) (e1 : gr M v0 32 = some r1) (e2 : gr M v0 33 = some r2)
    (h : vp_in v4 64 ∧ (vp_in v4 64 ∧ (X mM_widest 24 [(0, .ref v0), (1, .int v1), (2, .int (if (((100 * w0) + (gi M r1 (v4).toNatClampNeg)) + (gi M r2 (v4).toNatClampNeg)) ≤ v3 then v2 else v4 : Int32)), (3, .int (if (((100 * w0) + (gi M r1 (v4).toNatClampNeg)) + (gi M r2 (v4).toNatClampNeg)) ≤ v3 then v3 else (((100 * w0) + (gi M r1 (v4).toNatClampNeg)) + (gi M r2 (v4).toNatClampNeg)) : Int32)), (4, .int (v4 + 1))] [] M b (QI K)))) : X mM_widest 65 [(0, .ref v0), (1, .int v1), (2, .int v2), (3, .int v3), (4, .int v4)] [.int w0] M b (QI K) := by
  refine x_wf (fun hw => ?_)
  refine x_istore (pc := 65) dM_widest_65 (by decide) (L' := [(5, .int w0), (0, .ref v0), (1, .int v1), (2, .int v2), (3, .int v3), (4, .int v4)]) rfl ?_
  refine x_bipush (pc := 67) dM_widest_67 (v := 100) rfl ?_
  refine x_iload (pc := 69) dM_widest_69 (q := 0) rfl ?_
  refine x_imul (pc := 71) dM_widest_71 ?_
  refine x_aload_n (pc := 72) dM_widest_72 rfl (q := 1) rfl ?_
  refine x_getR (pc := 73) dM_widest_73 kv0 flM_73 rfl e1 ?_
  refine x_iload (pc := 76) dM_widest_76 (q := 5) rfl ?_
  obtain ⟨s501, h⟩ := h
  refine x_aldIj (pc := 78) (j := (v4).toNatClampNeg) (Or.inl ⟨rfl, rfl⟩) dM_widest_78 (wfk hw e1 kv0) ak_14 rfl s501 ?_
  refine x_iadd (pc := 79) dM_widest_79 ?_
  refine x_aload_n (pc := 80) dM_widest_80 rfl (q := 1) rfl ?_
  refine x_getR (pc := 81) dM_widest_81 kv0 flM_76 rfl e2 ?_
  refine x_iload (pc := 84) dM_widest_84 (q := 5) rfl ?_
  obtain ⟨s502, h⟩ := h
  refine x_aldIj (pc := 86) (j := (v4).toNatClampNeg) (Or.inl ⟨rfl, rfl⟩) dM_widest_86 (wfk hw e2 kv0) ak_14 rfl s502 ?_
  refine x_iadd (pc := 87) dM_widest_87 ?_
  refine x_istore (pc := 88) dM_widest_88 (by decide) (L' := [(6, .int (((100 * w0) + (gi M r1 (v4).toNatClampNeg)) + (gi M r2 (v4).toNatClampNeg))), (5, .int w0), (0, .ref v0), (1, .int v1), (2, .int v2), (3, .int v3), (4, .int v4)]) rfl ?_
  refine x_iload (pc := 90) dM_widest_90 (q := 0) rfl ?_
  refine x_iload_n (pc := 92) dM_widest_92 rfl (q := 5) rfl ?_
  suffices hJ : X mM_widest 102 [(6, .int (((100 * w0) + (gi M r1 (v4).toNatClampNeg)) + (gi M r2 (v4).toNatClampNeg))), (5, .int w0), (0, .ref v0), (1, .int v1), (2, .int v2), (3, .int v3), (4, .int v4)] [.int (if (((100 * w0) + (gi M r1 (v4).toNatClampNeg)) + (gi M r2 (v4).toNatClampNeg)) ≤ v3 then v2 else v4 : Int32)] M b (QI K) by
    refine x_icmp_le (pc := 93) dM_widest_93 (t := 101) rfl (fun q1 => ?_) (fun q1 => ?_)
    · refine x_iload_n (pc := 101) dM_widest_101 rfl (q := 4) rfl ?_
      first | (rw [if_pos q1] at hJ; exact hJ) | (simp only [if_pos q1] at hJ ⊢; exact hJ)
    · refine x_iload (pc := 96) dM_widest_96 (q := 6) rfl ?_
      refine x_goto (pc := 98) dM_widest_98 (t := 102) rfl ?_
      first | (rw [if_neg q1] at hJ; exact hJ) | (simp only [if_neg q1] at hJ ⊢; exact hJ)
  refine x_istore_n (pc := 102) dM_widest_102 rfl (by decide) (L' := [(2, .int (if (((100 * w0) + (gi M r1 (v4).toNatClampNeg)) + (gi M r2 (v4).toNatClampNeg)) ≤ v3 then v2 else v4 : Int32)), (6, .int (((100 * w0) + (gi M r1 (v4).toNatClampNeg)) + (gi M r2 (v4).toNatClampNeg))), (5, .int w0), (0, .ref v0), (1, .int v1), (3, .int v3), (4, .int v4)]) rfl ?_
  refine x_iload (pc := 103) dM_widest_103 (q := 1) rfl ?_
  refine x_iload_n (pc := 105) dM_widest_105 rfl (q := 5) rfl ?_
  suffices hJ : X mM_widest 115 [(2, .int (if (((100 * w0) + (gi M r1 (v4).toNatClampNeg)) + (gi M r2 (v4).toNatClampNeg)) ≤ v3 then v2 else v4 : Int32)), (6, .int (((100 * w0) + (gi M r1 (v4).toNatClampNeg)) + (gi M r2 (v4).toNatClampNeg))), (5, .int w0), (0, .ref v0), (1, .int v1), (3, .int v3), (4, .int v4)] [.int (if (((100 * w0) + (gi M r1 (v4).toNatClampNeg)) + (gi M r2 (v4).toNatClampNeg)) ≤ v3 then v3 else (((100 * w0) + (gi M r1 (v4).toNatClampNeg)) + (gi M r2 (v4).toNatClampNeg)) : Int32)] M b (QI K) by
    refine x_icmp_le (pc := 106) dM_widest_106 (t := 114) rfl (fun q2 => ?_) (fun q2 => ?_)
    · refine x_iload_n (pc := 114) dM_widest_114 rfl (q := 5) rfl ?_
      first | (rw [if_pos q2] at hJ; exact hJ) | (simp only [if_pos q2] at hJ ⊢; exact hJ)
    · refine x_iload (pc := 109) dM_widest_109 (q := 1) rfl ?_
      refine x_goto (pc := 111) dM_widest_111 (t := 115) rfl ?_
      first | (rw [if_neg q2] at hJ; exact hJ) | (simp only [if_neg q2] at hJ ⊢; exact hJ)
  refine x_istore_n (pc := 115) dM_widest_115 rfl (by decide) (L' := [(3, .int (if (((100 * w0) + (gi M r1 (v4).toNatClampNeg)) + (gi M r2 (v4).toNatClampNeg)) ≤ v3 then v3 else (((100 * w0) + (gi M r1 (v4).toNatClampNeg)) + (gi M r2 (v4).toNatClampNeg)) : Int32)), (2, .int (if (((100 * w0) + (gi M r1 (v4).toNatClampNeg)) + (gi M r2 (v4).toNatClampNeg)) ≤ v3 then v2 else v4 : Int32)), (6, .int (((100 * w0) + (gi M r1 (v4).toNatClampNeg)) + (gi M r2 (v4).toNatClampNeg))), (5, .int w0), (0, .ref v0), (1, .int v1), (4, .int v4)]) rfl ?_
  refine x_iinc (pc := 116) dM_widest_116 (q := 6) rfl (v := v4 + 1) rfl (by decide) (L' := [(4, .int (v4 + 1)), (3, .int (if (((100 * w0) + (gi M r1 (v4).toNatClampNeg)) + (gi M r2 (v4).toNatClampNeg)) ≤ v3 then v3 else (((100 * w0) + (gi M r1 (v4).toNatClampNeg)) + (gi M r2 (v4).toNatClampNeg)) : Int32)), (2, .int (if (((100 * w0) + (gi M r1 (v4).toNatClampNeg)) + (gi M r2 (v4).toNatClampNeg)) ≤ v3 then v2 else v4 : Int32)), (6, .int (((100 * w0) + (gi M r1 (v4).toNatClampNeg)) + (gi M r2 (v4).toNatClampNeg))), (5, .int w0), (0, .ref v0), (1, .int v1)]) rfl ?_
  refine x_goto (pc := 119) dM_widest_119 (t := 24) rfl ?_
  exact x_loc [5, 6, 2, 1, 0] rfl h

theorem dM_near_0 : decode (mB mM_near) 0 = .ok (.iload_n 1, 1) := op27 (by decide +kernel)
theorem dM_near_1 : decode (mB mM_near) 1 = .ok (.invokestatic 275, 3) := op184 1 19 (by decide +kernel)
theorem dM_near_4 : decode (mB mM_near) 4 = .ok (.ifCond .eq 23, 3) := op153 0 23 (by decide +kernel)
theorem dM_near_7 : decode (mB mM_near) 7 = .ok (.iload_n 2, 1) := op28 (by decide +kernel)
theorem dM_near_8 : decode (mB mM_near) 8 = .ok (.i2l, 1) := op133 (by decide +kernel)
theorem dM_near_9 : decode (mB mM_near) 9 = .ok (.lconst 0, 1) := op9 (by decide +kernel)
theorem dM_near_10 : decode (mB mM_near) 10 = .ok (.lconst 1, 1) := op10 (by decide +kernel)
theorem dM_near_11 : decode (mB mM_near) 11 = .ok (.invokestatic 126, 3) := op184 0 126 (by decide +kernel)
theorem dM_near_14 : decode (mB mM_near) 14 = .ok (.ifCond .eq 13, 3) := op153 0 13 (by decide +kernel)
theorem dM_near_17 : decode (mB mM_near) 17 = .ok (.iload_n 3, 1) := op29 (by decide +kernel)
theorem dM_near_18 : decode (mB mM_near) 18 = .ok (.i2l, 1) := op133 (by decide +kernel)
theorem dM_near_19 : decode (mB mM_near) 19 = .ok (.lconst 0, 1) := op9 (by decide +kernel)
theorem dM_near_20 : decode (mB mM_near) 20 = .ok (.lconst 1, 1) := op10 (by decide +kernel)
theorem dM_near_21 : decode (mB mM_near) 21 = .ok (.invokestatic 126, 3) := op184 0 126 (by decide +kernel)
theorem dM_near_24 : decode (mB mM_near) 24 = .ok (.ifCond .ne 5, 3) := op154 0 5 (by decide +kernel)
theorem dM_near_27 : decode (mB mM_near) 27 = .ok (.iconst (-1), 1) := op2 (by decide +kernel)
theorem dM_near_28 : decode (mB mM_near) 28 = .ok (.ireturn, 1) := op172 (by decide +kernel)
theorem dM_near_29 : decode (mB mM_near) 29 = .ok (.aload_n 0, 1) := op42 (by decide +kernel)
theorem dM_near_30 : decode (mB mM_near) 30 = .ok (.invokevirtual 319, 3) := op182 1 63 (by decide +kernel)
theorem dM_near_33 : decode (mB mM_near) 33 = .ok (.bipush (-4), 2) := op16 252 (by decide +kernel)
theorem dM_near_35 : decode (mB mM_near) 35 = .ok (.istore 4, 2) := op54 4 (by decide +kernel)
theorem dM_near_37 : decode (mB mM_near) 37 = .ok (.iconst 0, 1) := op3 (by decide +kernel)
theorem dM_near_38 : decode (mB mM_near) 38 = .ok (.istore 5, 2) := op54 5 (by decide +kernel)
theorem dM_near_40 : decode (mB mM_near) 40 = .ok (.iload 5, 2) := op21 5 (by decide +kernel)
theorem dM_near_42 : decode (mB mM_near) 42 = .ok (.bipush 64, 2) := op16 64 (by decide +kernel)
theorem dM_near_44 : decode (mB mM_near) 44 = .ok (.if_icmp .ge 65, 3) := op162 0 65 (by decide +kernel)
theorem dM_near_47 : decode (mB mM_near) 47 = .ok (.aload_n 0, 1) := op42 (by decide +kernel)
theorem dM_near_48 : decode (mB mM_near) 48 = .ok (.getfield 67, 3) := op180 0 67 (by decide +kernel)
theorem dM_near_51 : decode (mB mM_near) 51 = .ok (.iload 5, 2) := op21 5 (by decide +kernel)
theorem dM_near_53 : decode (mB mM_near) 53 = .ok (.iaload, 1) := op46 (by decide +kernel)
theorem dM_near_54 : decode (mB mM_near) 54 = .ok (.iload_n 2, 1) := op28 (by decide +kernel)
theorem dM_near_55 : decode (mB mM_near) 55 = .ok (.if_icmp .ne 31, 3) := op160 0 31 (by decide +kernel)
theorem dM_near_58 : decode (mB mM_near) 58 = .ok (.iload 4, 2) := op21 4 (by decide +kernel)
theorem dM_near_60 : decode (mB mM_near) 60 = .ok (.bipush (-4), 2) := op16 252 (by decide +kernel)
theorem dM_near_62 : decode (mB mM_near) 62 = .ok (.if_icmp .eq 20, 3) := op159 0 20 (by decide +kernel)
theorem dM_near_65 : decode (mB mM_near) 65 = .ok (.iload 5, 2) := op21 5 (by decide +kernel)
theorem dM_near_67 : decode (mB mM_near) 67 = .ok (.iload_n 1, 1) := op27 (by decide +kernel)
theorem dM_near_68 : decode (mB mM_near) 68 = .ok (.ixor, 1) := op130 (by decide +kernel)
theorem dM_near_69 : decode (mB mM_near) 69 = .ok (.invokestatic 264, 3) := op184 1 8 (by decide +kernel)
theorem dM_near_72 : decode (mB mM_near) 72 = .ok (.iload 4, 2) := op21 4 (by decide +kernel)
theorem dM_near_74 : decode (mB mM_near) 74 = .ok (.iload_n 1, 1) := op27 (by decide +kernel)
theorem dM_near_75 : decode (mB mM_near) 75 = .ok (.ixor, 1) := op130 (by decide +kernel)
theorem dM_near_76 : decode (mB mM_near) 76 = .ok (.invokestatic 264, 3) := op184 1 8 (by decide +kernel)
theorem dM_near_79 : decode (mB mM_near) 79 = .ok (.if_icmp .ge 7, 3) := op162 0 7 (by decide +kernel)
theorem dM_near_82 : decode (mB mM_near) 82 = .ok (.iconst 1, 1) := op4 (by decide +kernel)
theorem dM_near_83 : decode (mB mM_near) 83 = .ok (.goto 4, 3) := op167 0 4 (by decide +kernel)
theorem dM_near_86 : decode (mB mM_near) 86 = .ok (.iconst 0, 1) := op3 (by decide +kernel)
theorem dM_near_87 : decode (mB mM_near) 87 = .ok (.istore 6, 2) := op54 6 (by decide +kernel)
theorem dM_near_89 : decode (mB mM_near) 89 = .ok (.iload 6, 2) := op21 6 (by decide +kernel)
theorem dM_near_91 : decode (mB mM_near) 91 = .ok (.ifCond .eq 8, 3) := op153 0 8 (by decide +kernel)
theorem dM_near_94 : decode (mB mM_near) 94 = .ok (.iload 5, 2) := op21 5 (by decide +kernel)
theorem dM_near_96 : decode (mB mM_near) 96 = .ok (.goto 5, 3) := op167 0 5 (by decide +kernel)
theorem dM_near_99 : decode (mB mM_near) 99 = .ok (.iload 4, 2) := op21 4 (by decide +kernel)
theorem dM_near_101 : decode (mB mM_near) 101 = .ok (.istore 4, 2) := op54 4 (by decide +kernel)
theorem dM_near_103 : decode (mB mM_near) 103 = .ok (.iinc 5 1, 3) := op132 5 1 (by decide +kernel)
theorem dM_near_106 : decode (mB mM_near) 106 = .ok (.goto (-66), 3) := op167 255 190 (by decide +kernel)
theorem dM_near_109 : decode (mB mM_near) 109 = .ok (.iload 4, 2) := op21 4 (by decide +kernel)
theorem dM_near_111 : decode (mB mM_near) 111 = .ok (.bipush (-4), 2) := op16 252 (by decide +kernel)
theorem dM_near_113 : decode (mB mM_near) 113 = .ok (.if_icmp .ne 8, 3) := op160 0 8 (by decide +kernel)
theorem dM_near_116 : decode (mB mM_near) 116 = .ok (.bipush (-4), 2) := op16 252 (by decide +kernel)
theorem dM_near_118 : decode (mB mM_near) 118 = .ok (.goto 19, 3) := op167 0 19 (by decide +kernel)
theorem dM_near_121 : decode (mB mM_near) 121 = .ok (.iload_n 3, 1) := op29 (by decide +kernel)
theorem dM_near_122 : decode (mB mM_near) 122 = .ok (.ifCond .ne 8, 3) := op154 0 8 (by decide +kernel)
theorem dM_near_125 : decode (mB mM_near) 125 = .ok (.iload 4, 2) := op21 4 (by decide +kernel)
theorem dM_near_127 : decode (mB mM_near) 127 = .ok (.goto 10, 3) := op167 0 10 (by decide +kernel)
theorem dM_near_130 : decode (mB mM_near) 130 = .ok (.iload 4, 2) := op21 4 (by decide +kernel)
theorem dM_near_132 : decode (mB mM_near) 132 = .ok (.iload_n 1, 1) := op27 (by decide +kernel)
theorem dM_near_133 : decode (mB mM_near) 133 = .ok (.ixor, 1) := op130 (by decide +kernel)
theorem dM_near_134 : decode (mB mM_near) 134 = .ok (.invokestatic 264, 3) := op184 1 8 (by decide +kernel)
theorem dM_near_137 : decode (mB mM_near) 137 = .ok (.ireturn, 1) := op172 (by decide +kernel)

theorem vM_near_0 {M : Mm} {b : Nat × Nat} {K : Int32 → Mm → Prop} {v0 : Nat} {v1 : Int32} {v2 : Int32} {v3 : Int32}  
    (h : CI mM_isCase [.int v1] M (fun rv N => X mM_near 4 [(0, .ref v0), (1, .int v1), (2, .int v2), (3, .int v3)] [.int rv] N b (QI K))) : X mM_near 0 [(0, .ref v0), (1, .int v1), (2, .int v2), (3, .int v3)] [] M b (QI K) := by
  refine x_wf (fun hw => ?_)
  refine x_iload_n (pc := 0) dM_near_0 rfl (q := 1) rfl ?_
  exact x_invS (pc := 1) dM_near_1 (S := []) (As := [.int v1]) mlM_275 hM_isCase rfl ⟨by decide, by decide⟩ ⟨Nat.zero_le _, Nat.zero_le _⟩ rfl (Nat.le_of_ble_eq_true rfl) (aftI (b' := b) ⟨Nat.le_refl _, Nat.le_refl _⟩ (fun rv N h => h) h)

theorem vM_near_4 {M : Mm} {b : Nat × Nat} {K : Int32 → Mm → Prop} {v0 : Nat} {v1 : Int32} {v2 : Int32} {v3 : Int32} {w0 : Int32}  
    (h : (w0 = 0 → (K (-1) M)) ∧ (¬ w0 = 0 → (CI mM_in [.long ((v2).toInt64), .long 0, .long 1] M (fun rv N => X mM_near 14 [(0, .ref v0), (1, .int v1), (2, .int v2), (3, .int v3)] [.int rv] N b (QI K))))) : X mM_near 4 [(0, .ref v0), (1, .int v1), (2, .int v2), (3, .int v3)] [.int w0] M b (QI K) := by
  refine x_wf (fun hw => ?_)
  obtain ⟨g1_0, g1_1⟩ := h
  refine x_if_eq (pc := 4) dM_near_4 (t := 27) rfl (fun q1 => ?_) (fun q1 => ?_)
  · have h := g1_0 q1
    refine x_iconst (pc := 27) dM_near_27 (v := (-1)) rfl ?_
    exact x_retQI (pc := 28) dM_near_28 rfl rfl h
  · refine x_iload_n (pc := 7) dM_near_7 rfl (q := 2) rfl ?_
    refine x_i2l (pc := 8) dM_near_8 ?_
    refine x_lconst (pc := 9) dM_near_9 (v := 0) rfl ?_
    refine x_lconst (pc := 10) dM_near_10 (v := 1) rfl ?_
    have h := g1_1 q1
    exact x_invS (pc := 11) dM_near_11 (S := []) (As := [.long ((v2).toInt64), .long 0, .long 1]) mlM_126 hM_in rfl ⟨by decide, by decide⟩ ⟨Nat.zero_le _, Nat.zero_le _⟩ rfl (Nat.le_of_ble_eq_true rfl) (aftI (b' := b) ⟨Nat.le_refl _, Nat.le_refl _⟩ (fun rv N h => h) h)

theorem vM_near_14 {M : Mm} {b : Nat × Nat} {K : Int32 → Mm → Prop} {v0 : Nat} {v1 : Int32} {v2 : Int32} {v3 : Int32} {w0 : Int32}  
    (h : (w0 = 0 → (K (-1) M)) ∧ (¬ w0 = 0 → (CI mM_in [.long ((v3).toInt64), .long 0, .long 1] M (fun rv N => X mM_near 24 [(0, .ref v0), (1, .int v1), (2, .int v2), (3, .int v3)] [.int rv] N b (QI K))))) : X mM_near 14 [(0, .ref v0), (1, .int v1), (2, .int v2), (3, .int v3)] [.int w0] M b (QI K) := by
  refine x_wf (fun hw => ?_)
  obtain ⟨g1_0, g1_1⟩ := h
  refine x_if_eq (pc := 14) dM_near_14 (t := 27) rfl (fun q1 => ?_) (fun q1 => ?_)
  · have h := g1_0 q1
    refine x_iconst (pc := 27) dM_near_27 (v := (-1)) rfl ?_
    exact x_retQI (pc := 28) dM_near_28 rfl rfl h
  · refine x_iload_n (pc := 17) dM_near_17 rfl (q := 3) rfl ?_
    refine x_i2l (pc := 18) dM_near_18 ?_
    refine x_lconst (pc := 19) dM_near_19 (v := 0) rfl ?_
    refine x_lconst (pc := 20) dM_near_20 (v := 1) rfl ?_
    have h := g1_1 q1
    exact x_invS (pc := 21) dM_near_21 (S := []) (As := [.long ((v3).toInt64), .long 0, .long 1]) mlM_126 hM_in rfl ⟨by decide, by decide⟩ ⟨Nat.zero_le _, Nat.zero_le _⟩ rfl (Nat.le_of_ble_eq_true rfl) (aftI (b' := b) ⟨Nat.le_refl _, Nat.le_refl _⟩ (fun rv N h => h) h)

theorem vM_near_24 {M : Mm} {b : Nat × Nat} {K : Int32 → Mm → Prop} {v0 : Nat} {v1 : Int32} {v2 : Int32} {v3 : Int32} {w0 : Int32} (kv0 : v0 % 64 = 11) 
    (h : (¬ w0 = 0 → (CV mM_findAll [.ref v0] M (fun N => X mM_near 33 [(0, .ref v0), (1, .int v1), (2, .int v2), (3, .int v3)] [] N b (QI K)))) ∧ (w0 = 0 → (K (-1) M))) : X mM_near 24 [(0, .ref v0), (1, .int v1), (2, .int v2), (3, .int v3)] [.int w0] M b (QI K) := by
  refine x_wf (fun hw => ?_)
  obtain ⟨g1_0, g1_1⟩ := h
  refine x_if_ne (pc := 24) dM_near_24 (t := 29) rfl (fun q1 => ?_) (fun q1 => ?_)
  · refine x_aload_n (pc := 29) dM_near_29 rfl (q := 0) rfl ?_
    have h := g1_0 q1
    exact x_invV (pc := 30) dM_near_30 (c := 11) (S := []) (As := []) mlM_319 hM_findAll rfl (by decide) rfl kv0 ⟨by decide, by decide⟩ ⟨Nat.zero_le _, Nat.zero_le _⟩ rfl (Nat.le_of_ble_eq_true rfl) (aftV (b' := b) ⟨Nat.le_refl _, Nat.le_refl _⟩ (fun N h => h) h)
  · have h := g1_1 q1
    refine x_iconst (pc := 27) dM_near_27 (v := (-1)) rfl ?_
    exact x_retQI (pc := 28) dM_near_28 rfl rfl h

theorem vM_near_33 {M : Mm} {b : Nat × Nat} {K : Int32 → Mm → Prop} {v0 : Nat} {v1 : Int32} {v2 : Int32} {v3 : Int32}  
    (h : X mM_near 40 [(0, .ref v0), (1, .int v1), (2, .int v2), (3, .int v3), (4, .int (-4)), (5, .int 0)] [] M b (QI K)) : X mM_near 33 [(0, .ref v0), (1, .int v1), (2, .int v2), (3, .int v3)] [] M b (QI K) := by
  refine x_wf (fun hw => ?_)
  refine x_bipush (pc := 33) dM_near_33 (v := (-4)) rfl ?_
  refine x_istore (pc := 35) dM_near_35 (by decide) (L' := [(4, .int (-4)), (0, .ref v0), (1, .int v1), (2, .int v2), (3, .int v3)]) rfl ?_
  refine x_iconst (pc := 37) dM_near_37 (v := 0) rfl ?_
  refine x_istore (pc := 38) dM_near_38 (by decide) (L' := [(5, .int 0), (4, .int (-4)), (0, .ref v0), (1, .int v1), (2, .int v2), (3, .int v3)]) rfl ?_
  exact x_loc [2, 3, 4, 5, 1, 0] rfl h

theorem vM_near_40 {M : Mm} {b : Nat × Nat} {K : Int32 → Mm → Prop} {v0 : Nat} {v1 : Int32} {v2 : Int32} {v3 : Int32} {v4 : Int32} {v5 : Int32} {r1 : Nat} (kv0 : v0 % 64 = 11) (e1 : gr M v0 30 = some r1)
    (h : (¬ 64 ≤ v5 → vp_in v5 64) ∧ ((64 ≤ v5 ∧ ¬ v4 = (-4) ∧ ¬ v3 = 0) → (CI mM_countOf [.int (v4 ^^^ v1)] M (fun rv N => X mM_near 137 [] [.int rv] N b (QI K)))) ∧ ((64 ≤ v5 ∧ ¬ v4 = (-4) ∧ v3 = 0) → (K v4 M)) ∧ ((64 ≤ v5 ∧ v4 = (-4)) → (K (-4) M)) ∧ ((¬ 64 ≤ v5 ∧ ¬ (gi M r1 (v5).toNatClampNeg) = v2) → (X mM_near 86 [(0, .ref v0), (1, .int v1), (2, .int v2), (3, .int v3), (4, .int v4), (5, .int v5)] [] M b (QI K))) ∧ ((¬ 64 ≤ v5 ∧ (gi M r1 (v5).toNatClampNeg) = v2 ∧ v4 = (-4)) → (X mM_near 82 [(0, .ref v0), (1, .int v1), (2, .int v2), (3, .int v3), (4, .int v4), (5, .int v5)] [] M b (QI K))) ∧ ((¬ 64 ≤ v5 ∧ (gi M r1 (v5).toNatClampNeg) = v2 ∧ ¬ v4 = (-4)) → (CI mM_countOf [.int (v5 ^^^ v1)] M (fun rv N => X mM_near 72 [(0, .ref v0), (1, .int v1), (2, .int v2), (3, .int v3), (4, .int v4), (5, .int v5)] [.int rv] N b (QI K))))) : X mM_near 40 [(0, .ref v0), (1, .int v1), (2, .int v2), (3, .int v3), (4, .int v4), (5, .int v5)] [] M b (QI K) := by
  refine x_wf (fun hw => ?_)
  refine x_iload (pc := 40) dM_near_40 (q := 5) rfl ?_
  refine x_bipush (pc := 42) dM_near_42 (v := 64) rfl ?_
  obtain ⟨s1, g1_0, g1_1, g1_2, g1_3, g1_4, g1_5⟩ := h
  refine x_icmp_ge (pc := 44) dM_near_44 (t := 109) rfl (fun q1 => ?_) (fun q1 => ?_)
  · refine x_iload (pc := 109) dM_near_109 (q := 4) rfl ?_
    refine x_bipush (pc := 111) dM_near_111 (v := (-4)) rfl ?_
    refine x_icmp_ne (pc := 113) dM_near_113 (t := 121) rfl (fun q2 => ?_) (fun q2 => ?_)
    · refine x_iload_n (pc := 121) dM_near_121 rfl (q := 3) rfl ?_
      refine x_if_ne (pc := 122) dM_near_122 (t := 130) rfl (fun q3 => ?_) (fun q3 => ?_)
      · refine x_iload (pc := 130) dM_near_130 (q := 4) rfl ?_
        refine x_iload_n (pc := 132) dM_near_132 rfl (q := 1) rfl ?_
        refine x_ixor (pc := 133) dM_near_133 ?_
        have h := g1_0 ⟨q1, q2, q3⟩
        exact x_invS (pc := 134) dM_near_134 (S := []) (As := [.int (v4 ^^^ v1)]) mlM_264 hM_countOf rfl ⟨by decide, by decide⟩ ⟨Nat.zero_le _, Nat.zero_le _⟩ rfl (Nat.le_of_ble_eq_true rfl) (aftI (b' := b) ⟨Nat.le_refl _, Nat.le_refl _⟩ (fun rv N h => x_loc [] rfl h) h)
      · refine x_iload (pc := 125) dM_near_125 (q := 4) rfl ?_
        refine x_goto (pc := 127) dM_near_127 (t := 137) rfl ?_
        have h := g1_1 ⟨q1, q2, q3⟩
        exact x_retQI (pc := 137) dM_near_137 rfl rfl h
    · refine x_bipush (pc := 116) dM_near_116 (v := (-4)) rfl ?_
      refine x_goto (pc := 118) dM_near_118 (t := 137) rfl ?_
      have h := g1_2 ⟨q1, q2⟩
      exact x_retQI (pc := 137) dM_near_137 rfl rfl h
  · refine x_aload_n (pc := 47) dM_near_47 rfl (q := 0) rfl ?_
    refine x_getR (pc := 48) dM_near_48 kv0 flM_67 rfl e1 ?_
    refine x_iload (pc := 51) dM_near_51 (q := 5) rfl ?_
    refine x_aldIj (pc := 53) (j := (v5).toNatClampNeg) (Or.inl ⟨rfl, rfl⟩) dM_near_53 (wfk hw e1 kv0) ak_14 rfl (s1 q1) ?_
    refine x_iload_n (pc := 54) dM_near_54 rfl (q := 2) rfl ?_
    refine x_icmp_ne (pc := 55) dM_near_55 (t := 86) rfl (fun q4 => ?_) (fun q4 => ?_)
    · have h := g1_3 ⟨q1, q4⟩
      exact h
    · refine x_iload (pc := 58) dM_near_58 (q := 4) rfl ?_
      refine x_bipush (pc := 60) dM_near_60 (v := (-4)) rfl ?_
      refine x_icmp_eq (pc := 62) dM_near_62 (t := 82) rfl (fun q5 => ?_) (fun q5 => ?_)
      · have h := g1_4 ⟨q1, q4, q5⟩
        exact h
      · refine x_iload (pc := 65) dM_near_65 (q := 5) rfl ?_
        refine x_iload_n (pc := 67) dM_near_67 rfl (q := 1) rfl ?_
        refine x_ixor (pc := 68) dM_near_68 ?_
        have h := g1_5 ⟨q1, q4, q5⟩
        exact x_invS (pc := 69) dM_near_69 (S := []) (As := [.int (v5 ^^^ v1)]) mlM_264 hM_countOf rfl ⟨by decide, by decide⟩ ⟨Nat.zero_le _, Nat.zero_le _⟩ rfl (Nat.le_of_ble_eq_true rfl) (aftI (b' := b) ⟨Nat.le_refl _, Nat.le_refl _⟩ (fun rv N h => h) h)

theorem vM_near_72 {M : Mm} {b : Nat × Nat} {K : Int32 → Mm → Prop} {v0 : Nat} {v1 : Int32} {v2 : Int32} {v3 : Int32} {v4 : Int32} {v5 : Int32} {w0 : Int32}  
    (h : CI mM_countOf [.int (v4 ^^^ v1)] M (fun rv N => X mM_near 79 [(0, .ref v0), (1, .int v1), (2, .int v2), (3, .int v3), (4, .int v4), (5, .int v5)] [.int rv, .int w0] N b (QI K))) : X mM_near 72 [(0, .ref v0), (1, .int v1), (2, .int v2), (3, .int v3), (4, .int v4), (5, .int v5)] [.int w0] M b (QI K) := by
  refine x_wf (fun hw => ?_)
  refine x_iload (pc := 72) dM_near_72 (q := 4) rfl ?_
  refine x_iload_n (pc := 74) dM_near_74 rfl (q := 1) rfl ?_
  refine x_ixor (pc := 75) dM_near_75 ?_
  exact x_invS (pc := 76) dM_near_76 (S := [.int w0]) (As := [.int (v4 ^^^ v1)]) mlM_264 hM_countOf rfl ⟨by decide, by decide⟩ ⟨Nat.zero_le _, Nat.zero_le _⟩ rfl (Nat.le_of_ble_eq_true rfl) (aftI (b' := b) ⟨Nat.le_refl _, Nat.le_refl _⟩ (fun rv N h => h) h)

theorem vM_near_79 {M : Mm} {b : Nat × Nat} {K : Int32 → Mm → Prop} {v0 : Nat} {v1 : Int32} {v2 : Int32} {v3 : Int32} {v4 : Int32} {v5 : Int32} {w0 : Int32} {w1 : Int32}  
    (h : (w0 ≤ w1 → (X mM_near 86 [(0, .ref v0), (1, .int v1), (2, .int v2), (3, .int v3), (4, .int v4), (5, .int v5)] [] M b (QI K))) ∧ (¬ w0 ≤ w1 → (X mM_near 82 [(0, .ref v0), (1, .int v1), (2, .int v2), (3, .int v3), (4, .int v4), (5, .int v5)] [] M b (QI K)))) : X mM_near 79 [(0, .ref v0), (1, .int v1), (2, .int v2), (3, .int v3), (4, .int v4), (5, .int v5)] [.int w0, .int w1] M b (QI K) := by
  refine x_wf (fun hw => ?_)
  obtain ⟨g1_0, g1_1⟩ := h
  refine x_icmp_ge (pc := 79) dM_near_79 (t := 86) rfl (fun q1 => ?_) (fun q1 => ?_)
  · have h := g1_0 q1
    exact h
  · have h := g1_1 q1
    exact h

theorem vM_near_82 {M : Mm} {b : Nat × Nat} {K : Int32 → Mm → Prop} {v0 : Nat} {v1 : Int32} {v2 : Int32} {v3 : Int32} {v4 : Int32} {v5 : Int32}  
    (h : X mM_near 87 [(0, .ref v0), (1, .int v1), (2, .int v2), (3, .int v3), (4, .int v4), (5, .int v5)] [.int 1] M b (QI K)) : X mM_near 82 [(0, .ref v0), (1, .int v1), (2, .int v2), (3, .int v3), (4, .int v4), (5, .int v5)] [] M b (QI K) := by
  refine x_wf (fun hw => ?_)
  refine x_iconst (pc := 82) dM_near_82 (v := 1) rfl ?_
  refine x_goto (pc := 83) dM_near_83 (t := 87) rfl ?_
  exact h

theorem vM_near_86 {M : Mm} {b : Nat × Nat} {K : Int32 → Mm → Prop} {v0 : Nat} {v1 : Int32} {v2 : Int32} {v3 : Int32} {v4 : Int32} {v5 : Int32}  
    (h : X mM_near 87 [(0, .ref v0), (1, .int v1), (2, .int v2), (3, .int v3), (4, .int v4), (5, .int v5)] [.int 0] M b (QI K)) : X mM_near 86 [(0, .ref v0), (1, .int v1), (2, .int v2), (3, .int v3), (4, .int v4), (5, .int v5)] [] M b (QI K) := by
  refine x_wf (fun hw => ?_)
  refine x_iconst (pc := 86) dM_near_86 (v := 0) rfl ?_
  exact h

theorem vM_near_87 {M : Mm} {b : Nat × Nat} {K : Int32 → Mm → Prop} {v0 : Nat} {v1 : Int32} {v2 : Int32} {v3 : Int32} {v4 : Int32} {v5 : Int32} {w0 : Int32}  
    (h : X mM_near 40 [(0, .ref v0), (1, .int v1), (2, .int v2), (3, .int v3), (4, .int (if w0 = 0 then v4 else v5 : Int32)), (5, .int (v5 + 1))] [] M b (QI K)) : X mM_near 87 [(0, .ref v0), (1, .int v1), (2, .int v2), (3, .int v3), (4, .int v4), (5, .int v5)] [.int w0] M b (QI K) := by
  refine x_wf (fun hw => ?_)
  refine x_istore (pc := 87) dM_near_87 (by decide) (L' := [(6, .int w0), (0, .ref v0), (1, .int v1), (2, .int v2), (3, .int v3), (4, .int v4), (5, .int v5)]) rfl ?_
  refine x_iload (pc := 89) dM_near_89 (q := 0) rfl ?_
  suffices hJ : X mM_near 101 [(6, .int w0), (0, .ref v0), (1, .int v1), (2, .int v2), (3, .int v3), (4, .int v4), (5, .int v5)] [.int (if w0 = 0 then v4 else v5 : Int32)] M b (QI K) by
    refine x_if_eq (pc := 91) dM_near_91 (t := 99) rfl (fun q1 => ?_) (fun q1 => ?_)
    · refine x_iload (pc := 99) dM_near_99 (q := 5) rfl ?_
      first | (rw [if_pos q1] at hJ; exact hJ) | (simp only [if_pos q1] at hJ ⊢; exact hJ)
    · refine x_iload (pc := 94) dM_near_94 (q := 6) rfl ?_
      refine x_goto (pc := 96) dM_near_96 (t := 101) rfl ?_
      first | (rw [if_neg q1] at hJ; exact hJ) | (simp only [if_neg q1] at hJ ⊢; exact hJ)
  refine x_istore (pc := 101) dM_near_101 (by decide) (L' := [(4, .int (if w0 = 0 then v4 else v5 : Int32)), (6, .int w0), (0, .ref v0), (1, .int v1), (2, .int v2), (3, .int v3), (5, .int v5)]) rfl ?_
  refine x_iinc (pc := 103) dM_near_103 (q := 6) rfl (v := v5 + 1) rfl (by decide) (L' := [(5, .int (v5 + 1)), (4, .int (if w0 = 0 then v4 else v5 : Int32)), (6, .int w0), (0, .ref v0), (1, .int v1), (2, .int v2), (3, .int v3)]) rfl ?_
  refine x_goto (pc := 106) dM_near_106 (t := 40) rfl ?_
  exact x_loc [3, 4, 5, 6, 1, 0] rfl h

theorem vM_near_137 {M : Mm} {b : Nat × Nat} {K : Int32 → Mm → Prop} {w0 : Int32}  
    (h : K w0 M) : X mM_near 137 [] [.int w0] M b (QI K) := by
  refine x_wf (fun hw => ?_)
  exact x_retQI (pc := 137) dM_near_137 rfl rfl h

theorem dM_bring_0 : decode (mB mM_bring) 0 = .ok (.iload_n 1, 1) := op27 (by decide +kernel)
theorem dM_bring_1 : decode (mB mM_bring) 1 = .ok (.i2l, 1) := op133 (by decide +kernel)
theorem dM_bring_2 : decode (mB mM_bring) 2 = .ok (.lconst 0, 1) := op9 (by decide +kernel)
theorem dM_bring_3 : decode (mB mM_bring) 3 = .ok (.ldc2_w 124, 3) := op20 0 124 (by decide +kernel)
theorem dM_bring_6 : decode (mB mM_bring) 6 = .ok (.invokestatic 126, 3) := op184 0 126 (by decide +kernel)
theorem dM_bring_9 : decode (mB mM_bring) 9 = .ok (.ifCond .ne 5, 3) := op154 0 5 (by decide +kernel)
theorem dM_bring_12 : decode (mB mM_bring) 12 = .ok (.iconst (-1), 1) := op2 (by decide +kernel)
theorem dM_bring_13 : decode (mB mM_bring) 13 = .ok (.ireturn, 1) := op172 (by decide +kernel)
theorem dM_bring_14 : decode (mB mM_bring) 14 = .ok (.aload_n 0, 1) := op42 (by decide +kernel)
theorem dM_bring_15 : decode (mB mM_bring) 15 = .ok (.getfield 29, 3) := op180 0 29 (by decide +kernel)
theorem dM_bring_18 : decode (mB mM_bring) 18 = .ok (.istore_n 2, 1) := op61 (by decide +kernel)
theorem dM_bring_19 : decode (mB mM_bring) 19 = .ok (.aload_n 0, 1) := op42 (by decide +kernel)
theorem dM_bring_20 : decode (mB mM_bring) 20 = .ok (.iload_n 1, 1) := op27 (by decide +kernel)
theorem dM_bring_21 : decode (mB mM_bring) 21 = .ok (.putfield 29, 3) := op181 0 29 (by decide +kernel)
theorem dM_bring_24 : decode (mB mM_bring) 24 = .ok (.iload_n 2, 1) := op28 (by decide +kernel)
theorem dM_bring_25 : decode (mB mM_bring) 25 = .ok (.ireturn, 1) := op172 (by decide +kernel)

theorem vM_bring_0 {M : Mm} {b : Nat × Nat} {K : Int32 → Mm → Prop} {v0 : Nat} {v1 : Int32}  
    (h : CI mM_in [.long ((v1).toInt64), .long 0, .long 255] M (fun rv N => X mM_bring 9 [(0, .ref v0), (1, .int v1)] [.int rv] N b (QI K))) : X mM_bring 0 [(0, .ref v0), (1, .int v1)] [] M b (QI K) := by
  refine x_wf (fun hw => ?_)
  refine x_iload_n (pc := 0) dM_bring_0 rfl (q := 1) rfl ?_
  refine x_i2l (pc := 1) dM_bring_1 ?_
  refine x_lconst (pc := 2) dM_bring_2 (v := 0) rfl ?_
  refine x_ldc2 (pc := 3) dM_bring_3 klM_124 ?_
  exact x_invS (pc := 6) dM_bring_6 (S := []) (As := [.long ((v1).toInt64), .long 0, .long 255]) mlM_126 hM_in rfl ⟨by decide, by decide⟩ ⟨Nat.zero_le _, Nat.zero_le _⟩ rfl (Nat.le_of_ble_eq_true rfl) (aftI (b' := b) ⟨Nat.le_refl _, Nat.le_refl _⟩ (fun rv N h => h) h)

theorem vM_bring_9 {M : Mm} {b : Nat × Nat} {K : Int32 → Mm → Prop} {v0 : Nat} {v1 : Int32} {w0 : Int32} (kv0 : v0 % 64 = 11) 
    (h : (¬ w0 = 0 → (K (gi M v0 9) (si M v0 9 v1))) ∧ (w0 = 0 → (K (-1) M))) : X mM_bring 9 [(0, .ref v0), (1, .int v1)] [.int w0] M b (QI K) := by
  refine x_wf (fun hw => ?_)
  obtain ⟨g1_0, g1_1⟩ := h
  refine x_if_ne (pc := 9) dM_bring_9 (t := 14) rfl (fun q1 => ?_) (fun q1 => ?_)
  · refine x_aload_n (pc := 14) dM_bring_14 rfl (q := 0) rfl ?_
    refine x_getI (pc := 15) dM_bring_15 kv0 flM_29 rfl ?_
    have h := g1_0 q1
    refine x_istore_n (pc := 18) dM_bring_18 rfl (by decide) (L' := [(2, .int (gi M v0 9)), (0, .ref v0), (1, .int v1)]) rfl ?_
    refine x_aload_n (pc := 19) dM_bring_19 rfl (q := 1) rfl ?_
    refine x_iload_n (pc := 20) dM_bring_20 rfl (q := 2) rfl ?_
    refine x_putI (pc := 21) dM_bring_21 kv0 flM_29 rfl rfl ?_
    refine x_iload_n (pc := 24) dM_bring_24 rfl (q := 0) rfl ?_
    exact x_retQI (pc := 25) dM_bring_25 rfl rfl h
  · refine x_iconst (pc := 12) dM_bring_12 (v := (-1)) rfl ?_
    have h := g1_1 q1
    exact x_retQI (pc := 13) dM_bring_13 rfl rfl h

theorem dM_copies_0 : decode (mB mM_copies) 0 = .ok (.iload_n 1, 1) := op27 (by decide +kernel)
theorem dM_copies_1 : decode (mB mM_copies) 1 = .ok (.i2l, 1) := op133 (by decide +kernel)
theorem dM_copies_2 : decode (mB mM_copies) 2 = .ok (.lconst 0, 1) := op9 (by decide +kernel)
theorem dM_copies_3 : decode (mB mM_copies) 3 = .ok (.ldc2_w 183, 3) := op20 0 183 (by decide +kernel)
theorem dM_copies_6 : decode (mB mM_copies) 6 = .ok (.invokestatic 126, 3) := op184 0 126 (by decide +kernel)
theorem dM_copies_9 : decode (mB mM_copies) 9 = .ok (.ifCond .eq 15, 3) := op153 0 15 (by decide +kernel)
theorem dM_copies_12 : decode (mB mM_copies) 12 = .ok (.iload_n 2, 1) := op28 (by decide +kernel)
theorem dM_copies_13 : decode (mB mM_copies) 13 = .ok (.i2l, 1) := op133 (by decide +kernel)
theorem dM_copies_14 : decode (mB mM_copies) 14 = .ok (.lconst 0, 1) := op9 (by decide +kernel)
theorem dM_copies_15 : decode (mB mM_copies) 15 = .ok (.ldc2_w 339, 3) := op20 1 83 (by decide +kernel)
theorem dM_copies_18 : decode (mB mM_copies) 18 = .ok (.invokestatic 126, 3) := op184 0 126 (by decide +kernel)
theorem dM_copies_21 : decode (mB mM_copies) 21 = .ok (.ifCond .ne 5, 3) := op154 0 5 (by decide +kernel)
theorem dM_copies_24 : decode (mB mM_copies) 24 = .ok (.iconst (-1), 1) := op2 (by decide +kernel)
theorem dM_copies_25 : decode (mB mM_copies) 25 = .ok (.ireturn, 1) := op172 (by decide +kernel)
theorem dM_copies_26 : decode (mB mM_copies) 26 = .ok (.aload_n 0, 1) := op42 (by decide +kernel)
theorem dM_copies_27 : decode (mB mM_copies) 27 = .ok (.getfield 13, 3) := op180 0 13 (by decide +kernel)
theorem dM_copies_30 : decode (mB mM_copies) 30 = .ok (.iload_n 1, 1) := op27 (by decide +kernel)
theorem dM_copies_31 : decode (mB mM_copies) 31 = .ok (.iaload, 1) := op46 (by decide +kernel)
theorem dM_copies_32 : decode (mB mM_copies) 32 = .ok (.istore_n 3, 1) := op62 (by decide +kernel)
theorem dM_copies_33 : decode (mB mM_copies) 33 = .ok (.aload_n 0, 1) := op42 (by decide +kernel)
theorem dM_copies_34 : decode (mB mM_copies) 34 = .ok (.getfield 13, 3) := op180 0 13 (by decide +kernel)
theorem dM_copies_37 : decode (mB mM_copies) 37 = .ok (.iload_n 1, 1) := op27 (by decide +kernel)
theorem dM_copies_38 : decode (mB mM_copies) 38 = .ok (.iload_n 2, 1) := op28 (by decide +kernel)
theorem dM_copies_39 : decode (mB mM_copies) 39 = .ok (.iastore, 1) := op79 (by decide +kernel)
theorem dM_copies_40 : decode (mB mM_copies) 40 = .ok (.iload_n 3, 1) := op29 (by decide +kernel)
theorem dM_copies_41 : decode (mB mM_copies) 41 = .ok (.ireturn, 1) := op172 (by decide +kernel)

theorem vM_copies_0 {M : Mm} {b : Nat × Nat} {K : Int32 → Mm → Prop} {v0 : Nat} {v1 : Int32} {v2 : Int32}  
    (h : CI mM_in [.long ((v1).toInt64), .long 0, .long 7] M (fun rv N => X mM_copies 9 [(0, .ref v0), (1, .int v1), (2, .int v2)] [.int rv] N b (QI K))) : X mM_copies 0 [(0, .ref v0), (1, .int v1), (2, .int v2)] [] M b (QI K) := by
  refine x_wf (fun hw => ?_)
  refine x_iload_n (pc := 0) dM_copies_0 rfl (q := 1) rfl ?_
  refine x_i2l (pc := 1) dM_copies_1 ?_
  refine x_lconst (pc := 2) dM_copies_2 (v := 0) rfl ?_
  refine x_ldc2 (pc := 3) dM_copies_3 klM_183 ?_
  exact x_invS (pc := 6) dM_copies_6 (S := []) (As := [.long ((v1).toInt64), .long 0, .long 7]) mlM_126 hM_in rfl ⟨by decide, by decide⟩ ⟨Nat.zero_le _, Nat.zero_le _⟩ rfl (Nat.le_of_ble_eq_true rfl) (aftI (b' := b) ⟨Nat.le_refl _, Nat.le_refl _⟩ (fun rv N h => h) h)

theorem vM_copies_9 {M : Mm} {b : Nat × Nat} {K : Int32 → Mm → Prop} {v0 : Nat} {v1 : Int32} {v2 : Int32} {w0 : Int32}  
    (h : (w0 = 0 → (K (-1) M)) ∧ (¬ w0 = 0 → (CI mM_in [.long ((v2).toInt64), .long 0, .long 9] M (fun rv N => X mM_copies 21 [(0, .ref v0), (1, .int v1), (2, .int v2)] [.int rv] N b (QI K))))) : X mM_copies 9 [(0, .ref v0), (1, .int v1), (2, .int v2)] [.int w0] M b (QI K) := by
  refine x_wf (fun hw => ?_)
  obtain ⟨g1_0, g1_1⟩ := h
  refine x_if_eq (pc := 9) dM_copies_9 (t := 24) rfl (fun q1 => ?_) (fun q1 => ?_)
  · have h := g1_0 q1
    refine x_iconst (pc := 24) dM_copies_24 (v := (-1)) rfl ?_
    exact x_retQI (pc := 25) dM_copies_25 rfl rfl h
  · refine x_iload_n (pc := 12) dM_copies_12 rfl (q := 2) rfl ?_
    refine x_i2l (pc := 13) dM_copies_13 ?_
    refine x_lconst (pc := 14) dM_copies_14 (v := 0) rfl ?_
    refine x_ldc2 (pc := 15) dM_copies_15 klM_339 ?_
    have h := g1_1 q1
    exact x_invS (pc := 18) dM_copies_18 (S := []) (As := [.long ((v2).toInt64), .long 0, .long 9]) mlM_126 hM_in rfl ⟨by decide, by decide⟩ ⟨Nat.zero_le _, Nat.zero_le _⟩ rfl (Nat.le_of_ble_eq_true rfl) (aftI (b' := b) ⟨Nat.le_refl _, Nat.le_refl _⟩ (fun rv N h => h) h)

theorem vM_copies_21 {M : Mm} {b : Nat × Nat} {K : Int32 → Mm → Prop} {v0 : Nat} {v1 : Int32} {v2 : Int32} {w0 : Int32} {r1 : Nat} (kv0 : v0 % 64 = 11) (e1 : gr M v0 2 = some r1)
    (h : (¬ w0 = 0 → vp_in v1 8) ∧ (¬ w0 = 0 → (vp_in v1 8 ∧ (K (gi M r1 (v1).toNatClampNeg) (si M r1 (v1).toNatClampNeg v2)))) ∧ (w0 = 0 → (K (-1) M))) : X mM_copies 21 [(0, .ref v0), (1, .int v1), (2, .int v2)] [.int w0] M b (QI K) := by
  refine x_wf (fun hw => ?_)
  obtain ⟨s1, g1_0, g1_1⟩ := h
  refine x_if_ne (pc := 21) dM_copies_21 (t := 26) rfl (fun q1 => ?_) (fun q1 => ?_)
  · refine x_aload_n (pc := 26) dM_copies_26 rfl (q := 0) rfl ?_
    refine x_getR (pc := 27) dM_copies_27 kv0 flM_13 rfl e1 ?_
    refine x_iload_n (pc := 30) dM_copies_30 rfl (q := 1) rfl ?_
    refine x_aldIj (pc := 31) (j := (v1).toNatClampNeg) (Or.inl ⟨rfl, rfl⟩) dM_copies_31 (wfk hw e1 kv0) ak_13 rfl (s1 q1) ?_
    have h := g1_0 q1
    refine x_istore_n (pc := 32) dM_copies_32 rfl (by decide) (L' := [(3, .int (gi M r1 (v1).toNatClampNeg)), (0, .ref v0), (1, .int v1), (2, .int v2)]) rfl ?_
    refine x_aload_n (pc := 33) dM_copies_33 rfl (q := 1) rfl ?_
    refine x_getR (pc := 34) dM_copies_34 kv0 flM_13 rfl e1 ?_
    refine x_iload_n (pc := 37) dM_copies_37 rfl (q := 2) rfl ?_
    refine x_iload_n (pc := 38) dM_copies_38 rfl (q := 3) rfl ?_
    obtain ⟨s502, h⟩ := h
    refine x_astIj (pc := 39) (j := (v1).toNatClampNeg) (v := v2) (Or.inl ⟨rfl, rfl, rfl⟩) dM_copies_39 (wfk hw e1 kv0) ak_13 rfl s502 ?_
    refine x_iload_n (pc := 40) dM_copies_40 rfl (q := 0) rfl ?_
    exact x_retQI (pc := 41) dM_copies_41 rfl rfl h
  · have h := g1_1 q1
    refine x_iconst (pc := 24) dM_copies_24 (v := (-1)) rfl ?_
    exact x_retQI (pc := 25) dM_copies_25 rfl rfl h

theorem dM_argue_0 : decode (mB mM_argue) 0 = .ok (.iload_n 1, 1) := op27 (by decide +kernel)
theorem dM_argue_1 : decode (mB mM_argue) 1 = .ok (.invokestatic 275, 3) := op184 1 19 (by decide +kernel)
theorem dM_argue_4 : decode (mB mM_argue) 4 = .ok (.ifCond .eq 23, 3) := op153 0 23 (by decide +kernel)
theorem dM_argue_7 : decode (mB mM_argue) 7 = .ok (.iload_n 2, 1) := op28 (by decide +kernel)
theorem dM_argue_8 : decode (mB mM_argue) 8 = .ok (.i2l, 1) := op133 (by decide +kernel)
theorem dM_argue_9 : decode (mB mM_argue) 9 = .ok (.lconst 0, 1) := op9 (by decide +kernel)
theorem dM_argue_10 : decode (mB mM_argue) 10 = .ok (.lconst 1, 1) := op10 (by decide +kernel)
theorem dM_argue_11 : decode (mB mM_argue) 11 = .ok (.invokestatic 126, 3) := op184 0 126 (by decide +kernel)
theorem dM_argue_14 : decode (mB mM_argue) 14 = .ok (.ifCond .eq 13, 3) := op153 0 13 (by decide +kernel)
theorem dM_argue_17 : decode (mB mM_argue) 17 = .ok (.iload_n 3, 1) := op29 (by decide +kernel)
theorem dM_argue_18 : decode (mB mM_argue) 18 = .ok (.i2l, 1) := op133 (by decide +kernel)
theorem dM_argue_19 : decode (mB mM_argue) 19 = .ok (.lconst 0, 1) := op9 (by decide +kernel)
theorem dM_argue_20 : decode (mB mM_argue) 20 = .ok (.lconst 1, 1) := op10 (by decide +kernel)
theorem dM_argue_21 : decode (mB mM_argue) 21 = .ok (.invokestatic 126, 3) := op184 0 126 (by decide +kernel)
theorem dM_argue_24 : decode (mB mM_argue) 24 = .ok (.ifCond .ne 5, 3) := op154 0 5 (by decide +kernel)
theorem dM_argue_27 : decode (mB mM_argue) 27 = .ok (.iconst (-1), 1) := op2 (by decide +kernel)
theorem dM_argue_28 : decode (mB mM_argue) 28 = .ok (.ireturn, 1) := op172 (by decide +kernel)
theorem dM_argue_29 : decode (mB mM_argue) 29 = .ok (.aload_n 0, 1) := op42 (by decide +kernel)
theorem dM_argue_30 : decode (mB mM_argue) 30 = .ok (.getfield 29, 3) := op180 0 29 (by decide +kernel)
theorem dM_argue_33 : decode (mB mM_argue) 33 = .ok (.istore 4, 2) := op54 4 (by decide +kernel)
theorem dM_argue_35 : decode (mB mM_argue) 35 = .ok (.bipush (-4), 2) := op16 252 (by decide +kernel)
theorem dM_argue_37 : decode (mB mM_argue) 37 = .ok (.istore 5, 2) := op54 5 (by decide +kernel)
theorem dM_argue_39 : decode (mB mM_argue) 39 = .ok (.iconst 0, 1) := op3 (by decide +kernel)
theorem dM_argue_40 : decode (mB mM_argue) 40 = .ok (.istore 6, 2) := op54 6 (by decide +kernel)
theorem dM_argue_42 : decode (mB mM_argue) 42 = .ok (.iload 6, 2) := op21 6 (by decide +kernel)
theorem dM_argue_44 : decode (mB mM_argue) 44 = .ok (.sipush 256, 3) := op17 1 0 (by decide +kernel)
theorem dM_argue_47 : decode (mB mM_argue) 47 = .ok (.if_icmp .ge 58, 3) := op162 0 58 (by decide +kernel)
theorem dM_argue_50 : decode (mB mM_argue) 50 = .ok (.iload 5, 2) := op21 5 (by decide +kernel)
theorem dM_argue_52 : decode (mB mM_argue) 52 = .ok (.bipush (-4), 2) := op16 252 (by decide +kernel)
theorem dM_argue_54 : decode (mB mM_argue) 54 = .ok (.if_icmp .eq 16, 3) := op159 0 16 (by decide +kernel)
theorem dM_argue_57 : decode (mB mM_argue) 57 = .ok (.iload 6, 2) := op21 6 (by decide +kernel)
theorem dM_argue_59 : decode (mB mM_argue) 59 = .ok (.invokestatic 264, 3) := op184 1 8 (by decide +kernel)
theorem dM_argue_62 : decode (mB mM_argue) 62 = .ok (.iload 5, 2) := op21 5 (by decide +kernel)
theorem dM_argue_64 : decode (mB mM_argue) 64 = .ok (.invokestatic 264, 3) := op184 1 8 (by decide +kernel)
theorem dM_argue_67 : decode (mB mM_argue) 67 = .ok (.if_icmp .ge 32, 3) := op162 0 32 (by decide +kernel)
theorem dM_argue_70 : decode (mB mM_argue) 70 = .ok (.aload_n 0, 1) := op42 (by decide +kernel)
theorem dM_argue_71 : decode (mB mM_argue) 71 = .ok (.iload 6, 2) := op21 6 (by decide +kernel)
theorem dM_argue_73 : decode (mB mM_argue) 73 = .ok (.putfield 29, 3) := op181 0 29 (by decide +kernel)
theorem dM_argue_76 : decode (mB mM_argue) 76 = .ok (.aload_n 0, 1) := op42 (by decide +kernel)
theorem dM_argue_77 : decode (mB mM_argue) 77 = .ok (.invokevirtual 319, 3) := op182 1 63 (by decide +kernel)
theorem dM_argue_80 : decode (mB mM_argue) 80 = .ok (.aload_n 0, 1) := op42 (by decide +kernel)
theorem dM_argue_81 : decode (mB mM_argue) 81 = .ok (.getfield 67, 3) := op180 0 67 (by decide +kernel)
theorem dM_argue_84 : decode (mB mM_argue) 84 = .ok (.iload_n 1, 1) := op27 (by decide +kernel)
theorem dM_argue_85 : decode (mB mM_argue) 85 = .ok (.iaload, 1) := op46 (by decide +kernel)
theorem dM_argue_86 : decode (mB mM_argue) 86 = .ok (.iload_n 2, 1) := op28 (by decide +kernel)
theorem dM_argue_87 : decode (mB mM_argue) 87 = .ok (.if_icmp .ne 8, 3) := op160 0 8 (by decide +kernel)
theorem dM_argue_90 : decode (mB mM_argue) 90 = .ok (.iload 6, 2) := op21 6 (by decide +kernel)
theorem dM_argue_92 : decode (mB mM_argue) 92 = .ok (.goto 5, 3) := op167 0 5 (by decide +kernel)
theorem dM_argue_95 : decode (mB mM_argue) 95 = .ok (.iload 5, 2) := op21 5 (by decide +kernel)
theorem dM_argue_97 : decode (mB mM_argue) 97 = .ok (.istore 5, 2) := op54 5 (by decide +kernel)
theorem dM_argue_99 : decode (mB mM_argue) 99 = .ok (.iinc 6 1, 3) := op132 6 1 (by decide +kernel)
theorem dM_argue_102 : decode (mB mM_argue) 102 = .ok (.goto (-60), 3) := op167 255 196 (by decide +kernel)
theorem dM_argue_105 : decode (mB mM_argue) 105 = .ok (.aload_n 0, 1) := op42 (by decide +kernel)
theorem dM_argue_106 : decode (mB mM_argue) 106 = .ok (.iload 4, 2) := op21 4 (by decide +kernel)
theorem dM_argue_108 : decode (mB mM_argue) 108 = .ok (.putfield 29, 3) := op181 0 29 (by decide +kernel)
theorem dM_argue_111 : decode (mB mM_argue) 111 = .ok (.iload 5, 2) := op21 5 (by decide +kernel)
theorem dM_argue_113 : decode (mB mM_argue) 113 = .ok (.bipush (-4), 2) := op16 252 (by decide +kernel)
theorem dM_argue_115 : decode (mB mM_argue) 115 = .ok (.if_icmp .ne 8, 3) := op160 0 8 (by decide +kernel)
theorem dM_argue_118 : decode (mB mM_argue) 118 = .ok (.bipush (-4), 2) := op16 252 (by decide +kernel)
theorem dM_argue_120 : decode (mB mM_argue) 120 = .ok (.goto 17, 3) := op167 0 17 (by decide +kernel)
theorem dM_argue_123 : decode (mB mM_argue) 123 = .ok (.iload_n 3, 1) := op29 (by decide +kernel)
theorem dM_argue_124 : decode (mB mM_argue) 124 = .ok (.ifCond .ne 11, 3) := op154 0 11 (by decide +kernel)
theorem dM_argue_127 : decode (mB mM_argue) 127 = .ok (.iload 5, 2) := op21 5 (by decide +kernel)
theorem dM_argue_129 : decode (mB mM_argue) 129 = .ok (.invokestatic 264, 3) := op184 1 8 (by decide +kernel)
theorem dM_argue_132 : decode (mB mM_argue) 132 = .ok (.goto 5, 3) := op167 0 5 (by decide +kernel)
theorem dM_argue_135 : decode (mB mM_argue) 135 = .ok (.iload 5, 2) := op21 5 (by decide +kernel)
theorem dM_argue_137 : decode (mB mM_argue) 137 = .ok (.ireturn, 1) := op172 (by decide +kernel)

theorem vM_argue_0 {M : Mm} {b : Nat × Nat} {K : Int32 → Mm → Prop} {v0 : Nat} {v1 : Int32} {v2 : Int32} {v3 : Int32}  
    (h : CI mM_isCase [.int v1] M (fun rv N => X mM_argue 4 [(0, .ref v0), (1, .int v1), (2, .int v2), (3, .int v3)] [.int rv] N b (QI K))) : X mM_argue 0 [(0, .ref v0), (1, .int v1), (2, .int v2), (3, .int v3)] [] M b (QI K) := by
  refine x_wf (fun hw => ?_)
  refine x_iload_n (pc := 0) dM_argue_0 rfl (q := 1) rfl ?_
  exact x_invS (pc := 1) dM_argue_1 (S := []) (As := [.int v1]) mlM_275 hM_isCase rfl ⟨by decide, by decide⟩ ⟨Nat.zero_le _, Nat.zero_le _⟩ rfl (Nat.le_of_ble_eq_true rfl) (aftI (b' := b) ⟨Nat.le_refl _, Nat.le_refl _⟩ (fun rv N h => h) h)

theorem vM_argue_4 {M : Mm} {b : Nat × Nat} {K : Int32 → Mm → Prop} {v0 : Nat} {v1 : Int32} {v2 : Int32} {v3 : Int32} {w0 : Int32}  
    (h : (w0 = 0 → (K (-1) M)) ∧ (¬ w0 = 0 → (CI mM_in [.long ((v2).toInt64), .long 0, .long 1] M (fun rv N => X mM_argue 14 [(0, .ref v0), (1, .int v1), (2, .int v2), (3, .int v3)] [.int rv] N b (QI K))))) : X mM_argue 4 [(0, .ref v0), (1, .int v1), (2, .int v2), (3, .int v3)] [.int w0] M b (QI K) := by
  refine x_wf (fun hw => ?_)
  obtain ⟨g1_0, g1_1⟩ := h
  refine x_if_eq (pc := 4) dM_argue_4 (t := 27) rfl (fun q1 => ?_) (fun q1 => ?_)
  · have h := g1_0 q1
    refine x_iconst (pc := 27) dM_argue_27 (v := (-1)) rfl ?_
    exact x_retQI (pc := 28) dM_argue_28 rfl rfl h
  · refine x_iload_n (pc := 7) dM_argue_7 rfl (q := 2) rfl ?_
    refine x_i2l (pc := 8) dM_argue_8 ?_
    refine x_lconst (pc := 9) dM_argue_9 (v := 0) rfl ?_
    refine x_lconst (pc := 10) dM_argue_10 (v := 1) rfl ?_
    have h := g1_1 q1
    exact x_invS (pc := 11) dM_argue_11 (S := []) (As := [.long ((v2).toInt64), .long 0, .long 1]) mlM_126 hM_in rfl ⟨by decide, by decide⟩ ⟨Nat.zero_le _, Nat.zero_le _⟩ rfl (Nat.le_of_ble_eq_true rfl) (aftI (b' := b) ⟨Nat.le_refl _, Nat.le_refl _⟩ (fun rv N h => h) h)

theorem vM_argue_14 {M : Mm} {b : Nat × Nat} {K : Int32 → Mm → Prop} {v0 : Nat} {v1 : Int32} {v2 : Int32} {v3 : Int32} {w0 : Int32}  
    (h : (w0 = 0 → (K (-1) M)) ∧ (¬ w0 = 0 → (CI mM_in [.long ((v3).toInt64), .long 0, .long 1] M (fun rv N => X mM_argue 24 [(0, .ref v0), (1, .int v1), (2, .int v2), (3, .int v3)] [.int rv] N b (QI K))))) : X mM_argue 14 [(0, .ref v0), (1, .int v1), (2, .int v2), (3, .int v3)] [.int w0] M b (QI K) := by
  refine x_wf (fun hw => ?_)
  obtain ⟨g1_0, g1_1⟩ := h
  refine x_if_eq (pc := 14) dM_argue_14 (t := 27) rfl (fun q1 => ?_) (fun q1 => ?_)
  · have h := g1_0 q1
    refine x_iconst (pc := 27) dM_argue_27 (v := (-1)) rfl ?_
    exact x_retQI (pc := 28) dM_argue_28 rfl rfl h
  · refine x_iload_n (pc := 17) dM_argue_17 rfl (q := 3) rfl ?_
    refine x_i2l (pc := 18) dM_argue_18 ?_
    refine x_lconst (pc := 19) dM_argue_19 (v := 0) rfl ?_
    refine x_lconst (pc := 20) dM_argue_20 (v := 1) rfl ?_
    have h := g1_1 q1
    exact x_invS (pc := 21) dM_argue_21 (S := []) (As := [.long ((v3).toInt64), .long 0, .long 1]) mlM_126 hM_in rfl ⟨by decide, by decide⟩ ⟨Nat.zero_le _, Nat.zero_le _⟩ rfl (Nat.le_of_ble_eq_true rfl) (aftI (b' := b) ⟨Nat.le_refl _, Nat.le_refl _⟩ (fun rv N h => h) h)

theorem vM_argue_24 {M : Mm} {b : Nat × Nat} {K : Int32 → Mm → Prop} {v0 : Nat} {v1 : Int32} {v2 : Int32} {v3 : Int32} {w0 : Int32} (kv0 : v0 % 64 = 11) 
    (h : (¬ w0 = 0 → (X mM_argue 42 [(0, .ref v0), (1, .int v1), (2, .int v2), (3, .int v3), (4, .int (gi M v0 9)), (5, .int (-4)), (6, .int 0)] [] M b (QI K))) ∧ (w0 = 0 → (K (-1) M))) : X mM_argue 24 [(0, .ref v0), (1, .int v1), (2, .int v2), (3, .int v3)] [.int w0] M b (QI K) := by
  refine x_wf (fun hw => ?_)
  obtain ⟨g1_0, g1_1⟩ := h
  refine x_if_ne (pc := 24) dM_argue_24 (t := 29) rfl (fun q1 => ?_) (fun q1 => ?_)
  · refine x_aload_n (pc := 29) dM_argue_29 rfl (q := 0) rfl ?_
    refine x_getI (pc := 30) dM_argue_30 kv0 flM_29 rfl ?_
    have h := g1_0 q1
    refine x_istore (pc := 33) dM_argue_33 (by decide) (L' := [(4, .int (gi M v0 9)), (0, .ref v0), (1, .int v1), (2, .int v2), (3, .int v3)]) rfl ?_
    refine x_bipush (pc := 35) dM_argue_35 (v := (-4)) rfl ?_
    refine x_istore (pc := 37) dM_argue_37 (by decide) (L' := [(5, .int (-4)), (4, .int (gi M v0 9)), (0, .ref v0), (1, .int v1), (2, .int v2), (3, .int v3)]) rfl ?_
    refine x_iconst (pc := 39) dM_argue_39 (v := 0) rfl ?_
    refine x_istore (pc := 40) dM_argue_40 (by decide) (L' := [(6, .int 0), (5, .int (-4)), (4, .int (gi M v0 9)), (0, .ref v0), (1, .int v1), (2, .int v2), (3, .int v3)]) rfl ?_
    exact x_loc [3, 4, 5, 6, 2, 1, 0] rfl h
  · have h := g1_1 q1
    refine x_iconst (pc := 27) dM_argue_27 (v := (-1)) rfl ?_
    exact x_retQI (pc := 28) dM_argue_28 rfl rfl h

theorem vM_argue_42 {M : Mm} {b : Nat × Nat} {K : Int32 → Mm → Prop} {v0 : Nat} {v1 : Int32} {v2 : Int32} {v3 : Int32} {v4 : Int32} {v5 : Int32} {v6 : Int32} (kv0 : v0 % 64 = 11) 
    (h : (256 ≤ v6 → (((¬ v5 = (-4) ∧ ¬ v3 = 0) → (K v5 (si M v0 9 v4))) ∧ ((¬ v5 = (-4) ∧ v3 = 0) → (CI mM_countOf [.int v5] (si M v0 9 v4) (fun rv N => X mM_argue 132 [] [.int rv] N b (QI K)))) ∧ (v5 = (-4) → (K (-4) (si M v0 9 v4))))) ∧ ((¬ 256 ≤ v6 ∧ v5 = (-4)) → (X mM_argue 70 [(0, .ref v0), (1, .int v1), (2, .int v2), (3, .int v3), (4, .int v4), (5, .int v5), (6, .int v6)] [] M b (QI K))) ∧ ((¬ 256 ≤ v6 ∧ ¬ v5 = (-4)) → (CI mM_countOf [.int v6] M (fun rv N => X mM_argue 62 [(0, .ref v0), (1, .int v1), (2, .int v2), (3, .int v3), (4, .int v4), (5, .int v5), (6, .int v6)] [.int rv] N b (QI K))))) : X mM_argue 42 [(0, .ref v0), (1, .int v1), (2, .int v2), (3, .int v3), (4, .int v4), (5, .int v5), (6, .int v6)] [] M b (QI K) := by
  refine x_wf (fun hw => ?_)
  refine x_iload (pc := 42) dM_argue_42 (q := 6) rfl ?_
  refine x_sipush (pc := 44) dM_argue_44 (v := 256) rfl ?_
  obtain ⟨g1_0, g1_1, g1_2⟩ := h
  refine x_icmp_ge (pc := 47) dM_argue_47 (t := 105) rfl (fun q1 => ?_) (fun q1 => ?_)
  · refine x_aload_n (pc := 105) dM_argue_105 rfl (q := 0) rfl ?_
    refine x_iload (pc := 106) dM_argue_106 (q := 4) rfl ?_
    have h := g1_0 q1
    refine x_putI (pc := 108) dM_argue_108 kv0 flM_29 rfl rfl ?_
    refine x_iload (pc := 111) dM_argue_111 (q := 5) rfl ?_
    refine x_bipush (pc := 113) dM_argue_113 (v := (-4)) rfl ?_
    obtain ⟨g2_0, g2_1, g2_2⟩ := h
    refine x_icmp_ne (pc := 115) dM_argue_115 (t := 123) rfl (fun q3 => ?_) (fun q3 => ?_)
    · refine x_iload_n (pc := 123) dM_argue_123 rfl (q := 3) rfl ?_
      refine x_if_ne (pc := 124) dM_argue_124 (t := 135) rfl (fun q4 => ?_) (fun q4 => ?_)
      · refine x_iload (pc := 135) dM_argue_135 (q := 5) rfl ?_
        have h := g2_0 ⟨q3, q4⟩
        exact x_retQI (pc := 137) dM_argue_137 rfl rfl h
      · refine x_iload (pc := 127) dM_argue_127 (q := 5) rfl ?_
        have h := g2_1 ⟨q3, q4⟩
        exact x_invS (pc := 129) dM_argue_129 (S := []) (As := [.int v5]) mlM_264 hM_countOf rfl ⟨by decide, by decide⟩ ⟨Nat.zero_le _, Nat.zero_le _⟩ rfl (Nat.le_of_ble_eq_true rfl) (aftI (b' := b) ⟨Nat.le_refl _, Nat.le_refl _⟩ (fun rv N h => x_loc [] rfl h) h)
    · refine x_bipush (pc := 118) dM_argue_118 (v := (-4)) rfl ?_
      refine x_goto (pc := 120) dM_argue_120 (t := 137) rfl ?_
      have h := g2_2 q3
      exact x_retQI (pc := 137) dM_argue_137 rfl rfl h
  · refine x_iload (pc := 50) dM_argue_50 (q := 5) rfl ?_
    refine x_bipush (pc := 52) dM_argue_52 (v := (-4)) rfl ?_
    refine x_icmp_eq (pc := 54) dM_argue_54 (t := 70) rfl (fun q2 => ?_) (fun q2 => ?_)
    · have h := g1_1 ⟨q1, q2⟩
      exact h
    · refine x_iload (pc := 57) dM_argue_57 (q := 6) rfl ?_
      have h := g1_2 ⟨q1, q2⟩
      exact x_invS (pc := 59) dM_argue_59 (S := []) (As := [.int v6]) mlM_264 hM_countOf rfl ⟨by decide, by decide⟩ ⟨Nat.zero_le _, Nat.zero_le _⟩ rfl (Nat.le_of_ble_eq_true rfl) (aftI (b' := b) ⟨Nat.le_refl _, Nat.le_refl _⟩ (fun rv N h => h) h)

theorem vM_argue_62 {M : Mm} {b : Nat × Nat} {K : Int32 → Mm → Prop} {v0 : Nat} {v1 : Int32} {v2 : Int32} {v3 : Int32} {v4 : Int32} {v5 : Int32} {v6 : Int32} {w0 : Int32}  
    (h : CI mM_countOf [.int v5] M (fun rv N => X mM_argue 67 [(0, .ref v0), (1, .int v1), (2, .int v2), (3, .int v3), (4, .int v4), (5, .int v5), (6, .int v6)] [.int rv, .int w0] N b (QI K))) : X mM_argue 62 [(0, .ref v0), (1, .int v1), (2, .int v2), (3, .int v3), (4, .int v4), (5, .int v5), (6, .int v6)] [.int w0] M b (QI K) := by
  refine x_wf (fun hw => ?_)
  refine x_iload (pc := 62) dM_argue_62 (q := 5) rfl ?_
  exact x_invS (pc := 64) dM_argue_64 (S := [.int w0]) (As := [.int v5]) mlM_264 hM_countOf rfl ⟨by decide, by decide⟩ ⟨Nat.zero_le _, Nat.zero_le _⟩ rfl (Nat.le_of_ble_eq_true rfl) (aftI (b' := b) ⟨Nat.le_refl _, Nat.le_refl _⟩ (fun rv N h => h) h)

theorem vM_argue_67 {M : Mm} {b : Nat × Nat} {K : Int32 → Mm → Prop} {v0 : Nat} {v1 : Int32} {v2 : Int32} {v3 : Int32} {v4 : Int32} {v5 : Int32} {v6 : Int32} {w0 : Int32} {w1 : Int32}  
    (h : (w0 ≤ w1 → (X mM_argue 42 [(0, .ref v0), (1, .int v1), (2, .int v2), (3, .int v3), (4, .int v4), (5, .int v5), (6, .int (v6 + 1))] [] M b (QI K))) ∧ (¬ w0 ≤ w1 → (X mM_argue 70 [(0, .ref v0), (1, .int v1), (2, .int v2), (3, .int v3), (4, .int v4), (5, .int v5), (6, .int v6)] [] M b (QI K)))) : X mM_argue 67 [(0, .ref v0), (1, .int v1), (2, .int v2), (3, .int v3), (4, .int v4), (5, .int v5), (6, .int v6)] [.int w0, .int w1] M b (QI K) := by
  refine x_wf (fun hw => ?_)
  obtain ⟨g1_0, g1_1⟩ := h
  refine x_icmp_ge (pc := 67) dM_argue_67 (t := 99) rfl (fun q1 => ?_) (fun q1 => ?_)
  · have h := g1_0 q1
    refine x_iinc (pc := 99) dM_argue_99 (q := 6) rfl (v := v6 + 1) rfl (by decide) (L' := [(6, .int (v6 + 1)), (0, .ref v0), (1, .int v1), (2, .int v2), (3, .int v3), (4, .int v4), (5, .int v5)]) rfl ?_
    refine x_goto (pc := 102) dM_argue_102 (t := 42) rfl ?_
    exact x_loc [1, 2, 3, 4, 5, 6, 0] rfl h
  · have h := g1_1 q1
    exact h

theorem vM_argue_70 {M : Mm} {b : Nat × Nat} {K : Int32 → Mm → Prop} {v0 : Nat} {v1 : Int32} {v2 : Int32} {v3 : Int32} {v4 : Int32} {v5 : Int32} {v6 : Int32} (kv0 : v0 % 64 = 11) 
    (h : CV mM_findAll [.ref v0] (si M v0 9 v6) (fun N => X mM_argue 80 [(0, .ref v0), (1, .int v1), (2, .int v2), (3, .int v3), (4, .int v4), (5, .int v5), (6, .int v6)] [] N b (QI K))) : X mM_argue 70 [(0, .ref v0), (1, .int v1), (2, .int v2), (3, .int v3), (4, .int v4), (5, .int v5), (6, .int v6)] [] M b (QI K) := by
  refine x_wf (fun hw => ?_)
  refine x_aload_n (pc := 70) dM_argue_70 rfl (q := 0) rfl ?_
  refine x_iload (pc := 71) dM_argue_71 (q := 6) rfl ?_
  refine x_putI (pc := 73) dM_argue_73 kv0 flM_29 rfl rfl ?_
  refine x_aload_n (pc := 76) dM_argue_76 rfl (q := 0) rfl ?_
  exact x_invV (pc := 77) dM_argue_77 (c := 11) (S := []) (As := []) mlM_319 hM_findAll rfl (by decide) rfl kv0 ⟨by decide, by decide⟩ ⟨Nat.zero_le _, Nat.zero_le _⟩ rfl (Nat.le_of_ble_eq_true rfl) (aftV (b' := b) ⟨Nat.le_refl _, Nat.le_refl _⟩ (fun N h => h) h)

theorem vM_argue_80 {M : Mm} {b : Nat × Nat} {K : Int32 → Mm → Prop} {v0 : Nat} {v1 : Int32} {v2 : Int32} {v3 : Int32} {v4 : Int32} {v5 : Int32} {v6 : Int32} {r1 : Nat} (kv0 : v0 % 64 = 11) (e1 : gr M v0 30 = some r1)
    (h : vp_in v1 64 ∧ (X mM_argue 42 [(0, .ref v0), (1, .int v1), (2, .int v2), (3, .int v3), (4, .int v4), (5, .int (if (gi M r1 (v1).toNatClampNeg) = v2 then v6 else v5 : Int32)), (6, .int (v6 + 1))] [] M b (QI K))) : X mM_argue 80 [(0, .ref v0), (1, .int v1), (2, .int v2), (3, .int v3), (4, .int v4), (5, .int v5), (6, .int v6)] [] M b (QI K) := by
  refine x_wf (fun hw => ?_)
  refine x_aload_n (pc := 80) dM_argue_80 rfl (q := 0) rfl ?_
  refine x_getR (pc := 81) dM_argue_81 kv0 flM_67 rfl e1 ?_
  refine x_iload_n (pc := 84) dM_argue_84 rfl (q := 1) rfl ?_
  obtain ⟨s501, h⟩ := h
  refine x_aldIj (pc := 85) (j := (v1).toNatClampNeg) (Or.inl ⟨rfl, rfl⟩) dM_argue_85 (wfk hw e1 kv0) ak_14 rfl s501 ?_
  refine x_iload_n (pc := 86) dM_argue_86 rfl (q := 2) rfl ?_
  suffices hJ : X mM_argue 97 [(0, .ref v0), (1, .int v1), (2, .int v2), (3, .int v3), (4, .int v4), (5, .int v5), (6, .int v6)] [.int (if (gi M r1 (v1).toNatClampNeg) = v2 then v6 else v5 : Int32)] M b (QI K) by
    refine x_icmp_ne (pc := 87) dM_argue_87 (t := 95) rfl (fun q1 => ?_) (fun q1 => ?_)
    · refine x_iload (pc := 95) dM_argue_95 (q := 5) rfl ?_
      first | (rw [if_neg q1] at hJ; exact hJ) | (simp only [if_neg q1] at hJ ⊢; exact hJ)
    · refine x_iload (pc := 90) dM_argue_90 (q := 6) rfl ?_
      refine x_goto (pc := 92) dM_argue_92 (t := 97) rfl ?_
      first | (rw [if_pos q1] at hJ; exact hJ) | (simp only [if_pos q1] at hJ ⊢; exact hJ)
  refine x_istore (pc := 97) dM_argue_97 (by decide) (L' := [(5, .int (if (gi M r1 (v1).toNatClampNeg) = v2 then v6 else v5 : Int32)), (0, .ref v0), (1, .int v1), (2, .int v2), (3, .int v3), (4, .int v4), (6, .int v6)]) rfl ?_
  refine x_iinc (pc := 99) dM_argue_99 (q := 6) rfl (v := v6 + 1) rfl (by decide) (L' := [(6, .int (v6 + 1)), (5, .int (if (gi M r1 (v1).toNatClampNeg) = v2 then v6 else v5 : Int32)), (0, .ref v0), (1, .int v1), (2, .int v2), (3, .int v3), (4, .int v4)]) rfl ?_
  refine x_goto (pc := 102) dM_argue_102 (t := 42) rfl ?_
  exact x_loc [2, 3, 4, 5, 6, 1, 0] rfl h

theorem vM_argue_132 {M : Mm} {b : Nat × Nat} {K : Int32 → Mm → Prop} {w0 : Int32}  
    (h : K w0 M) : X mM_argue 132 [] [.int w0] M b (QI K) := by
  refine x_wf (fun hw => ?_)
  refine x_goto (pc := 132) dM_argue_132 (t := 137) rfl ?_
  exact x_retQI (pc := 137) dM_argue_137 rfl rfl h

theorem dM_game_0 : decode (mB mM_game) 0 = .ok (.iload_n 1, 1) := op27 (by decide +kernel)
theorem dM_game_1 : decode (mB mM_game) 1 = .ok (.invokestatic 275, 3) := op184 1 19 (by decide +kernel)
theorem dM_game_4 : decode (mB mM_game) 4 = .ok (.ifCond .eq 23, 3) := op153 0 23 (by decide +kernel)
theorem dM_game_7 : decode (mB mM_game) 7 = .ok (.iload_n 2, 1) := op28 (by decide +kernel)
theorem dM_game_8 : decode (mB mM_game) 8 = .ok (.i2l, 1) := op133 (by decide +kernel)
theorem dM_game_9 : decode (mB mM_game) 9 = .ok (.lconst 0, 1) := op9 (by decide +kernel)
theorem dM_game_10 : decode (mB mM_game) 10 = .ok (.lconst 1, 1) := op10 (by decide +kernel)
theorem dM_game_11 : decode (mB mM_game) 11 = .ok (.invokestatic 126, 3) := op184 0 126 (by decide +kernel)
theorem dM_game_14 : decode (mB mM_game) 14 = .ok (.ifCond .eq 13, 3) := op153 0 13 (by decide +kernel)
theorem dM_game_17 : decode (mB mM_game) 17 = .ok (.iload_n 3, 1) := op29 (by decide +kernel)
theorem dM_game_18 : decode (mB mM_game) 18 = .ok (.i2l, 1) := op133 (by decide +kernel)
theorem dM_game_19 : decode (mB mM_game) 19 = .ok (.lconst 0, 1) := op9 (by decide +kernel)
theorem dM_game_20 : decode (mB mM_game) 20 = .ok (.lconst 1, 1) := op10 (by decide +kernel)
theorem dM_game_21 : decode (mB mM_game) 21 = .ok (.invokestatic 126, 3) := op184 0 126 (by decide +kernel)
theorem dM_game_24 : decode (mB mM_game) 24 = .ok (.ifCond .ne 5, 3) := op154 0 5 (by decide +kernel)
theorem dM_game_27 : decode (mB mM_game) 27 = .ok (.iconst (-1), 1) := op2 (by decide +kernel)
theorem dM_game_28 : decode (mB mM_game) 28 = .ok (.ireturn, 1) := op172 (by decide +kernel)
theorem dM_game_29 : decode (mB mM_game) 29 = .ok (.aload_n 0, 1) := op42 (by decide +kernel)
theorem dM_game_30 : decode (mB mM_game) 30 = .ok (.iload_n 1, 1) := op27 (by decide +kernel)
theorem dM_game_31 : decode (mB mM_game) 31 = .ok (.invokevirtual 348, 3) := op182 1 92 (by decide +kernel)
theorem dM_game_34 : decode (mB mM_game) 34 = .ok (.aload_n 0, 1) := op42 (by decide +kernel)
theorem dM_game_35 : decode (mB mM_game) 35 = .ok (.iconst 0, 1) := op3 (by decide +kernel)
theorem dM_game_36 : decode (mB mM_game) 36 = .ok (.iload_n 2, 1) := op28 (by decide +kernel)
theorem dM_game_37 : decode (mB mM_game) 37 = .ok (.aload_n 0, 1) := op42 (by decide +kernel)
theorem dM_game_38 : decode (mB mM_game) 38 = .ok (.getfield 85, 3) := op180 0 85 (by decide +kernel)
theorem dM_game_41 : decode (mB mM_game) 41 = .ok (.iconst 2, 1) := op5 (by decide +kernel)
theorem dM_game_42 : decode (mB mM_game) 42 = .ok (.iconst 1, 1) := op4 (by decide +kernel)
theorem dM_game_43 : decode (mB mM_game) 43 = .ok (.iload_n 2, 1) := op28 (by decide +kernel)
theorem dM_game_44 : decode (mB mM_game) 44 = .ok (.isub, 1) := op100 (by decide +kernel)
theorem dM_game_45 : decode (mB mM_game) 45 = .ok (.imul, 1) := op104 (by decide +kernel)
theorem dM_game_46 : decode (mB mM_game) 46 = .ok (.iconst 1, 1) := op4 (by decide +kernel)
theorem dM_game_47 : decode (mB mM_game) 47 = .ok (.iadd, 1) := op96 (by decide +kernel)
theorem dM_game_48 : decode (mB mM_game) 48 = .ok (.iaload, 1) := op46 (by decide +kernel)
theorem dM_game_49 : decode (mB mM_game) 49 = .ok (.invokevirtual 344, 3) := op182 1 88 (by decide +kernel)
theorem dM_game_52 : decode (mB mM_game) 52 = .ok (.istore 4, 2) := op54 4 (by decide +kernel)
theorem dM_game_54 : decode (mB mM_game) 54 = .ok (.iload_n 3, 1) := op29 (by decide +kernel)
theorem dM_game_55 : decode (mB mM_game) 55 = .ok (.iconst 1, 1) := op4 (by decide +kernel)
theorem dM_game_56 : decode (mB mM_game) 56 = .ok (.if_icmp .ne 10, 3) := op160 0 10 (by decide +kernel)
theorem dM_game_59 : decode (mB mM_game) 59 = .ok (.aload_n 0, 1) := op42 (by decide +kernel)
theorem dM_game_60 : decode (mB mM_game) 60 = .ok (.getfield 341, 3) := op180 1 85 (by decide +kernel)
theorem dM_game_63 : decode (mB mM_game) 63 = .ok (.goto 25, 3) := op167 0 25 (by decide +kernel)
theorem dM_game_66 : decode (mB mM_game) 66 = .ok (.iload 4, 2) := op21 4 (by decide +kernel)
theorem dM_game_68 : decode (mB mM_game) 68 = .ok (.iconst 1, 1) := op4 (by decide +kernel)
theorem dM_game_69 : decode (mB mM_game) 69 = .ok (.if_icmp .ne 7, 3) := op160 0 7 (by decide +kernel)
theorem dM_game_72 : decode (mB mM_game) 72 = .ok (.iconst 1, 1) := op4 (by decide +kernel)
theorem dM_game_73 : decode (mB mM_game) 73 = .ok (.goto 15, 3) := op167 0 15 (by decide +kernel)
theorem dM_game_76 : decode (mB mM_game) 76 = .ok (.iload 4, 2) := op21 4 (by decide +kernel)
theorem dM_game_78 : decode (mB mM_game) 78 = .ok (.iconst (-1), 1) := op2 (by decide +kernel)
theorem dM_game_79 : decode (mB mM_game) 79 = .ok (.if_icmp .ne 7, 3) := op160 0 7 (by decide +kernel)
theorem dM_game_82 : decode (mB mM_game) 82 = .ok (.iconst 0, 1) := op3 (by decide +kernel)
theorem dM_game_83 : decode (mB mM_game) 83 = .ok (.goto 5, 3) := op167 0 5 (by decide +kernel)
theorem dM_game_86 : decode (mB mM_game) 86 = .ok (.bipush (-4), 2) := op16 252 (by decide +kernel)
theorem dM_game_88 : decode (mB mM_game) 88 = .ok (.ireturn, 1) := op172 (by decide +kernel)

theorem vM_game_0 {M : Mm} {b : Nat × Nat} {K : Int32 → Mm → Prop} {v0 : Nat} {v1 : Int32} {v2 : Int32} {v3 : Int32}  
    (h : CI mM_isCase [.int v1] M (fun rv N => X mM_game 4 [(0, .ref v0), (1, .int v1), (2, .int v2), (3, .int v3)] [.int rv] N b (QI K))) : X mM_game 0 [(0, .ref v0), (1, .int v1), (2, .int v2), (3, .int v3)] [] M b (QI K) := by
  refine x_wf (fun hw => ?_)
  refine x_iload_n (pc := 0) dM_game_0 rfl (q := 1) rfl ?_
  exact x_invS (pc := 1) dM_game_1 (S := []) (As := [.int v1]) mlM_275 hM_isCase rfl ⟨by decide, by decide⟩ ⟨Nat.zero_le _, Nat.zero_le _⟩ rfl (Nat.le_of_ble_eq_true rfl) (aftI (b' := b) ⟨Nat.le_refl _, Nat.le_refl _⟩ (fun rv N h => h) h)

theorem vM_game_4 {M : Mm} {b : Nat × Nat} {K : Int32 → Mm → Prop} {v0 : Nat} {v1 : Int32} {v2 : Int32} {v3 : Int32} {w0 : Int32}  
    (h : (w0 = 0 → (K (-1) M)) ∧ (¬ w0 = 0 → (CI mM_in [.long ((v2).toInt64), .long 0, .long 1] M (fun rv N => X mM_game 14 [(0, .ref v0), (1, .int v1), (2, .int v2), (3, .int v3)] [.int rv] N b (QI K))))) : X mM_game 4 [(0, .ref v0), (1, .int v1), (2, .int v2), (3, .int v3)] [.int w0] M b (QI K) := by
  refine x_wf (fun hw => ?_)
  obtain ⟨g1_0, g1_1⟩ := h
  refine x_if_eq (pc := 4) dM_game_4 (t := 27) rfl (fun q1 => ?_) (fun q1 => ?_)
  · have h := g1_0 q1
    refine x_iconst (pc := 27) dM_game_27 (v := (-1)) rfl ?_
    exact x_retQI (pc := 28) dM_game_28 rfl rfl h
  · refine x_iload_n (pc := 7) dM_game_7 rfl (q := 2) rfl ?_
    refine x_i2l (pc := 8) dM_game_8 ?_
    refine x_lconst (pc := 9) dM_game_9 (v := 0) rfl ?_
    refine x_lconst (pc := 10) dM_game_10 (v := 1) rfl ?_
    have h := g1_1 q1
    exact x_invS (pc := 11) dM_game_11 (S := []) (As := [.long ((v2).toInt64), .long 0, .long 1]) mlM_126 hM_in rfl ⟨by decide, by decide⟩ ⟨Nat.zero_le _, Nat.zero_le _⟩ rfl (Nat.le_of_ble_eq_true rfl) (aftI (b' := b) ⟨Nat.le_refl _, Nat.le_refl _⟩ (fun rv N h => h) h)

theorem vM_game_14 {M : Mm} {b : Nat × Nat} {K : Int32 → Mm → Prop} {v0 : Nat} {v1 : Int32} {v2 : Int32} {v3 : Int32} {w0 : Int32}  
    (h : (w0 = 0 → (K (-1) M)) ∧ (¬ w0 = 0 → (CI mM_in [.long ((v3).toInt64), .long 0, .long 1] M (fun rv N => X mM_game 24 [(0, .ref v0), (1, .int v1), (2, .int v2), (3, .int v3)] [.int rv] N b (QI K))))) : X mM_game 14 [(0, .ref v0), (1, .int v1), (2, .int v2), (3, .int v3)] [.int w0] M b (QI K) := by
  refine x_wf (fun hw => ?_)
  obtain ⟨g1_0, g1_1⟩ := h
  refine x_if_eq (pc := 14) dM_game_14 (t := 27) rfl (fun q1 => ?_) (fun q1 => ?_)
  · have h := g1_0 q1
    refine x_iconst (pc := 27) dM_game_27 (v := (-1)) rfl ?_
    exact x_retQI (pc := 28) dM_game_28 rfl rfl h
  · refine x_iload_n (pc := 17) dM_game_17 rfl (q := 3) rfl ?_
    refine x_i2l (pc := 18) dM_game_18 ?_
    refine x_lconst (pc := 19) dM_game_19 (v := 0) rfl ?_
    refine x_lconst (pc := 20) dM_game_20 (v := 1) rfl ?_
    have h := g1_1 q1
    exact x_invS (pc := 21) dM_game_21 (S := []) (As := [.long ((v3).toInt64), .long 0, .long 1]) mlM_126 hM_in rfl ⟨by decide, by decide⟩ ⟨Nat.zero_le _, Nat.zero_le _⟩ rfl (Nat.le_of_ble_eq_true rfl) (aftI (b' := b) ⟨Nat.le_refl _, Nat.le_refl _⟩ (fun rv N h => h) h)

theorem vM_game_24 {M : Mm} {b : Nat × Nat} {K : Int32 → Mm → Prop} {v0 : Nat} {v1 : Int32} {v2 : Int32} {v3 : Int32} {w0 : Int32} (kv0 : v0 % 64 = 11) 
    (h : (¬ w0 = 0 → (CV mM_findGame [.ref v0, .int v1] M (fun N => X mM_game 34 [(0, .ref v0), (2, .int v2), (3, .int v3)] [] N b (QI K)))) ∧ (w0 = 0 → (K (-1) M))) : X mM_game 24 [(0, .ref v0), (1, .int v1), (2, .int v2), (3, .int v3)] [.int w0] M b (QI K) := by
  refine x_wf (fun hw => ?_)
  obtain ⟨g1_0, g1_1⟩ := h
  refine x_if_ne (pc := 24) dM_game_24 (t := 29) rfl (fun q1 => ?_) (fun q1 => ?_)
  · refine x_aload_n (pc := 29) dM_game_29 rfl (q := 0) rfl ?_
    refine x_iload_n (pc := 30) dM_game_30 rfl (q := 1) rfl ?_
    have h := g1_0 q1
    exact x_invV (pc := 31) dM_game_31 (c := 11) (S := []) (As := [.int v1]) mlM_348 hM_findGame rfl (by decide) rfl kv0 ⟨by decide, by decide⟩ ⟨Nat.zero_le _, Nat.zero_le _⟩ rfl (Nat.le_of_ble_eq_true rfl) (aftV (b' := b) ⟨Nat.le_refl _, Nat.le_refl _⟩ (fun N h => x_loc [0, 2, 3] rfl h) h)
  · have h := g1_1 q1
    refine x_iconst (pc := 27) dM_game_27 (v := (-1)) rfl ?_
    exact x_retQI (pc := 28) dM_game_28 rfl rfl h

theorem vM_game_34 {M : Mm} {b : Nat × Nat} {K : Int32 → Mm → Prop} {v0 : Nat} {v2 : Int32} {v3 : Int32} {r1 : Nat} (kv0 : v0 % 64 = 11) (e1 : gr M v0 38 = some r1)
    (h : vp_in ((2 * (1 - v2)) + 1) 256 ∧ (CI mM_bestTurn [.ref v0, .int 0, .int v2, .int (gi M r1 ((2 * (1 - v2)) + 1).toNatClampNeg)] M (fun rv N => X mM_game 52 [(0, .ref v0), (3, .int v3)] [.int rv] N b (QI K)))) : X mM_game 34 [(0, .ref v0), (2, .int v2), (3, .int v3)] [] M b (QI K) := by
  refine x_wf (fun hw => ?_)
  refine x_aload_n (pc := 34) dM_game_34 rfl (q := 0) rfl ?_
  refine x_iconst (pc := 35) dM_game_35 (v := 0) rfl ?_
  refine x_iload_n (pc := 36) dM_game_36 rfl (q := 1) rfl ?_
  refine x_aload_n (pc := 37) dM_game_37 rfl (q := 0) rfl ?_
  refine x_getR (pc := 38) dM_game_38 kv0 flM_85 rfl e1 ?_
  refine x_iconst (pc := 41) dM_game_41 (v := 2) rfl ?_
  refine x_iconst (pc := 42) dM_game_42 (v := 1) rfl ?_
  refine x_iload_n (pc := 43) dM_game_43 rfl (q := 1) rfl ?_
  refine x_isub (pc := 44) dM_game_44 ?_
  refine x_imul (pc := 45) dM_game_45 ?_
  refine x_iconst (pc := 46) dM_game_46 (v := 1) rfl ?_
  refine x_iadd (pc := 47) dM_game_47 ?_
  obtain ⟨s501, h⟩ := h
  refine x_aldIj (pc := 48) (j := ((2 * (1 - v2)) + 1).toNatClampNeg) (Or.inl ⟨rfl, rfl⟩) dM_game_48 (wfk hw e1 kv0) ak_30 rfl s501 ?_
  exact x_invV (pc := 49) dM_game_49 (c := 11) (S := []) (As := [.int 0, .int v2, .int (gi M r1 ((2 * (1 - v2)) + 1).toNatClampNeg)]) mlM_344 hM_bestTurn rfl (by decide) rfl kv0 ⟨by decide, by decide⟩ ⟨Nat.zero_le _, Nat.zero_le _⟩ rfl (Nat.le_of_ble_eq_true rfl) (aftI (b' := b) ⟨Nat.le_refl _, Nat.le_refl _⟩ (fun rv N h => x_loc [0, 2] rfl h) h)

theorem vM_game_52 {M : Mm} {b : Nat × Nat} {K : Int32 → Mm → Prop} {v0 : Nat} {v3 : Int32} {w0 : Int32} (kv0 : v0 % 64 = 11) 
    (h : K (if v3 = 1 then (gi M v0 39) else (if w0 = 1 then 1 else (if w0 = (-1) then 0 else (-4) : Int32) : Int32) : Int32) M) : X mM_game 52 [(0, .ref v0), (3, .int v3)] [.int w0] M b (QI K) := by
  refine x_wf (fun hw => ?_)
  refine x_istore (pc := 52) dM_game_52 (by decide) (L' := [(4, .int w0), (0, .ref v0), (3, .int v3)]) rfl ?_
  refine x_iload_n (pc := 54) dM_game_54 rfl (q := 2) rfl ?_
  refine x_iconst (pc := 55) dM_game_55 (v := 1) rfl ?_
  suffices hJ : X mM_game 88 [(4, .int w0), (0, .ref v0), (3, .int v3)] [.int (if v3 = 1 then (gi M v0 39) else (if w0 = 1 then 1 else (if w0 = (-1) then 0 else (-4) : Int32) : Int32) : Int32)] M b (QI K) by
    refine x_icmp_ne (pc := 56) dM_game_56 (t := 66) rfl (fun q1 => ?_) (fun q1 => ?_)
    · refine x_iload (pc := 66) dM_game_66 (q := 0) rfl ?_
      refine x_iconst (pc := 68) dM_game_68 (v := 1) rfl ?_
      refine x_icmp_ne (pc := 69) dM_game_69 (t := 76) rfl (fun q2 => ?_) (fun q2 => ?_)
      · refine x_iload (pc := 76) dM_game_76 (q := 0) rfl ?_
        refine x_iconst (pc := 78) dM_game_78 (v := (-1)) rfl ?_
        refine x_icmp_ne (pc := 79) dM_game_79 (t := 86) rfl (fun q3 => ?_) (fun q3 => ?_)
        · refine x_bipush (pc := 86) dM_game_86 (v := (-4)) rfl ?_
          first | (rw [if_neg q1, if_neg q2, if_neg q3] at hJ; exact hJ) | (simp only [if_neg q1, if_neg q2, if_neg q3] at hJ ⊢; exact hJ)
        · refine x_iconst (pc := 82) dM_game_82 (v := 0) rfl ?_
          refine x_goto (pc := 83) dM_game_83 (t := 88) rfl ?_
          first | (rw [if_neg q1, if_neg q2, if_pos q3] at hJ; exact hJ) | (simp only [if_neg q1, if_neg q2, if_pos q3] at hJ ⊢; exact hJ)
      · refine x_iconst (pc := 72) dM_game_72 (v := 1) rfl ?_
        refine x_goto (pc := 73) dM_game_73 (t := 88) rfl ?_
        first | (rw [if_neg q1, if_pos q2] at hJ; exact hJ) | (simp only [if_neg q1, if_pos q2] at hJ ⊢; exact hJ)
    · refine x_aload_n (pc := 59) dM_game_59 rfl (q := 1) rfl ?_
      refine x_getI (pc := 60) dM_game_60 kv0 flM_341 rfl ?_
      refine x_goto (pc := 63) dM_game_63 (t := 88) rfl ?_
      first | (rw [if_pos q1] at hJ; exact hJ) | (simp only [if_pos q1] at hJ ⊢; exact hJ)
  exact x_retQI (pc := 88) dM_game_88 rfl rfl h

