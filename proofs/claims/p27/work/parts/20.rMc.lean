theorem dM_rule_0 : decode (mB mM_rule) 0 = .ok (.iconst 0, 1) := op3 (by decide +kernel)
theorem dM_rule_1 : decode (mB mM_rule) 1 = .ok (.istore_n 1, 1) := op60 (by decide +kernel)
theorem dM_rule_2 : decode (mB mM_rule) 2 = .ok (.aload_n 0, 1) := op42 (by decide +kernel)
theorem dM_rule_3 : decode (mB mM_rule) 3 = .ok (.iconst 0, 1) := op3 (by decide +kernel)
theorem dM_rule_4 : decode (mB mM_rule) 4 = .ok (.putfield 130, 3) := op181 0 130 (by decide +kernel)
theorem dM_rule_7 : decode (mB mM_rule) 7 = .ok (.aload_n 0, 1) := op42 (by decide +kernel)
theorem dM_rule_8 : decode (mB mM_rule) 8 = .ok (.iconst 0, 1) := op3 (by decide +kernel)
theorem dM_rule_9 : decode (mB mM_rule) 9 = .ok (.putfield 139, 3) := op181 0 139 (by decide +kernel)
theorem dM_rule_12 : decode (mB mM_rule) 12 = .ok (.aload_n 0, 1) := op42 (by decide +kernel)
theorem dM_rule_13 : decode (mB mM_rule) 13 = .ok (.invokevirtual 103, 3) := op182 0 103 (by decide +kernel)
theorem dM_rule_16 : decode (mB mM_rule) 16 = .ok (.aload_n 0, 1) := op42 (by decide +kernel)
theorem dM_rule_17 : decode (mB mM_rule) 17 = .ok (.invokevirtual 180, 3) := op182 0 180 (by decide +kernel)
theorem dM_rule_20 : decode (mB mM_rule) 20 = .ok (.aload_n 0, 1) := op42 (by decide +kernel)
theorem dM_rule_21 : decode (mB mM_rule) 21 = .ok (.getfield 130, 3) := op180 0 130 (by decide +kernel)
theorem dM_rule_24 : decode (mB mM_rule) 24 = .ok (.ifCond .ne 20, 3) := op154 0 20 (by decide +kernel)
theorem dM_rule_27 : decode (mB mM_rule) 27 = .ok (.aload_n 0, 1) := op42 (by decide +kernel)
theorem dM_rule_28 : decode (mB mM_rule) 28 = .ok (.getfield 158, 3) := op180 0 158 (by decide +kernel)
theorem dM_rule_31 : decode (mB mM_rule) 31 = .ok (.ifCond .eq 13, 3) := op153 0 13 (by decide +kernel)
theorem dM_rule_34 : decode (mB mM_rule) 34 = .ok (.aload_n 0, 1) := op42 (by decide +kernel)
theorem dM_rule_35 : decode (mB mM_rule) 35 = .ok (.invokevirtual 234, 3) := op182 0 234 (by decide +kernel)
theorem dM_rule_38 : decode (mB mM_rule) 38 = .ok (.iinc 1 1, 3) := op132 1 1 (by decide +kernel)
theorem dM_rule_41 : decode (mB mM_rule) 41 = .ok (.goto (-21), 3) := op167 255 235 (by decide +kernel)
theorem dM_rule_44 : decode (mB mM_rule) 44 = .ok (.aload_n 0, 1) := op42 (by decide +kernel)
theorem dM_rule_45 : decode (mB mM_rule) 45 = .ok (.iconst 0, 1) := op3 (by decide +kernel)
theorem dM_rule_46 : decode (mB mM_rule) 46 = .ok (.putfield 121, 3) := op181 0 121 (by decide +kernel)
theorem dM_rule_49 : decode (mB mM_rule) 49 = .ok (.aload_n 0, 1) := op42 (by decide +kernel)
theorem dM_rule_50 : decode (mB mM_rule) 50 = .ok (.getfield 130, 3) := op180 0 130 (by decide +kernel)
theorem dM_rule_53 : decode (mB mM_rule) 53 = .ok (.ifCond .le 11, 3) := op158 0 11 (by decide +kernel)
theorem dM_rule_56 : decode (mB mM_rule) 56 = .ok (.bipush (-10), 2) := op16 246 (by decide +kernel)
theorem dM_rule_58 : decode (mB mM_rule) 58 = .ok (.aload_n 0, 1) := op42 (by decide +kernel)
theorem dM_rule_59 : decode (mB mM_rule) 59 = .ok (.getfield 136, 3) := op180 0 136 (by decide +kernel)
theorem dM_rule_62 : decode (mB mM_rule) 62 = .ok (.isub, 1) := op100 (by decide +kernel)
theorem dM_rule_63 : decode (mB mM_rule) 63 = .ok (.ireturn, 1) := op172 (by decide +kernel)
theorem dM_rule_64 : decode (mB mM_rule) 64 = .ok (.iconst 0, 1) := op3 (by decide +kernel)
theorem dM_rule_65 : decode (mB mM_rule) 65 = .ok (.istore_n 2, 1) := op61 (by decide +kernel)
theorem dM_rule_66 : decode (mB mM_rule) 66 = .ok (.iload_n 2, 1) := op28 (by decide +kernel)
theorem dM_rule_67 : decode (mB mM_rule) 67 = .ok (.bipush 7, 2) := op16 7 (by decide +kernel)
theorem dM_rule_69 : decode (mB mM_rule) 69 = .ok (.if_icmp .ge 21, 3) := op162 0 21 (by decide +kernel)
theorem dM_rule_72 : decode (mB mM_rule) 72 = .ok (.aload_n 0, 1) := op42 (by decide +kernel)
theorem dM_rule_73 : decode (mB mM_rule) 73 = .ok (.getfield 36, 3) := op180 0 36 (by decide +kernel)
theorem dM_rule_76 : decode (mB mM_rule) 76 = .ok (.iload_n 2, 1) := op28 (by decide +kernel)
theorem dM_rule_77 : decode (mB mM_rule) 77 = .ok (.aload_n 0, 1) := op42 (by decide +kernel)
theorem dM_rule_78 : decode (mB mM_rule) 78 = .ok (.getfield 42, 3) := op180 0 42 (by decide +kernel)
theorem dM_rule_81 : decode (mB mM_rule) 81 = .ok (.iload_n 2, 1) := op28 (by decide +kernel)
theorem dM_rule_82 : decode (mB mM_rule) 82 = .ok (.iaload, 1) := op46 (by decide +kernel)
theorem dM_rule_83 : decode (mB mM_rule) 83 = .ok (.iastore, 1) := op79 (by decide +kernel)
theorem dM_rule_84 : decode (mB mM_rule) 84 = .ok (.iinc 2 1, 3) := op132 2 1 (by decide +kernel)
theorem dM_rule_87 : decode (mB mM_rule) 87 = .ok (.goto (-21), 3) := op167 255 235 (by decide +kernel)
theorem dM_rule_90 : decode (mB mM_rule) 90 = .ok (.iload_n 1, 1) := op27 (by decide +kernel)
theorem dM_rule_91 : decode (mB mM_rule) 91 = .ok (.ireturn, 1) := op172 (by decide +kernel)

theorem vM_rule_0 {M : Mm} {b : Nat × Nat} {K : Int32 → Mm → Prop} {v0 : Nat} (kv0 : v0 % 64 = 11) 
    (h : CV mM_firstRule [.ref v0] (si (si M v0 16 0) v0 12 0) (fun N => X mM_rule 16 [(0, .ref v0), (1, .int 0)] [] N b (QI K))) : X mM_rule 0 [(0, .ref v0)] [] M b (QI K) := by
  refine x_wf (fun hw => ?_)
  refine x_iconst (pc := 0) dM_rule_0 (v := 0) rfl ?_
  refine x_istore_n (pc := 1) dM_rule_1 rfl (by decide) (L' := [(1, .int 0), (0, .ref v0)]) rfl ?_
  refine x_aload_n (pc := 2) dM_rule_2 rfl (q := 1) rfl ?_
  refine x_iconst (pc := 3) dM_rule_3 (v := 0) rfl ?_
  refine x_putI (pc := 4) dM_rule_4 kv0 flM_130 rfl rfl ?_
  refine x_aload_n (pc := 7) dM_rule_7 rfl (q := 1) rfl ?_
  refine x_iconst (pc := 8) dM_rule_8 (v := 0) rfl ?_
  refine x_putI (pc := 9) dM_rule_9 kv0 flM_139 rfl rfl ?_
  refine x_aload_n (pc := 12) dM_rule_12 rfl (q := 1) rfl ?_
  exact x_invV (pc := 13) dM_rule_13 (c := 11) (S := []) (As := []) mlM_103 hM_firstRule rfl (by decide) rfl kv0 ⟨by decide, by decide⟩ ⟨Nat.zero_le _, Nat.zero_le _⟩ rfl (Nat.le_of_ble_eq_true rfl) (aftV (b' := b) ⟨Nat.le_refl _, Nat.le_refl _⟩ (fun N h => x_loc [1, 0] rfl h) h)

theorem vM_rule_16 {M : Mm} {b : Nat × Nat} {K : Int32 → Mm → Prop} {v0 : Nat} {v1 : Int32} (kv0 : v0 % 64 = 11) 
    (h : CV mM_next [.ref v0] M (fun N => X mM_rule 20 [(0, .ref v0), (1, .int v1)] [] N b (QI K))) : X mM_rule 16 [(0, .ref v0), (1, .int v1)] [] M b (QI K) := by
  refine x_wf (fun hw => ?_)
  refine x_aload_n (pc := 16) dM_rule_16 rfl (q := 0) rfl ?_
  exact x_invV (pc := 17) dM_rule_17 (c := 11) (S := []) (As := []) mlM_180 hM_next rfl (by decide) rfl kv0 ⟨by decide, by decide⟩ ⟨Nat.zero_le _, Nat.zero_le _⟩ rfl (Nat.le_of_ble_eq_true rfl) (aftV (b' := b) ⟨Nat.le_refl _, Nat.le_refl _⟩ (fun N h => h) h)

theorem vM_rule_20 {M : Mm} {b : Nat × Nat} {K : Int32 → Mm → Prop} {v0 : Nat} {v1 : Int32} (kv0 : v0 % 64 = 11) 
    (h : (((¬ (gi M v0 16) = 0) ∨ ((gi M v0 16) = 0 ∧ (gi M v0 14) = 0)) → (((gi (si M v0 11 0) v0 16) ≤ 0 → (X mM_rule 66 [(0, .ref v0), (1, .int v1), (2, .int 0)] [] (si M v0 11 0) b (QI K))) ∧ (¬ (gi (si M v0 11 0) v0 16) ≤ 0 → (K ((-10) - (gi (si M v0 11 0) v0 17)) (si M v0 11 0))))) ∧ (((gi M v0 16) = 0 ∧ ¬ (gi M v0 14) = 0) → (CV mM_readRule [.ref v0] M (fun N => X mM_rule 38 [(0, .ref v0), (1, .int v1)] [] N b (QI K))))) : X mM_rule 20 [(0, .ref v0), (1, .int v1)] [] M b (QI K) := by
  refine x_wf (fun hw => ?_)
  refine x_aload_n (pc := 20) dM_rule_20 rfl (q := 0) rfl ?_
  refine x_getI (pc := 21) dM_rule_21 kv0 flM_130 rfl ?_
  obtain ⟨g1_0, g1_1⟩ := h
  have g1_k0 : (¬ (gi M v0 16) = 0) ∨ ((gi M v0 16) = 0 ∧ (gi M v0 14) = 0) → X mM_rule 44 [(0, .ref v0), (1, .int v1)] [] M b (QI K) := fun q => by
    have h := g1_0 q
    refine x_aload_n (pc := 44) dM_rule_44 rfl (q := 0) rfl ?_
    refine x_iconst (pc := 45) dM_rule_45 (v := 0) rfl ?_
    refine x_putI (pc := 46) dM_rule_46 kv0 flM_121 rfl rfl ?_
    refine x_aload_n (pc := 49) dM_rule_49 rfl (q := 0) rfl ?_
    refine x_getI (pc := 50) dM_rule_50 kv0 flM_130 rfl ?_
    obtain ⟨g2_0, g2_1⟩ := h
    refine x_if_le (pc := 53) dM_rule_53 (t := 64) rfl (fun q3 => ?_) (fun q3 => ?_)
    · refine x_iconst (pc := 64) dM_rule_64 (v := 0) rfl ?_
      have h := g2_0 q3
      refine x_istore_n (pc := 65) dM_rule_65 rfl (by decide) (L' := [(2, .int 0), (0, .ref v0), (1, .int v1)]) rfl ?_
      exact x_loc [1, 2, 0] rfl h
    · refine x_bipush (pc := 56) dM_rule_56 (v := (-10)) rfl ?_
      refine x_aload_n (pc := 58) dM_rule_58 rfl (q := 0) rfl ?_
      refine x_getI (pc := 59) dM_rule_59 kv0 flM_136 rfl ?_
      refine x_isub (pc := 62) dM_rule_62 ?_
      have h := g2_1 q3
      exact x_retQI (pc := 63) dM_rule_63 rfl rfl h
  refine x_if_ne (pc := 24) dM_rule_24 (t := 44) rfl (fun q1 => ?_) (fun q1 => ?_)
  · exact g1_k0 (Or.inl q1)
  · refine x_aload_n (pc := 27) dM_rule_27 rfl (q := 0) rfl ?_
    refine x_getI (pc := 28) dM_rule_28 kv0 flM_158 rfl ?_
    refine x_if_eq (pc := 31) dM_rule_31 (t := 44) rfl (fun q2 => ?_) (fun q2 => ?_)
    · exact g1_k0 (Or.inr ⟨q1, q2⟩)
    · refine x_aload_n (pc := 34) dM_rule_34 rfl (q := 0) rfl ?_
      have h := g1_1 ⟨q1, q2⟩
      exact x_invV (pc := 35) dM_rule_35 (c := 11) (S := []) (As := []) mlM_234 hM_readRule rfl (by decide) rfl kv0 ⟨by decide, by decide⟩ ⟨Nat.zero_le _, Nat.zero_le _⟩ rfl (Nat.le_of_ble_eq_true rfl) (aftV (b' := b) ⟨Nat.le_refl _, Nat.le_refl _⟩ (fun N h => h) h)

theorem vM_rule_38 {M : Mm} {b : Nat × Nat} {K : Int32 → Mm → Prop} {v0 : Nat} {v1 : Int32}  
    (h : X mM_rule 20 [(0, .ref v0), (1, .int (v1 + 1))] [] M b (QI K)) : X mM_rule 38 [(0, .ref v0), (1, .int v1)] [] M b (QI K) := by
  refine x_wf (fun hw => ?_)
  refine x_iinc (pc := 38) dM_rule_38 (q := 1) rfl (v := v1 + 1) rfl (by decide) (L' := [(1, .int (v1 + 1)), (0, .ref v0)]) rfl ?_
  refine x_goto (pc := 41) dM_rule_41 (t := 20) rfl ?_
  exact x_loc [1, 0] rfl h

theorem vM_rule_66 {M : Mm} {b : Nat × Nat} {K : Int32 → Mm → Prop} {v0 : Nat} {v1 : Int32} {v2 : Int32} {r1 : Nat} {r2 : Nat} (kv0 : v0 % 64 = 11) (e1 : gr M v0 18 = some r1) (e2 : gr M v0 20 = some r2)
    (h : (¬ 7 ≤ v2 → vp_in v2 7) ∧ (7 ≤ v2 → (K v1 M)) ∧ (¬ 7 ≤ v2 → (vp_in v2 7 ∧ (X mM_rule 66 [(0, .ref v0), (1, .int v1), (2, .int (v2 + 1))] [] (si M r1 (v2).toNatClampNeg (gi M r2 (v2).toNatClampNeg)) b (QI K))))) : X mM_rule 66 [(0, .ref v0), (1, .int v1), (2, .int v2)] [] M b (QI K) := by
  refine x_wf (fun hw => ?_)
  refine x_iload_n (pc := 66) dM_rule_66 rfl (q := 2) rfl ?_
  refine x_bipush (pc := 67) dM_rule_67 (v := 7) rfl ?_
  obtain ⟨s1, g1_0, g1_1⟩ := h
  refine x_icmp_ge (pc := 69) dM_rule_69 (t := 90) rfl (fun q1 => ?_) (fun q1 => ?_)
  · refine x_iload_n (pc := 90) dM_rule_90 rfl (q := 1) rfl ?_
    have h := g1_0 q1
    exact x_retQI (pc := 91) dM_rule_91 rfl rfl h
  · refine x_aload_n (pc := 72) dM_rule_72 rfl (q := 0) rfl ?_
    refine x_getR (pc := 73) dM_rule_73 kv0 flM_36 rfl e1 ?_
    refine x_iload_n (pc := 76) dM_rule_76 rfl (q := 2) rfl ?_
    refine x_aload_n (pc := 77) dM_rule_77 rfl (q := 0) rfl ?_
    refine x_getR (pc := 78) dM_rule_78 kv0 flM_42 rfl e2 ?_
    refine x_iload_n (pc := 81) dM_rule_81 rfl (q := 2) rfl ?_
    refine x_aldIj (pc := 82) (j := (v2).toNatClampNeg) (Or.inl ⟨rfl, rfl⟩) dM_rule_82 (wfk hw e2 kv0) ak_15 rfl (s1 q1) ?_
    have h := g1_1 q1
    obtain ⟨s502, h⟩ := h
    refine x_astIj (pc := 83) (j := (v2).toNatClampNeg) (v := gi M r2 (v2).toNatClampNeg) (Or.inl ⟨rfl, rfl, rfl⟩) dM_rule_83 (wfk hw e1 kv0) ak_15 rfl s502 ?_
    refine x_iinc (pc := 84) dM_rule_84 (q := 2) rfl (v := v2 + 1) rfl (by decide) (L' := [(2, .int (v2 + 1)), (0, .ref v0), (1, .int v1)]) rfl ?_
    refine x_goto (pc := 87) dM_rule_87 (t := 66) rfl ?_
    exact x_loc [1, 2, 0] rfl h

theorem dM_readRule_0 : decode (mB mM_readRule) 0 = .ok (.aload_n 0, 1) := op42 (by decide +kernel)
theorem dM_readRule_1 : decode (mB mM_readRule) 1 = .ok (.getfield 158, 3) := op180 0 158 (by decide +kernel)
theorem dM_readRule_4 : decode (mB mM_readRule) 4 = .ok (.iconst 1, 1) := op4 (by decide +kernel)
theorem dM_readRule_5 : decode (mB mM_readRule) 5 = .ok (.if_icmp .ne 10, 3) := op160 0 10 (by decide +kernel)
theorem dM_readRule_8 : decode (mB mM_readRule) 8 = .ok (.aload_n 0, 1) := op42 (by decide +kernel)
theorem dM_readRule_9 : decode (mB mM_readRule) 9 = .ok (.invokevirtual 189, 3) := op182 0 189 (by decide +kernel)
theorem dM_readRule_12 : decode (mB mM_readRule) 12 = .ok (.goto 5, 3) := op167 0 5 (by decide +kernel)
theorem dM_readRule_15 : decode (mB mM_readRule) 15 = .ok (.bipush (-4), 2) := op16 252 (by decide +kernel)
theorem dM_readRule_17 : decode (mB mM_readRule) 17 = .ok (.istore_n 1, 1) := op60 (by decide +kernel)
theorem dM_readRule_18 : decode (mB mM_readRule) 18 = .ok (.iload_n 1, 1) := op27 (by decide +kernel)
theorem dM_readRule_19 : decode (mB mM_readRule) 19 = .ok (.invokestatic 224, 3) := op184 0 224 (by decide +kernel)
theorem dM_readRule_22 : decode (mB mM_readRule) 22 = .ok (.istore_n 2, 1) := op61 (by decide +kernel)
theorem dM_readRule_23 : decode (mB mM_readRule) 23 = .ok (.aload_n 0, 1) := op42 (by decide +kernel)
theorem dM_readRule_24 : decode (mB mM_readRule) 24 = .ok (.iload_n 2, 1) := op28 (by decide +kernel)
theorem dM_readRule_25 : decode (mB mM_readRule) 25 = .ok (.bipush (-4), 2) := op16 252 (by decide +kernel)
theorem dM_readRule_27 : decode (mB mM_readRule) 27 = .ok (.if_icmp .eq 7, 3) := op159 0 7 (by decide +kernel)
theorem dM_readRule_30 : decode (mB mM_readRule) 30 = .ok (.iconst 1, 1) := op4 (by decide +kernel)
theorem dM_readRule_31 : decode (mB mM_readRule) 31 = .ok (.goto 4, 3) := op167 0 4 (by decide +kernel)
theorem dM_readRule_34 : decode (mB mM_readRule) 34 = .ok (.iconst 0, 1) := op3 (by decide +kernel)
theorem dM_readRule_35 : decode (mB mM_readRule) 35 = .ok (.iconst 2, 1) := op5 (by decide +kernel)
theorem dM_readRule_36 : decode (mB mM_readRule) 36 = .ok (.invokevirtual 172, 3) := op182 0 172 (by decide +kernel)
theorem dM_readRule_39 : decode (mB mM_readRule) 39 = .ok (.aload_n 0, 1) := op42 (by decide +kernel)
theorem dM_readRule_40 : decode (mB mM_readRule) 40 = .ok (.getfield 130, 3) := op180 0 130 (by decide +kernel)
theorem dM_readRule_43 : decode (mB mM_readRule) 43 = .ok (.ifCond .le 4, 3) := op158 0 4 (by decide +kernel)
theorem dM_readRule_46 : decode (mB mM_readRule) 46 = .ok (.return_, 1) := op177 (by decide +kernel)
theorem dM_readRule_47 : decode (mB mM_readRule) 47 = .ok (.aload_n 0, 1) := op42 (by decide +kernel)
theorem dM_readRule_48 : decode (mB mM_readRule) 48 = .ok (.aload_n 0, 1) := op42 (by decide +kernel)
theorem dM_readRule_49 : decode (mB mM_readRule) 49 = .ok (.getfield 45, 3) := op180 0 45 (by decide +kernel)
theorem dM_readRule_52 : decode (mB mM_readRule) 52 = .ok (.iload_n 2, 1) := op28 (by decide +kernel)
theorem dM_readRule_53 : decode (mB mM_readRule) 53 = .ok (.baload, 1) := op51 (by decide +kernel)
theorem dM_readRule_54 : decode (mB mM_readRule) 54 = .ok (.ifCond .ne 7, 3) := op154 0 7 (by decide +kernel)
theorem dM_readRule_57 : decode (mB mM_readRule) 57 = .ok (.iconst 1, 1) := op4 (by decide +kernel)
theorem dM_readRule_58 : decode (mB mM_readRule) 58 = .ok (.goto 4, 3) := op167 0 4 (by decide +kernel)
theorem dM_readRule_61 : decode (mB mM_readRule) 61 = .ok (.iconst 0, 1) := op3 (by decide +kernel)
theorem dM_readRule_62 : decode (mB mM_readRule) 62 = .ok (.iconst 4, 1) := op7 (by decide +kernel)
theorem dM_readRule_63 : decode (mB mM_readRule) 63 = .ok (.invokevirtual 172, 3) := op182 0 172 (by decide +kernel)
theorem dM_readRule_66 : decode (mB mM_readRule) 66 = .ok (.aload_n 0, 1) := op42 (by decide +kernel)
theorem dM_readRule_67 : decode (mB mM_readRule) 67 = .ok (.getfield 45, 3) := op180 0 45 (by decide +kernel)
theorem dM_readRule_70 : decode (mB mM_readRule) 70 = .ok (.iload_n 2, 1) := op28 (by decide +kernel)
theorem dM_readRule_71 : decode (mB mM_readRule) 71 = .ok (.iconst 1, 1) := op4 (by decide +kernel)
theorem dM_readRule_72 : decode (mB mM_readRule) 72 = .ok (.bastore, 1) := op84 (by decide +kernel)
theorem dM_readRule_73 : decode (mB mM_readRule) 73 = .ok (.aload_n 0, 1) := op42 (by decide +kernel)
theorem dM_readRule_74 : decode (mB mM_readRule) 74 = .ok (.invokevirtual 180, 3) := op182 0 180 (by decide +kernel)
theorem dM_readRule_77 : decode (mB mM_readRule) 77 = .ok (.aload_n 0, 1) := op42 (by decide +kernel)
theorem dM_readRule_78 : decode (mB mM_readRule) 78 = .ok (.getfield 42, 3) := op180 0 42 (by decide +kernel)
theorem dM_readRule_81 : decode (mB mM_readRule) 81 = .ok (.iload_n 2, 1) := op28 (by decide +kernel)
theorem dM_readRule_82 : decode (mB mM_readRule) 82 = .ok (.iload_n 1, 1) := op27 (by decide +kernel)
theorem dM_readRule_83 : decode (mB mM_readRule) 83 = .ok (.bipush 12, 2) := op16 12 (by decide +kernel)
theorem dM_readRule_85 : decode (mB mM_readRule) 85 = .ok (.if_icmp .ne 10, 3) := op160 0 10 (by decide +kernel)
theorem dM_readRule_88 : decode (mB mM_readRule) 88 = .ok (.aload_n 0, 1) := op42 (by decide +kernel)
theorem dM_readRule_89 : decode (mB mM_readRule) 89 = .ok (.invokevirtual 227, 3) := op182 0 227 (by decide +kernel)
theorem dM_readRule_92 : decode (mB mM_readRule) 92 = .ok (.goto 100, 3) := op167 0 100 (by decide +kernel)
theorem dM_readRule_95 : decode (mB mM_readRule) 95 = .ok (.iload_n 1, 1) := op27 (by decide +kernel)
theorem dM_readRule_96 : decode (mB mM_readRule) 96 = .ok (.bipush 11, 2) := op16 11 (by decide +kernel)
theorem dM_readRule_98 : decode (mB mM_readRule) 98 = .ok (.if_icmp .ne 13, 3) := op160 0 13 (by decide +kernel)
theorem dM_readRule_101 : decode (mB mM_readRule) 101 = .ok (.aload_n 0, 1) := op42 (by decide +kernel)
theorem dM_readRule_102 : decode (mB mM_readRule) 102 = .ok (.iconst 0, 1) := op3 (by decide +kernel)
theorem dM_readRule_103 : decode (mB mM_readRule) 103 = .ok (.bipush 9, 2) := op16 9 (by decide +kernel)
theorem dM_readRule_105 : decode (mB mM_readRule) 105 = .ok (.invokevirtual 192, 3) := op182 0 192 (by decide +kernel)
theorem dM_readRule_108 : decode (mB mM_readRule) 108 = .ok (.goto 84, 3) := op167 0 84 (by decide +kernel)
theorem dM_readRule_111 : decode (mB mM_readRule) 111 = .ok (.iload_n 1, 1) := op27 (by decide +kernel)
theorem dM_readRule_112 : decode (mB mM_readRule) 112 = .ok (.bipush 13, 2) := op16 13 (by decide +kernel)
theorem dM_readRule_114 : decode (mB mM_readRule) 114 = .ok (.if_icmp .ne 7, 3) := op160 0 7 (by decide +kernel)
theorem dM_readRule_117 : decode (mB mM_readRule) 117 = .ok (.iconst 1, 1) := op4 (by decide +kernel)
theorem dM_readRule_118 : decode (mB mM_readRule) 118 = .ok (.goto 74, 3) := op167 0 74 (by decide +kernel)
theorem dM_readRule_121 : decode (mB mM_readRule) 121 = .ok (.iload_n 1, 1) := op27 (by decide +kernel)
theorem dM_readRule_122 : decode (mB mM_readRule) 122 = .ok (.bipush 14, 2) := op16 14 (by decide +kernel)
theorem dM_readRule_124 : decode (mB mM_readRule) 124 = .ok (.if_icmp .ne 19, 3) := op160 0 19 (by decide +kernel)
theorem dM_readRule_127 : decode (mB mM_readRule) 127 = .ok (.aload_n 0, 1) := op42 (by decide +kernel)
theorem dM_readRule_128 : decode (mB mM_readRule) 128 = .ok (.bipush 20, 2) := op16 20 (by decide +kernel)
theorem dM_readRule_130 : decode (mB mM_readRule) 130 = .ok (.iconst 0, 1) := op3 (by decide +kernel)
theorem dM_readRule_131 : decode (mB mM_readRule) 131 = .ok (.bipush 18, 2) := op16 18 (by decide +kernel)
theorem dM_readRule_133 : decode (mB mM_readRule) 133 = .ok (.iconst 1, 1) := op4 (by decide +kernel)
theorem dM_readRule_134 : decode (mB mM_readRule) 134 = .ok (.bipush 19, 2) := op16 19 (by decide +kernel)
theorem dM_readRule_136 : decode (mB mM_readRule) 136 = .ok (.iconst 2, 1) := op5 (by decide +kernel)
theorem dM_readRule_137 : decode (mB mM_readRule) 137 = .ok (.invokevirtual 230, 3) := op182 0 230 (by decide +kernel)
theorem dM_readRule_140 : decode (mB mM_readRule) 140 = .ok (.goto 52, 3) := op167 0 52 (by decide +kernel)
theorem dM_readRule_143 : decode (mB mM_readRule) 143 = .ok (.iload_n 1, 1) := op27 (by decide +kernel)
theorem dM_readRule_144 : decode (mB mM_readRule) 144 = .ok (.bipush 15, 2) := op16 15 (by decide +kernel)
theorem dM_readRule_146 : decode (mB mM_readRule) 146 = .ok (.if_icmp .ne 10, 3) := op160 0 10 (by decide +kernel)
theorem dM_readRule_149 : decode (mB mM_readRule) 149 = .ok (.aload_n 0, 1) := op42 (by decide +kernel)
theorem dM_readRule_150 : decode (mB mM_readRule) 150 = .ok (.invokevirtual 195, 3) := op182 0 195 (by decide +kernel)
theorem dM_readRule_153 : decode (mB mM_readRule) 153 = .ok (.goto 39, 3) := op167 0 39 (by decide +kernel)
theorem dM_readRule_156 : decode (mB mM_readRule) 156 = .ok (.iload_n 1, 1) := op27 (by decide +kernel)
theorem dM_readRule_157 : decode (mB mM_readRule) 157 = .ok (.bipush 16, 2) := op16 16 (by decide +kernel)
theorem dM_readRule_159 : decode (mB mM_readRule) 159 = .ok (.if_icmp .ne 20, 3) := op160 0 20 (by decide +kernel)
theorem dM_readRule_162 : decode (mB mM_readRule) 162 = .ok (.aload_n 0, 1) := op42 (by decide +kernel)
theorem dM_readRule_163 : decode (mB mM_readRule) 163 = .ok (.bipush 22, 2) := op16 22 (by decide +kernel)
theorem dM_readRule_165 : decode (mB mM_readRule) 165 = .ok (.iconst 1, 1) := op4 (by decide +kernel)
theorem dM_readRule_166 : decode (mB mM_readRule) 166 = .ok (.bipush 23, 2) := op16 23 (by decide +kernel)
theorem dM_readRule_168 : decode (mB mM_readRule) 168 = .ok (.iconst 0, 1) := op3 (by decide +kernel)
theorem dM_readRule_169 : decode (mB mM_readRule) 169 = .ok (.bipush 24, 2) := op16 24 (by decide +kernel)
theorem dM_readRule_171 : decode (mB mM_readRule) 171 = .ok (.bipush (-4), 2) := op16 252 (by decide +kernel)
theorem dM_readRule_173 : decode (mB mM_readRule) 173 = .ok (.invokevirtual 230, 3) := op182 0 230 (by decide +kernel)
theorem dM_readRule_176 : decode (mB mM_readRule) 176 = .ok (.goto 16, 3) := op167 0 16 (by decide +kernel)
theorem dM_readRule_179 : decode (mB mM_readRule) 179 = .ok (.aload_n 0, 1) := op42 (by decide +kernel)
theorem dM_readRule_180 : decode (mB mM_readRule) 180 = .ok (.bipush 20, 2) := op16 20 (by decide +kernel)
theorem dM_readRule_182 : decode (mB mM_readRule) 182 = .ok (.iconst 0, 1) := op3 (by decide +kernel)
theorem dM_readRule_183 : decode (mB mM_readRule) 183 = .ok (.bipush 18, 2) := op16 18 (by decide +kernel)
theorem dM_readRule_185 : decode (mB mM_readRule) 185 = .ok (.iconst 1, 1) := op4 (by decide +kernel)
theorem dM_readRule_186 : decode (mB mM_readRule) 186 = .ok (.bipush 21, 2) := op16 21 (by decide +kernel)
theorem dM_readRule_188 : decode (mB mM_readRule) 188 = .ok (.iconst 2, 1) := op5 (by decide +kernel)
theorem dM_readRule_189 : decode (mB mM_readRule) 189 = .ok (.invokevirtual 230, 3) := op182 0 230 (by decide +kernel)
theorem dM_readRule_192 : decode (mB mM_readRule) 192 = .ok (.iastore, 1) := op79 (by decide +kernel)
theorem dM_readRule_193 : decode (mB mM_readRule) 193 = .ok (.aload_n 0, 1) := op42 (by decide +kernel)
theorem dM_readRule_194 : decode (mB mM_readRule) 194 = .ok (.invokevirtual 215, 3) := op182 0 215 (by decide +kernel)
theorem dM_readRule_197 : decode (mB mM_readRule) 197 = .ok (.return_, 1) := op177 (by decide +kernel)

theorem vM_readRule_0 {M : Mm} {b : Nat × Nat} {K : Mm → Prop} {v0 : Nat} (kv0 : v0 % 64 = 11) 
    (h : (¬ (gi M v0 14) = 1 → (X mM_readRule 17 [(0, .ref v0)] [.int (-4)] M b (QV K))) ∧ ((gi M v0 14) = 1 → (CI mM_nameNow [.ref v0] M (fun rv N => X mM_readRule 12 [(0, .ref v0)] [.int rv] N b (QV K))))) : X mM_readRule 0 [(0, .ref v0)] [] M b (QV K) := by
  refine x_wf (fun hw => ?_)
  refine x_aload_n (pc := 0) dM_readRule_0 rfl (q := 0) rfl ?_
  refine x_getI (pc := 1) dM_readRule_1 kv0 flM_158 rfl ?_
  refine x_iconst (pc := 4) dM_readRule_4 (v := 1) rfl ?_
  obtain ⟨g1_0, g1_1⟩ := h
  refine x_icmp_ne (pc := 5) dM_readRule_5 (t := 15) rfl (fun q1 => ?_) (fun q1 => ?_)
  · refine x_bipush (pc := 15) dM_readRule_15 (v := (-4)) rfl ?_
    have h := g1_0 q1
    exact h
  · refine x_aload_n (pc := 8) dM_readRule_8 rfl (q := 0) rfl ?_
    have h := g1_1 q1
    exact x_invV (pc := 9) dM_readRule_9 (c := 11) (S := []) (As := []) mlM_189 hM_nameNow rfl (by decide) rfl kv0 ⟨by decide, by decide⟩ ⟨Nat.zero_le _, Nat.zero_le _⟩ rfl (Nat.le_of_ble_eq_true rfl) (aftI (b' := b) ⟨Nat.le_refl _, Nat.le_refl _⟩ (fun rv N h => h) h)

theorem vM_readRule_12 {M : Mm} {b : Nat × Nat} {K : Mm → Prop} {v0 : Nat} {w0 : Int32}  
    (h : X mM_readRule 17 [(0, .ref v0)] [.int w0] M b (QV K)) : X mM_readRule 12 [(0, .ref v0)] [.int w0] M b (QV K) := by
  refine x_wf (fun hw => ?_)
  refine x_goto (pc := 12) dM_readRule_12 (t := 17) rfl ?_
  exact h

theorem vM_readRule_17 {M : Mm} {b : Nat × Nat} {K : Mm → Prop} {v0 : Nat} {w0 : Int32}  
    (h : CI mM_rowOf [.int w0] M (fun rv N => X mM_readRule 22 [(0, .ref v0), (1, .int w0)] [.int rv] N b (QV K))) : X mM_readRule 17 [(0, .ref v0)] [.int w0] M b (QV K) := by
  refine x_wf (fun hw => ?_)
  refine x_istore_n (pc := 17) dM_readRule_17 rfl (by decide) (L' := [(1, .int w0), (0, .ref v0)]) rfl ?_
  refine x_iload_n (pc := 18) dM_readRule_18 rfl (q := 0) rfl ?_
  exact x_invS (pc := 19) dM_readRule_19 (S := []) (As := [.int w0]) mlM_224 hM_rowOf rfl ⟨by decide, by decide⟩ ⟨Nat.zero_le _, Nat.zero_le _⟩ rfl (Nat.le_of_ble_eq_true rfl) (aftI (b' := b) ⟨Nat.le_refl _, Nat.le_refl _⟩ (fun rv N h => x_loc [1, 0] rfl h) h)

theorem vM_readRule_22 {M : Mm} {b : Nat × Nat} {K : Mm → Prop} {v0 : Nat} {v1 : Int32} {w0 : Int32} (kv0 : v0 % 64 = 11) 
    (h : CV mM_wants [.ref v0, .int (if w0 = (-4) then 0 else 1 : Int32), .int 2] M (fun N => X mM_readRule 39 [(0, .ref v0), (1, .int v1), (2, .int w0)] [] N b (QV K))) : X mM_readRule 22 [(0, .ref v0), (1, .int v1)] [.int w0] M b (QV K) := by
  refine x_wf (fun hw => ?_)
  refine x_istore_n (pc := 22) dM_readRule_22 rfl (by decide) (L' := [(2, .int w0), (0, .ref v0), (1, .int v1)]) rfl ?_
  refine x_aload_n (pc := 23) dM_readRule_23 rfl (q := 1) rfl ?_
  refine x_iload_n (pc := 24) dM_readRule_24 rfl (q := 0) rfl ?_
  refine x_bipush (pc := 25) dM_readRule_25 (v := (-4)) rfl ?_
  suffices hJ : X mM_readRule 35 [(2, .int w0), (0, .ref v0), (1, .int v1)] [.int (if w0 = (-4) then 0 else 1 : Int32), .ref v0] M b (QV K) by
    refine x_icmp_eq (pc := 27) dM_readRule_27 (t := 34) rfl (fun q1 => ?_) (fun q1 => ?_)
    · refine x_iconst (pc := 34) dM_readRule_34 (v := 0) rfl ?_
      first | (rw [if_pos q1] at hJ; exact hJ) | (simp only [if_pos q1] at hJ ⊢; exact hJ)
    · refine x_iconst (pc := 30) dM_readRule_30 (v := 1) rfl ?_
      refine x_goto (pc := 31) dM_readRule_31 (t := 35) rfl ?_
      first | (rw [if_neg q1] at hJ; exact hJ) | (simp only [if_neg q1] at hJ ⊢; exact hJ)
  refine x_iconst (pc := 35) dM_readRule_35 (v := 2) rfl ?_
  exact x_invV (pc := 36) dM_readRule_36 (c := 11) (S := []) (As := [.int (if w0 = (-4) then 0 else 1 : Int32), .int 2]) mlM_172 hM_wants rfl (by decide) rfl kv0 ⟨by decide, by decide⟩ ⟨Nat.zero_le _, Nat.zero_le _⟩ rfl (Nat.le_of_ble_eq_true rfl) (aftV (b' := b) ⟨Nat.le_refl _, Nat.le_refl _⟩ (fun N h => x_loc [1, 2, 0] rfl h) h)

theorem vM_readRule_39 {M : Mm} {b : Nat × Nat} {K : Mm → Prop} {v0 : Nat} {v1 : Int32} {v2 : Int32} {r1 : Nat} (kv0 : v0 % 64 = 11) (e1 : gr M v0 21 = some r1)
    (h : ((gi M v0 16) ≤ 0 → vp_in v2 7) ∧ (((gi M v0 16) ≤ 0 ∧ ¬ (gi M r1 (v2).toNatClampNeg) = 0) → (X mM_readRule 62 [(0, .ref v0), (1, .int v1), (2, .int v2)] [.int 0, .ref v0] M b (QV K))) ∧ (((gi M v0 16) ≤ 0 ∧ (gi M r1 (v2).toNatClampNeg) = 0) → (X mM_readRule 62 [(0, .ref v0), (1, .int v1), (2, .int v2)] [.int 1, .ref v0] M b (QV K))) ∧ (¬ (gi M v0 16) ≤ 0 → (K M))) : X mM_readRule 39 [(0, .ref v0), (1, .int v1), (2, .int v2)] [] M b (QV K) := by
  refine x_wf (fun hw => ?_)
  refine x_aload_n (pc := 39) dM_readRule_39 rfl (q := 0) rfl ?_
  refine x_getI (pc := 40) dM_readRule_40 kv0 flM_130 rfl ?_
  obtain ⟨s1, g1_0, g1_1, g1_2⟩ := h
  refine x_if_le (pc := 43) dM_readRule_43 (t := 47) rfl (fun q1 => ?_) (fun q1 => ?_)
  · refine x_aload_n (pc := 47) dM_readRule_47 rfl (q := 0) rfl ?_
    refine x_aload_n (pc := 48) dM_readRule_48 rfl (q := 0) rfl ?_
    refine x_getR (pc := 49) dM_readRule_49 kv0 flM_45 rfl e1 ?_
    refine x_iload_n (pc := 52) dM_readRule_52 rfl (q := 2) rfl ?_
    refine x_aldIj (pc := 53) (j := (v2).toNatClampNeg) (Or.inr (Or.inr ⟨rfl, rfl⟩)) dM_readRule_53 (wfk hw e1 kv0) ak_25 rfl (s1 q1) ?_
    refine x_if_ne (pc := 54) dM_readRule_54 (t := 61) rfl (fun q2 => ?_) (fun q2 => ?_)
    · refine x_iconst (pc := 61) dM_readRule_61 (v := 0) rfl ?_
      have h := g1_0 ⟨q1, q2⟩
      exact h
    · refine x_iconst (pc := 57) dM_readRule_57 (v := 1) rfl ?_
      refine x_goto (pc := 58) dM_readRule_58 (t := 62) rfl ?_
      have h := g1_1 ⟨q1, q2⟩
      exact h
  · have h := g1_2 q1
    exact x_retQV (pc := 46) dM_readRule_46 rfl h

theorem vM_readRule_62 {M : Mm} {b : Nat × Nat} {K : Mm → Prop} {v0 : Nat} {v1 : Int32} {v2 : Int32} {w0 : Int32} {w1 : Nat} (kw1 : w1 % 64 = 11) 
    (h : CV mM_wants [.ref w1, .int w0, .int 4] M (fun N => X mM_readRule 66 [(0, .ref v0), (1, .int v1), (2, .int v2)] [] N b (QV K))) : X mM_readRule 62 [(0, .ref v0), (1, .int v1), (2, .int v2)] [.int w0, .ref w1] M b (QV K) := by
  refine x_wf (fun hw => ?_)
  refine x_iconst (pc := 62) dM_readRule_62 (v := 4) rfl ?_
  exact x_invV (pc := 63) dM_readRule_63 (c := 11) (S := []) (As := [.int w0, .int 4]) mlM_172 hM_wants rfl (by decide) rfl kw1 ⟨by decide, by decide⟩ ⟨Nat.zero_le _, Nat.zero_le _⟩ rfl (Nat.le_of_ble_eq_true rfl) (aftV (b' := b) ⟨Nat.le_refl _, Nat.le_refl _⟩ (fun N h => h) h)

theorem vM_readRule_66 {M : Mm} {b : Nat × Nat} {K : Mm → Prop} {v0 : Nat} {v1 : Int32} {v2 : Int32} {r1 : Nat} (kv0 : v0 % 64 = 11) (e1 : gr M v0 21 = some r1)
    (h : vp_in v2 7 ∧ (CV mM_next [.ref v0] (si M r1 (v2).toNatClampNeg (vp_nar .boolean 1)) (fun N => X mM_readRule 77 [(0, .ref v0), (1, .int v1), (2, .int v2)] [] N b (QV K)))) : X mM_readRule 66 [(0, .ref v0), (1, .int v1), (2, .int v2)] [] M b (QV K) := by
  refine x_wf (fun hw => ?_)
  refine x_aload_n (pc := 66) dM_readRule_66 rfl (q := 0) rfl ?_
  refine x_getR (pc := 67) dM_readRule_67 kv0 flM_45 rfl e1 ?_
  refine x_iload_n (pc := 70) dM_readRule_70 rfl (q := 2) rfl ?_
  refine x_iconst (pc := 71) dM_readRule_71 (v := 1) rfl ?_
  obtain ⟨s501, h⟩ := h
  refine x_astIj (pc := 72) (j := (v2).toNatClampNeg) (v := vp_nar .boolean 1) (Or.inr (Or.inr ⟨rfl, rfl, rfl⟩)) dM_readRule_72 (wfk hw e1 kv0) ak_25 rfl s501 ?_
  refine x_aload_n (pc := 73) dM_readRule_73 rfl (q := 0) rfl ?_
  exact x_invV (pc := 74) dM_readRule_74 (c := 11) (S := []) (As := []) mlM_180 hM_next rfl (by decide) rfl kv0 ⟨by decide, by decide⟩ ⟨Nat.zero_le _, Nat.zero_le _⟩ rfl (Nat.le_of_ble_eq_true rfl) (aftV (b' := b) ⟨Nat.le_refl _, Nat.le_refl _⟩ (fun N h => h) h)

theorem vM_readRule_77 {M : Mm} {b : Nat × Nat} {K : Mm → Prop} {v0 : Nat} {v1 : Int32} {v2 : Int32} {r1 : Nat} (kv0 : v0 % 64 = 11) (e1 : gr M v0 20 = some r1)
    (h : ((¬ v1 = 12 ∧ ¬ v1 = 11 ∧ ¬ v1 = 13 ∧ ¬ v1 = 14 ∧ ¬ v1 = 15 ∧ ¬ v1 = 16) → (CI mM_oneOf [.ref v0, .int 20, .int 0, .int 18, .int 1, .int 21, .int 2] M (fun rv N => X mM_readRule 192 [(0, .ref v0)] [.int rv, .int v2, .ref r1] N b (QV K)))) ∧ ((¬ v1 = 12 ∧ ¬ v1 = 11 ∧ ¬ v1 = 13 ∧ ¬ v1 = 14 ∧ ¬ v1 = 15 ∧ v1 = 16) → (CI mM_oneOf [.ref v0, .int 22, .int 1, .int 23, .int 0, .int 24, .int (-4)] M (fun rv N => X mM_readRule 176 [(0, .ref v0)] [.int rv, .int v2, .ref r1] N b (QV K)))) ∧ ((¬ v1 = 12 ∧ ¬ v1 = 11 ∧ ¬ v1 = 13 ∧ ¬ v1 = 14 ∧ v1 = 15) → (CI mM_readDoctor [.ref v0] M (fun rv N => X mM_readRule 153 [(0, .ref v0)] [.int rv, .int v2, .ref r1] N b (QV K)))) ∧ ((¬ v1 = 12 ∧ ¬ v1 = 11 ∧ ¬ v1 = 13 ∧ v1 = 14) → (CI mM_oneOf [.ref v0, .int 20, .int 0, .int 18, .int 1, .int 19, .int 2] M (fun rv N => X mM_readRule 140 [(0, .ref v0)] [.int rv, .int v2, .ref r1] N b (QV K)))) ∧ ((¬ v1 = 12 ∧ ¬ v1 = 11 ∧ v1 = 13) → (X mM_readRule 192 [(0, .ref v0)] [.int 1, .int v2, .ref r1] M b (QV K))) ∧ ((¬ v1 = 12 ∧ v1 = 11) → (CI mM_readNumber [.ref v0, .int 0, .int 9] M (fun rv N => X mM_readRule 108 [(0, .ref v0)] [.int rv, .int v2, .ref r1] N b (QV K)))) ∧ (v1 = 12 → (CI mM_readMain [.ref v0] M (fun rv N => X mM_readRule 92 [(0, .ref v0)] [.int rv, .int v2, .ref r1] N b (QV K))))) : X mM_readRule 77 [(0, .ref v0), (1, .int v1), (2, .int v2)] [] M b (QV K) := by
  refine x_wf (fun hw => ?_)
  refine x_aload_n (pc := 77) dM_readRule_77 rfl (q := 0) rfl ?_
  refine x_getR (pc := 78) dM_readRule_78 kv0 flM_42 rfl e1 ?_
  refine x_iload_n (pc := 81) dM_readRule_81 rfl (q := 2) rfl ?_
  refine x_iload_n (pc := 82) dM_readRule_82 rfl (q := 1) rfl ?_
  refine x_bipush (pc := 83) dM_readRule_83 (v := 12) rfl ?_
  obtain ⟨g1_0, g1_1, g1_2, g1_3, g1_4, g1_5, g1_6⟩ := h
  refine x_icmp_ne (pc := 85) dM_readRule_85 (t := 95) rfl (fun q1 => ?_) (fun q1 => ?_)
  · refine x_iload_n (pc := 95) dM_readRule_95 rfl (q := 1) rfl ?_
    refine x_bipush (pc := 96) dM_readRule_96 (v := 11) rfl ?_
    refine x_icmp_ne (pc := 98) dM_readRule_98 (t := 111) rfl (fun q2 => ?_) (fun q2 => ?_)
    · refine x_iload_n (pc := 111) dM_readRule_111 rfl (q := 1) rfl ?_
      refine x_bipush (pc := 112) dM_readRule_112 (v := 13) rfl ?_
      refine x_icmp_ne (pc := 114) dM_readRule_114 (t := 121) rfl (fun q3 => ?_) (fun q3 => ?_)
      · refine x_iload_n (pc := 121) dM_readRule_121 rfl (q := 1) rfl ?_
        refine x_bipush (pc := 122) dM_readRule_122 (v := 14) rfl ?_
        refine x_icmp_ne (pc := 124) dM_readRule_124 (t := 143) rfl (fun q4 => ?_) (fun q4 => ?_)
        · refine x_iload_n (pc := 143) dM_readRule_143 rfl (q := 1) rfl ?_
          refine x_bipush (pc := 144) dM_readRule_144 (v := 15) rfl ?_
          refine x_icmp_ne (pc := 146) dM_readRule_146 (t := 156) rfl (fun q5 => ?_) (fun q5 => ?_)
          · refine x_iload_n (pc := 156) dM_readRule_156 rfl (q := 1) rfl ?_
            refine x_bipush (pc := 157) dM_readRule_157 (v := 16) rfl ?_
            refine x_icmp_ne (pc := 159) dM_readRule_159 (t := 179) rfl (fun q6 => ?_) (fun q6 => ?_)
            · refine x_aload_n (pc := 179) dM_readRule_179 rfl (q := 0) rfl ?_
              refine x_bipush (pc := 180) dM_readRule_180 (v := 20) rfl ?_
              refine x_iconst (pc := 182) dM_readRule_182 (v := 0) rfl ?_
              refine x_bipush (pc := 183) dM_readRule_183 (v := 18) rfl ?_
              refine x_iconst (pc := 185) dM_readRule_185 (v := 1) rfl ?_
              refine x_bipush (pc := 186) dM_readRule_186 (v := 21) rfl ?_
              refine x_iconst (pc := 188) dM_readRule_188 (v := 2) rfl ?_
              have h := g1_0 ⟨q1, q2, q3, q4, q5, q6⟩
              exact x_invV (pc := 189) dM_readRule_189 (c := 11) (S := [.int v2, .ref r1]) (As := [.int 20, .int 0, .int 18, .int 1, .int 21, .int 2]) mlM_230 hM_oneOf rfl (by decide) rfl kv0 ⟨by decide, by decide⟩ ⟨Nat.zero_le _, Nat.zero_le _⟩ rfl (Nat.le_of_ble_eq_true rfl) (aftI (b' := b) ⟨Nat.le_refl _, Nat.le_refl _⟩ (fun rv N h => x_loc [0] rfl h) h)
            · refine x_aload_n (pc := 162) dM_readRule_162 rfl (q := 0) rfl ?_
              refine x_bipush (pc := 163) dM_readRule_163 (v := 22) rfl ?_
              refine x_iconst (pc := 165) dM_readRule_165 (v := 1) rfl ?_
              refine x_bipush (pc := 166) dM_readRule_166 (v := 23) rfl ?_
              refine x_iconst (pc := 168) dM_readRule_168 (v := 0) rfl ?_
              refine x_bipush (pc := 169) dM_readRule_169 (v := 24) rfl ?_
              refine x_bipush (pc := 171) dM_readRule_171 (v := (-4)) rfl ?_
              have h := g1_1 ⟨q1, q2, q3, q4, q5, q6⟩
              exact x_invV (pc := 173) dM_readRule_173 (c := 11) (S := [.int v2, .ref r1]) (As := [.int 22, .int 1, .int 23, .int 0, .int 24, .int (-4)]) mlM_230 hM_oneOf rfl (by decide) rfl kv0 ⟨by decide, by decide⟩ ⟨Nat.zero_le _, Nat.zero_le _⟩ rfl (Nat.le_of_ble_eq_true rfl) (aftI (b' := b) ⟨Nat.le_refl _, Nat.le_refl _⟩ (fun rv N h => x_loc [0] rfl h) h)
          · refine x_aload_n (pc := 149) dM_readRule_149 rfl (q := 0) rfl ?_
            have h := g1_2 ⟨q1, q2, q3, q4, q5⟩
            exact x_invV (pc := 150) dM_readRule_150 (c := 11) (S := [.int v2, .ref r1]) (As := []) mlM_195 hM_readDoctor rfl (by decide) rfl kv0 ⟨by decide, by decide⟩ ⟨Nat.zero_le _, Nat.zero_le _⟩ rfl (Nat.le_of_ble_eq_true rfl) (aftI (b' := b) ⟨Nat.le_refl _, Nat.le_refl _⟩ (fun rv N h => x_loc [0] rfl h) h)
        · refine x_aload_n (pc := 127) dM_readRule_127 rfl (q := 0) rfl ?_
          refine x_bipush (pc := 128) dM_readRule_128 (v := 20) rfl ?_
          refine x_iconst (pc := 130) dM_readRule_130 (v := 0) rfl ?_
          refine x_bipush (pc := 131) dM_readRule_131 (v := 18) rfl ?_
          refine x_iconst (pc := 133) dM_readRule_133 (v := 1) rfl ?_
          refine x_bipush (pc := 134) dM_readRule_134 (v := 19) rfl ?_
          refine x_iconst (pc := 136) dM_readRule_136 (v := 2) rfl ?_
          have h := g1_3 ⟨q1, q2, q3, q4⟩
          exact x_invV (pc := 137) dM_readRule_137 (c := 11) (S := [.int v2, .ref r1]) (As := [.int 20, .int 0, .int 18, .int 1, .int 19, .int 2]) mlM_230 hM_oneOf rfl (by decide) rfl kv0 ⟨by decide, by decide⟩ ⟨Nat.zero_le _, Nat.zero_le _⟩ rfl (Nat.le_of_ble_eq_true rfl) (aftI (b' := b) ⟨Nat.le_refl _, Nat.le_refl _⟩ (fun rv N h => x_loc [0] rfl h) h)
      · refine x_iconst (pc := 117) dM_readRule_117 (v := 1) rfl ?_
        refine x_goto (pc := 118) dM_readRule_118 (t := 192) rfl ?_
        have h := g1_4 ⟨q1, q2, q3⟩
        exact x_loc [0] rfl h
    · refine x_aload_n (pc := 101) dM_readRule_101 rfl (q := 0) rfl ?_
      refine x_iconst (pc := 102) dM_readRule_102 (v := 0) rfl ?_
      refine x_bipush (pc := 103) dM_readRule_103 (v := 9) rfl ?_
      have h := g1_5 ⟨q1, q2⟩
      exact x_invV (pc := 105) dM_readRule_105 (c := 11) (S := [.int v2, .ref r1]) (As := [.int 0, .int 9]) mlM_192 hM_readNumber rfl (by decide) rfl kv0 ⟨by decide, by decide⟩ ⟨Nat.zero_le _, Nat.zero_le _⟩ rfl (Nat.le_of_ble_eq_true rfl) (aftI (b' := b) ⟨Nat.le_refl _, Nat.le_refl _⟩ (fun rv N h => x_loc [0] rfl h) h)
  · refine x_aload_n (pc := 88) dM_readRule_88 rfl (q := 0) rfl ?_
    have h := g1_6 q1
    exact x_invV (pc := 89) dM_readRule_89 (c := 11) (S := [.int v2, .ref r1]) (As := []) mlM_227 hM_readMain rfl (by decide) rfl kv0 ⟨by decide, by decide⟩ ⟨Nat.zero_le _, Nat.zero_le _⟩ rfl (Nat.le_of_ble_eq_true rfl) (aftI (b' := b) ⟨Nat.le_refl _, Nat.le_refl _⟩ (fun rv N h => x_loc [0] rfl h) h)

theorem vM_readRule_92 {M : Mm} {b : Nat × Nat} {K : Mm → Prop} {v0 : Nat} {w0 : Int32} {w1 : Int32} {w2 : Nat}  
    (h : X mM_readRule 192 [(0, .ref v0)] [.int w0, .int w1, .ref w2] M b (QV K)) : X mM_readRule 92 [(0, .ref v0)] [.int w0, .int w1, .ref w2] M b (QV K) := by
  refine x_wf (fun hw => ?_)
  refine x_goto (pc := 92) dM_readRule_92 (t := 192) rfl ?_
  exact h

theorem vM_readRule_108 {M : Mm} {b : Nat × Nat} {K : Mm → Prop} {v0 : Nat} {w0 : Int32} {w1 : Int32} {w2 : Nat}  
    (h : X mM_readRule 192 [(0, .ref v0)] [.int w0, .int w1, .ref w2] M b (QV K)) : X mM_readRule 108 [(0, .ref v0)] [.int w0, .int w1, .ref w2] M b (QV K) := by
  refine x_wf (fun hw => ?_)
  refine x_goto (pc := 108) dM_readRule_108 (t := 192) rfl ?_
  exact h

theorem vM_readRule_140 {M : Mm} {b : Nat × Nat} {K : Mm → Prop} {v0 : Nat} {w0 : Int32} {w1 : Int32} {w2 : Nat}  
    (h : X mM_readRule 192 [(0, .ref v0)] [.int w0, .int w1, .ref w2] M b (QV K)) : X mM_readRule 140 [(0, .ref v0)] [.int w0, .int w1, .ref w2] M b (QV K) := by
  refine x_wf (fun hw => ?_)
  refine x_goto (pc := 140) dM_readRule_140 (t := 192) rfl ?_
  exact h

theorem vM_readRule_153 {M : Mm} {b : Nat × Nat} {K : Mm → Prop} {v0 : Nat} {w0 : Int32} {w1 : Int32} {w2 : Nat}  
    (h : X mM_readRule 192 [(0, .ref v0)] [.int w0, .int w1, .ref w2] M b (QV K)) : X mM_readRule 153 [(0, .ref v0)] [.int w0, .int w1, .ref w2] M b (QV K) := by
  refine x_wf (fun hw => ?_)
  refine x_goto (pc := 153) dM_readRule_153 (t := 192) rfl ?_
  exact h

theorem vM_readRule_176 {M : Mm} {b : Nat × Nat} {K : Mm → Prop} {v0 : Nat} {w0 : Int32} {w1 : Int32} {w2 : Nat}  
    (h : X mM_readRule 192 [(0, .ref v0)] [.int w0, .int w1, .ref w2] M b (QV K)) : X mM_readRule 176 [(0, .ref v0)] [.int w0, .int w1, .ref w2] M b (QV K) := by
  refine x_wf (fun hw => ?_)
  refine x_goto (pc := 176) dM_readRule_176 (t := 192) rfl ?_
  exact h

theorem vM_readRule_192 {M : Mm} {b : Nat × Nat} {K : Mm → Prop} {v0 : Nat} {w0 : Int32} {w1 : Int32} {w2 : Nat} (kw2 : w2 % 64 = 15) (kv0 : v0 % 64 = 11) 
    (h : vp_in w1 7 ∧ (CV mM_endLine [.ref v0] (si M w2 (w1).toNatClampNeg w0) (fun N => X mM_readRule 197 [] [] N b (QV K)))) : X mM_readRule 192 [(0, .ref v0)] [.int w0, .int w1, .ref w2] M b (QV K) := by
  refine x_wf (fun hw => ?_)
  obtain ⟨s501, h⟩ := h
  refine x_astIj (pc := 192) (j := (w1).toNatClampNeg) (v := w0) (Or.inl ⟨rfl, rfl, rfl⟩) dM_readRule_192 kw2 ak_15 rfl s501 ?_
  refine x_aload_n (pc := 193) dM_readRule_193 rfl (q := 0) rfl ?_
  exact x_invV (pc := 194) dM_readRule_194 (c := 11) (S := []) (As := []) mlM_215 hM_endLine rfl (by decide) rfl kv0 ⟨by decide, by decide⟩ ⟨Nat.zero_le _, Nat.zero_le _⟩ rfl (Nat.le_of_ble_eq_true rfl) (aftV (b' := b) ⟨Nat.le_refl _, Nat.le_refl _⟩ (fun N h => x_loc [] rfl h) h)

theorem vM_readRule_197 {M : Mm} {b : Nat × Nat} {K : Mm → Prop}   
    (h : K M) : X mM_readRule 197 [] [] M b (QV K) := by
  refine x_wf (fun hw => ?_)
  exact x_retQV (pc := 197) dM_readRule_197 rfl h

theorem dM_rowOf_0 : decode (mB mM_rowOf) 0 = .ok (.iload_n 0, 1) := op26 (by decide +kernel)
theorem dM_rowOf_1 : decode (mB mM_rowOf) 1 = .ok (.bipush 12, 2) := op16 12 (by decide +kernel)
theorem dM_rowOf_3 : decode (mB mM_rowOf) 3 = .ok (.if_icmp .ne 7, 3) := op160 0 7 (by decide +kernel)
theorem dM_rowOf_6 : decode (mB mM_rowOf) 6 = .ok (.iconst 0, 1) := op3 (by decide +kernel)
theorem dM_rowOf_7 : decode (mB mM_rowOf) 7 = .ok (.goto 66, 3) := op167 0 66 (by decide +kernel)
theorem dM_rowOf_10 : decode (mB mM_rowOf) 10 = .ok (.iload_n 0, 1) := op26 (by decide +kernel)
theorem dM_rowOf_11 : decode (mB mM_rowOf) 11 = .ok (.bipush 11, 2) := op16 11 (by decide +kernel)
theorem dM_rowOf_13 : decode (mB mM_rowOf) 13 = .ok (.if_icmp .ne 7, 3) := op160 0 7 (by decide +kernel)
theorem dM_rowOf_16 : decode (mB mM_rowOf) 16 = .ok (.iconst 1, 1) := op4 (by decide +kernel)
theorem dM_rowOf_17 : decode (mB mM_rowOf) 17 = .ok (.goto 56, 3) := op167 0 56 (by decide +kernel)
theorem dM_rowOf_20 : decode (mB mM_rowOf) 20 = .ok (.iload_n 0, 1) := op26 (by decide +kernel)
theorem dM_rowOf_21 : decode (mB mM_rowOf) 21 = .ok (.bipush 13, 2) := op16 13 (by decide +kernel)
theorem dM_rowOf_23 : decode (mB mM_rowOf) 23 = .ok (.if_icmp .ne 7, 3) := op160 0 7 (by decide +kernel)
theorem dM_rowOf_26 : decode (mB mM_rowOf) 26 = .ok (.iconst 2, 1) := op5 (by decide +kernel)
theorem dM_rowOf_27 : decode (mB mM_rowOf) 27 = .ok (.goto 46, 3) := op167 0 46 (by decide +kernel)
theorem dM_rowOf_30 : decode (mB mM_rowOf) 30 = .ok (.iload_n 0, 1) := op26 (by decide +kernel)
theorem dM_rowOf_31 : decode (mB mM_rowOf) 31 = .ok (.bipush 14, 2) := op16 14 (by decide +kernel)
theorem dM_rowOf_33 : decode (mB mM_rowOf) 33 = .ok (.if_icmp .ne 7, 3) := op160 0 7 (by decide +kernel)
theorem dM_rowOf_36 : decode (mB mM_rowOf) 36 = .ok (.iconst 3, 1) := op6 (by decide +kernel)
theorem dM_rowOf_37 : decode (mB mM_rowOf) 37 = .ok (.goto 36, 3) := op167 0 36 (by decide +kernel)
theorem dM_rowOf_40 : decode (mB mM_rowOf) 40 = .ok (.iload_n 0, 1) := op26 (by decide +kernel)
theorem dM_rowOf_41 : decode (mB mM_rowOf) 41 = .ok (.bipush 15, 2) := op16 15 (by decide +kernel)
theorem dM_rowOf_43 : decode (mB mM_rowOf) 43 = .ok (.if_icmp .ne 7, 3) := op160 0 7 (by decide +kernel)
theorem dM_rowOf_46 : decode (mB mM_rowOf) 46 = .ok (.iconst 4, 1) := op7 (by decide +kernel)
theorem dM_rowOf_47 : decode (mB mM_rowOf) 47 = .ok (.goto 26, 3) := op167 0 26 (by decide +kernel)
theorem dM_rowOf_50 : decode (mB mM_rowOf) 50 = .ok (.iload_n 0, 1) := op26 (by decide +kernel)
theorem dM_rowOf_51 : decode (mB mM_rowOf) 51 = .ok (.bipush 16, 2) := op16 16 (by decide +kernel)
theorem dM_rowOf_53 : decode (mB mM_rowOf) 53 = .ok (.if_icmp .ne 7, 3) := op160 0 7 (by decide +kernel)
theorem dM_rowOf_56 : decode (mB mM_rowOf) 56 = .ok (.iconst 5, 1) := op8 (by decide +kernel)
theorem dM_rowOf_57 : decode (mB mM_rowOf) 57 = .ok (.goto 16, 3) := op167 0 16 (by decide +kernel)
theorem dM_rowOf_60 : decode (mB mM_rowOf) 60 = .ok (.iload_n 0, 1) := op26 (by decide +kernel)
theorem dM_rowOf_61 : decode (mB mM_rowOf) 61 = .ok (.bipush 17, 2) := op16 17 (by decide +kernel)
theorem dM_rowOf_63 : decode (mB mM_rowOf) 63 = .ok (.if_icmp .ne 8, 3) := op160 0 8 (by decide +kernel)
theorem dM_rowOf_66 : decode (mB mM_rowOf) 66 = .ok (.bipush 6, 2) := op16 6 (by decide +kernel)
theorem dM_rowOf_68 : decode (mB mM_rowOf) 68 = .ok (.goto 5, 3) := op167 0 5 (by decide +kernel)
theorem dM_rowOf_71 : decode (mB mM_rowOf) 71 = .ok (.bipush (-4), 2) := op16 252 (by decide +kernel)
theorem dM_rowOf_73 : decode (mB mM_rowOf) 73 = .ok (.ireturn, 1) := op172 (by decide +kernel)

theorem vM_rowOf_0 {M : Mm} {b : Nat × Nat} {K : Int32 → Mm → Prop} {v0 : Int32}  
    (h : K (if v0 = 12 then 0 else (if v0 = 11 then 1 else (if v0 = 13 then 2 else (if v0 = 14 then 3 else (if v0 = 15 then 4 else (if v0 = 16 then 5 else (if v0 = 17 then 6 else (-4) : Int32) : Int32) : Int32) : Int32) : Int32) : Int32) : Int32) M) : X mM_rowOf 0 [(0, .int v0)] [] M b (QI K) := by
  refine x_wf (fun hw => ?_)
  refine x_iload_n (pc := 0) dM_rowOf_0 rfl (q := 0) rfl ?_
  refine x_bipush (pc := 1) dM_rowOf_1 (v := 12) rfl ?_
  suffices hJ : X mM_rowOf 73 [(0, .int v0)] [.int (if v0 = 12 then 0 else (if v0 = 11 then 1 else (if v0 = 13 then 2 else (if v0 = 14 then 3 else (if v0 = 15 then 4 else (if v0 = 16 then 5 else (if v0 = 17 then 6 else (-4) : Int32) : Int32) : Int32) : Int32) : Int32) : Int32) : Int32)] M b (QI K) by
    refine x_icmp_ne (pc := 3) dM_rowOf_3 (t := 10) rfl (fun q1 => ?_) (fun q1 => ?_)
    · refine x_iload_n (pc := 10) dM_rowOf_10 rfl (q := 0) rfl ?_
      refine x_bipush (pc := 11) dM_rowOf_11 (v := 11) rfl ?_
      refine x_icmp_ne (pc := 13) dM_rowOf_13 (t := 20) rfl (fun q2 => ?_) (fun q2 => ?_)
      · refine x_iload_n (pc := 20) dM_rowOf_20 rfl (q := 0) rfl ?_
        refine x_bipush (pc := 21) dM_rowOf_21 (v := 13) rfl ?_
        refine x_icmp_ne (pc := 23) dM_rowOf_23 (t := 30) rfl (fun q3 => ?_) (fun q3 => ?_)
        · refine x_iload_n (pc := 30) dM_rowOf_30 rfl (q := 0) rfl ?_
          refine x_bipush (pc := 31) dM_rowOf_31 (v := 14) rfl ?_
          refine x_icmp_ne (pc := 33) dM_rowOf_33 (t := 40) rfl (fun q4 => ?_) (fun q4 => ?_)
          · refine x_iload_n (pc := 40) dM_rowOf_40 rfl (q := 0) rfl ?_
            refine x_bipush (pc := 41) dM_rowOf_41 (v := 15) rfl ?_
            refine x_icmp_ne (pc := 43) dM_rowOf_43 (t := 50) rfl (fun q5 => ?_) (fun q5 => ?_)
            · refine x_iload_n (pc := 50) dM_rowOf_50 rfl (q := 0) rfl ?_
              refine x_bipush (pc := 51) dM_rowOf_51 (v := 16) rfl ?_
              refine x_icmp_ne (pc := 53) dM_rowOf_53 (t := 60) rfl (fun q6 => ?_) (fun q6 => ?_)
              · refine x_iload_n (pc := 60) dM_rowOf_60 rfl (q := 0) rfl ?_
                refine x_bipush (pc := 61) dM_rowOf_61 (v := 17) rfl ?_
                refine x_icmp_ne (pc := 63) dM_rowOf_63 (t := 71) rfl (fun q7 => ?_) (fun q7 => ?_)
                · refine x_bipush (pc := 71) dM_rowOf_71 (v := (-4)) rfl ?_
                  first | (rw [if_neg q1, if_neg q2, if_neg q3, if_neg q4, if_neg q5, if_neg q6, if_neg q7] at hJ; exact hJ) | (simp only [if_neg q1, if_neg q2, if_neg q3, if_neg q4, if_neg q5, if_neg q6, if_neg q7] at hJ ⊢; exact hJ)
                · refine x_bipush (pc := 66) dM_rowOf_66 (v := 6) rfl ?_
                  refine x_goto (pc := 68) dM_rowOf_68 (t := 73) rfl ?_
                  first | (rw [if_neg q1, if_neg q2, if_neg q3, if_neg q4, if_neg q5, if_neg q6, if_pos q7] at hJ; exact hJ) | (simp only [if_neg q1, if_neg q2, if_neg q3, if_neg q4, if_neg q5, if_neg q6, if_pos q7] at hJ ⊢; exact hJ)
              · refine x_iconst (pc := 56) dM_rowOf_56 (v := 5) rfl ?_
                refine x_goto (pc := 57) dM_rowOf_57 (t := 73) rfl ?_
                first | (rw [if_neg q1, if_neg q2, if_neg q3, if_neg q4, if_neg q5, if_pos q6] at hJ; exact hJ) | (simp only [if_neg q1, if_neg q2, if_neg q3, if_neg q4, if_neg q5, if_pos q6] at hJ ⊢; exact hJ)
            · refine x_iconst (pc := 46) dM_rowOf_46 (v := 4) rfl ?_
              refine x_goto (pc := 47) dM_rowOf_47 (t := 73) rfl ?_
              first | (rw [if_neg q1, if_neg q2, if_neg q3, if_neg q4, if_pos q5] at hJ; exact hJ) | (simp only [if_neg q1, if_neg q2, if_neg q3, if_neg q4, if_pos q5] at hJ ⊢; exact hJ)
          · refine x_iconst (pc := 36) dM_rowOf_36 (v := 3) rfl ?_
            refine x_goto (pc := 37) dM_rowOf_37 (t := 73) rfl ?_
            first | (rw [if_neg q1, if_neg q2, if_neg q3, if_pos q4] at hJ; exact hJ) | (simp only [if_neg q1, if_neg q2, if_neg q3, if_pos q4] at hJ ⊢; exact hJ)
        · refine x_iconst (pc := 26) dM_rowOf_26 (v := 2) rfl ?_
          refine x_goto (pc := 27) dM_rowOf_27 (t := 73) rfl ?_
          first | (rw [if_neg q1, if_neg q2, if_pos q3] at hJ; exact hJ) | (simp only [if_neg q1, if_neg q2, if_pos q3] at hJ ⊢; exact hJ)
      · refine x_iconst (pc := 16) dM_rowOf_16 (v := 1) rfl ?_
        refine x_goto (pc := 17) dM_rowOf_17 (t := 73) rfl ?_
        first | (rw [if_neg q1, if_pos q2] at hJ; exact hJ) | (simp only [if_neg q1, if_pos q2] at hJ ⊢; exact hJ)
    · refine x_iconst (pc := 6) dM_rowOf_6 (v := 0) rfl ?_
      refine x_goto (pc := 7) dM_rowOf_7 (t := 73) rfl ?_
      first | (rw [if_pos q1] at hJ; exact hJ) | (simp only [if_pos q1] at hJ ⊢; exact hJ)
  exact x_retQI (pc := 73) dM_rowOf_73 rfl rfl h

theorem dM_readMain_0 : decode (mB mM_readMain) 0 = .ok (.aload_n 0, 1) := op42 (by decide +kernel)
theorem dM_readMain_1 : decode (mB mM_readMain) 1 = .ok (.getfield 130, 3) := op180 0 130 (by decide +kernel)
theorem dM_readMain_4 : decode (mB mM_readMain) 4 = .ok (.ifCond .ne 21, 3) := op154 0 21 (by decide +kernel)
theorem dM_readMain_7 : decode (mB mM_readMain) 7 = .ok (.aload_n 0, 1) := op42 (by decide +kernel)
theorem dM_readMain_8 : decode (mB mM_readMain) 8 = .ok (.aload_n 0, 1) := op42 (by decide +kernel)
theorem dM_readMain_9 : decode (mB mM_readMain) 9 = .ok (.getfield 158, 3) := op180 0 158 (by decide +kernel)
theorem dM_readMain_12 : decode (mB mM_readMain) 12 = .ok (.iconst 1, 1) := op4 (by decide +kernel)
theorem dM_readMain_13 : decode (mB mM_readMain) 13 = .ok (.if_icmp .ne 7, 3) := op160 0 7 (by decide +kernel)
theorem dM_readMain_16 : decode (mB mM_readMain) 16 = .ok (.iconst 1, 1) := op4 (by decide +kernel)
theorem dM_readMain_17 : decode (mB mM_readMain) 17 = .ok (.goto 4, 3) := op167 0 4 (by decide +kernel)
theorem dM_readMain_20 : decode (mB mM_readMain) 20 = .ok (.iconst 0, 1) := op3 (by decide +kernel)
theorem dM_readMain_21 : decode (mB mM_readMain) 21 = .ok (.iconst 2, 1) := op5 (by decide +kernel)
theorem dM_readMain_22 : decode (mB mM_readMain) 22 = .ok (.invokevirtual 172, 3) := op182 0 172 (by decide +kernel)
theorem dM_readMain_25 : decode (mB mM_readMain) 25 = .ok (.aload_n 0, 1) := op42 (by decide +kernel)
theorem dM_readMain_26 : decode (mB mM_readMain) 26 = .ok (.getfield 130, 3) := op180 0 130 (by decide +kernel)
theorem dM_readMain_29 : decode (mB mM_readMain) 29 = .ok (.ifCond .ne 14, 3) := op154 0 14 (by decide +kernel)
theorem dM_readMain_32 : decode (mB mM_readMain) 32 = .ok (.aload_n 0, 1) := op42 (by decide +kernel)
theorem dM_readMain_33 : decode (mB mM_readMain) 33 = .ok (.bipush 97, 2) := op16 97 (by decide +kernel)
theorem dM_readMain_35 : decode (mB mM_readMain) 35 = .ok (.bipush 8, 2) := op16 8 (by decide +kernel)
theorem dM_readMain_37 : decode (mB mM_readMain) 37 = .ok (.invokevirtual 185, 3) := op182 0 185 (by decide +kernel)
theorem dM_readMain_40 : decode (mB mM_readMain) 40 = .ok (.goto 4, 3) := op167 0 4 (by decide +kernel)
theorem dM_readMain_43 : decode (mB mM_readMain) 43 = .ok (.iconst 0, 1) := op3 (by decide +kernel)
theorem dM_readMain_44 : decode (mB mM_readMain) 44 = .ok (.istore_n 1, 1) := op60 (by decide +kernel)
theorem dM_readMain_45 : decode (mB mM_readMain) 45 = .ok (.aload_n 0, 1) := op42 (by decide +kernel)
theorem dM_readMain_46 : decode (mB mM_readMain) 46 = .ok (.getfield 130, 3) := op180 0 130 (by decide +kernel)
theorem dM_readMain_49 : decode (mB mM_readMain) 49 = .ok (.ifCond .ne 19, 3) := op154 0 19 (by decide +kernel)
theorem dM_readMain_52 : decode (mB mM_readMain) 52 = .ok (.aload_n 0, 1) := op42 (by decide +kernel)
theorem dM_readMain_53 : decode (mB mM_readMain) 53 = .ok (.iload_n 1, 1) := op27 (by decide +kernel)
theorem dM_readMain_54 : decode (mB mM_readMain) 54 = .ok (.bipush (-4), 2) := op16 252 (by decide +kernel)
theorem dM_readMain_56 : decode (mB mM_readMain) 56 = .ok (.if_icmp .eq 7, 3) := op159 0 7 (by decide +kernel)
theorem dM_readMain_59 : decode (mB mM_readMain) 59 = .ok (.iconst 1, 1) := op4 (by decide +kernel)
theorem dM_readMain_60 : decode (mB mM_readMain) 60 = .ok (.goto 4, 3) := op167 0 4 (by decide +kernel)
theorem dM_readMain_63 : decode (mB mM_readMain) 63 = .ok (.iconst 0, 1) := op3 (by decide +kernel)
theorem dM_readMain_64 : decode (mB mM_readMain) 64 = .ok (.iconst 3, 1) := op6 (by decide +kernel)
theorem dM_readMain_65 : decode (mB mM_readMain) 65 = .ok (.invokevirtual 172, 3) := op182 0 172 (by decide +kernel)
theorem dM_readMain_68 : decode (mB mM_readMain) 68 = .ok (.aload_n 0, 1) := op42 (by decide +kernel)
theorem dM_readMain_69 : decode (mB mM_readMain) 69 = .ok (.invokevirtual 180, 3) := op182 0 180 (by decide +kernel)
theorem dM_readMain_72 : decode (mB mM_readMain) 72 = .ok (.iload_n 1, 1) := op27 (by decide +kernel)
theorem dM_readMain_73 : decode (mB mM_readMain) 73 = .ok (.ireturn, 1) := op172 (by decide +kernel)

theorem vM_readMain_0 {M : Mm} {b : Nat × Nat} {K : Int32 → Mm → Prop} {v0 : Nat} (kv0 : v0 % 64 = 11) 
    (h : (¬ (gi M v0 16) = 0 → (X mM_readMain 25 [(0, .ref v0)] [] M b (QI K))) ∧ (((gi M v0 16) = 0 ∧ ¬ (gi M v0 14) = 1) → (X mM_readMain 21 [(0, .ref v0)] [.int 0, .ref v0] M b (QI K))) ∧ (((gi M v0 16) = 0 ∧ (gi M v0 14) = 1) → (X mM_readMain 21 [(0, .ref v0)] [.int 1, .ref v0] M b (QI K)))) : X mM_readMain 0 [(0, .ref v0)] [] M b (QI K) := by
  refine x_wf (fun hw => ?_)
  refine x_aload_n (pc := 0) dM_readMain_0 rfl (q := 0) rfl ?_
  refine x_getI (pc := 1) dM_readMain_1 kv0 flM_130 rfl ?_
  obtain ⟨g1_0, g1_1, g1_2⟩ := h
  refine x_if_ne (pc := 4) dM_readMain_4 (t := 25) rfl (fun q1 => ?_) (fun q1 => ?_)
  · have h := g1_0 q1
    exact h
  · refine x_aload_n (pc := 7) dM_readMain_7 rfl (q := 0) rfl ?_
    refine x_aload_n (pc := 8) dM_readMain_8 rfl (q := 0) rfl ?_
    refine x_getI (pc := 9) dM_readMain_9 kv0 flM_158 rfl ?_
    refine x_iconst (pc := 12) dM_readMain_12 (v := 1) rfl ?_
    refine x_icmp_ne (pc := 13) dM_readMain_13 (t := 20) rfl (fun q2 => ?_) (fun q2 => ?_)
    · refine x_iconst (pc := 20) dM_readMain_20 (v := 0) rfl ?_
      have h := g1_1 ⟨q1, q2⟩
      exact h
    · refine x_iconst (pc := 16) dM_readMain_16 (v := 1) rfl ?_
      refine x_goto (pc := 17) dM_readMain_17 (t := 21) rfl ?_
      have h := g1_2 ⟨q1, q2⟩
      exact h

theorem vM_readMain_21 {M : Mm} {b : Nat × Nat} {K : Int32 → Mm → Prop} {v0 : Nat} {w0 : Int32} {w1 : Nat} (kw1 : w1 % 64 = 11) 
    (h : CV mM_wants [.ref w1, .int w0, .int 2] M (fun N => X mM_readMain 25 [(0, .ref v0)] [] N b (QI K))) : X mM_readMain 21 [(0, .ref v0)] [.int w0, .ref w1] M b (QI K) := by
  refine x_wf (fun hw => ?_)
  refine x_iconst (pc := 21) dM_readMain_21 (v := 2) rfl ?_
  exact x_invV (pc := 22) dM_readMain_22 (c := 11) (S := []) (As := [.int w0, .int 2]) mlM_172 hM_wants rfl (by decide) rfl kw1 ⟨by decide, by decide⟩ ⟨Nat.zero_le _, Nat.zero_le _⟩ rfl (Nat.le_of_ble_eq_true rfl) (aftV (b' := b) ⟨Nat.le_refl _, Nat.le_refl _⟩ (fun N h => h) h)

theorem vM_readMain_25 {M : Mm} {b : Nat × Nat} {K : Int32 → Mm → Prop} {v0 : Nat} (kv0 : v0 % 64 = 11) 
    (h : (¬ (gi M v0 16) = 0 → (X mM_readMain 44 [(0, .ref v0)] [.int 0] M b (QI K))) ∧ ((gi M v0 16) = 0 → (CI mM_letters [.ref v0, .int 97, .int 8] M (fun rv N => X mM_readMain 40 [(0, .ref v0)] [.int rv] N b (QI K))))) : X mM_readMain 25 [(0, .ref v0)] [] M b (QI K) := by
  refine x_wf (fun hw => ?_)
  refine x_aload_n (pc := 25) dM_readMain_25 rfl (q := 0) rfl ?_
  refine x_getI (pc := 26) dM_readMain_26 kv0 flM_130 rfl ?_
  obtain ⟨g1_0, g1_1⟩ := h
  refine x_if_ne (pc := 29) dM_readMain_29 (t := 43) rfl (fun q1 => ?_) (fun q1 => ?_)
  · refine x_iconst (pc := 43) dM_readMain_43 (v := 0) rfl ?_
    have h := g1_0 q1
    exact h
  · refine x_aload_n (pc := 32) dM_readMain_32 rfl (q := 0) rfl ?_
    refine x_bipush (pc := 33) dM_readMain_33 (v := 97) rfl ?_
    refine x_bipush (pc := 35) dM_readMain_35 (v := 8) rfl ?_
    have h := g1_1 q1
    exact x_invV (pc := 37) dM_readMain_37 (c := 11) (S := []) (As := [.int 97, .int 8]) mlM_185 hM_letters rfl (by decide) rfl kv0 ⟨by decide, by decide⟩ ⟨Nat.zero_le _, Nat.zero_le _⟩ rfl (Nat.le_of_ble_eq_true rfl) (aftI (b' := b) ⟨Nat.le_refl _, Nat.le_refl _⟩ (fun rv N h => h) h)

theorem vM_readMain_40 {M : Mm} {b : Nat × Nat} {K : Int32 → Mm → Prop} {v0 : Nat} {w0 : Int32}  
    (h : X mM_readMain 44 [(0, .ref v0)] [.int w0] M b (QI K)) : X mM_readMain 40 [(0, .ref v0)] [.int w0] M b (QI K) := by
  refine x_wf (fun hw => ?_)
  refine x_goto (pc := 40) dM_readMain_40 (t := 44) rfl ?_
  exact h

theorem vM_readMain_44 {M : Mm} {b : Nat × Nat} {K : Int32 → Mm → Prop} {v0 : Nat} {w0 : Int32} (kv0 : v0 % 64 = 11) 
    (h : (¬ (gi M v0 16) = 0 → (X mM_readMain 68 [(0, .ref v0), (1, .int w0)] [] M b (QI K))) ∧ (((gi M v0 16) = 0 ∧ w0 = (-4)) → (X mM_readMain 64 [(0, .ref v0), (1, .int w0)] [.int 0, .ref v0] M b (QI K))) ∧ (((gi M v0 16) = 0 ∧ ¬ w0 = (-4)) → (X mM_readMain 64 [(0, .ref v0), (1, .int w0)] [.int 1, .ref v0] M b (QI K)))) : X mM_readMain 44 [(0, .ref v0)] [.int w0] M b (QI K) := by
  refine x_wf (fun hw => ?_)
  refine x_istore_n (pc := 44) dM_readMain_44 rfl (by decide) (L' := [(1, .int w0), (0, .ref v0)]) rfl ?_
  refine x_aload_n (pc := 45) dM_readMain_45 rfl (q := 1) rfl ?_
  refine x_getI (pc := 46) dM_readMain_46 kv0 flM_130 rfl ?_
  obtain ⟨g1_0, g1_1, g1_2⟩ := h
  refine x_if_ne (pc := 49) dM_readMain_49 (t := 68) rfl (fun q1 => ?_) (fun q1 => ?_)
  · have h := g1_0 q1
    exact x_loc [1, 0] rfl h
  · refine x_aload_n (pc := 52) dM_readMain_52 rfl (q := 1) rfl ?_
    refine x_iload_n (pc := 53) dM_readMain_53 rfl (q := 0) rfl ?_
    refine x_bipush (pc := 54) dM_readMain_54 (v := (-4)) rfl ?_
    refine x_icmp_eq (pc := 56) dM_readMain_56 (t := 63) rfl (fun q2 => ?_) (fun q2 => ?_)
    · refine x_iconst (pc := 63) dM_readMain_63 (v := 0) rfl ?_
      have h := g1_1 ⟨q1, q2⟩
      exact x_loc [1, 0] rfl h
    · refine x_iconst (pc := 59) dM_readMain_59 (v := 1) rfl ?_
      refine x_goto (pc := 60) dM_readMain_60 (t := 64) rfl ?_
      have h := g1_2 ⟨q1, q2⟩
      exact x_loc [1, 0] rfl h

theorem vM_readMain_64 {M : Mm} {b : Nat × Nat} {K : Int32 → Mm → Prop} {v0 : Nat} {v1 : Int32} {w0 : Int32} {w1 : Nat} (kw1 : w1 % 64 = 11) 
    (h : CV mM_wants [.ref w1, .int w0, .int 3] M (fun N => X mM_readMain 68 [(0, .ref v0), (1, .int v1)] [] N b (QI K))) : X mM_readMain 64 [(0, .ref v0), (1, .int v1)] [.int w0, .ref w1] M b (QI K) := by
  refine x_wf (fun hw => ?_)
  refine x_iconst (pc := 64) dM_readMain_64 (v := 3) rfl ?_
  exact x_invV (pc := 65) dM_readMain_65 (c := 11) (S := []) (As := [.int w0, .int 3]) mlM_172 hM_wants rfl (by decide) rfl kw1 ⟨by decide, by decide⟩ ⟨Nat.zero_le _, Nat.zero_le _⟩ rfl (Nat.le_of_ble_eq_true rfl) (aftV (b' := b) ⟨Nat.le_refl _, Nat.le_refl _⟩ (fun N h => h) h)

theorem vM_readMain_68 {M : Mm} {b : Nat × Nat} {K : Int32 → Mm → Prop} {v0 : Nat} {v1 : Int32} (kv0 : v0 % 64 = 11) 
    (h : CV mM_next [.ref v0] M (fun N => X mM_readMain 72 [(1, .int v1)] [] N b (QI K))) : X mM_readMain 68 [(0, .ref v0), (1, .int v1)] [] M b (QI K) := by
  refine x_wf (fun hw => ?_)
  refine x_aload_n (pc := 68) dM_readMain_68 rfl (q := 0) rfl ?_
  exact x_invV (pc := 69) dM_readMain_69 (c := 11) (S := []) (As := []) mlM_180 hM_next rfl (by decide) rfl kv0 ⟨by decide, by decide⟩ ⟨Nat.zero_le _, Nat.zero_le _⟩ rfl (Nat.le_of_ble_eq_true rfl) (aftV (b' := b) ⟨Nat.le_refl _, Nat.le_refl _⟩ (fun N h => x_loc [1] rfl h) h)

theorem vM_readMain_72 {M : Mm} {b : Nat × Nat} {K : Int32 → Mm → Prop} {v1 : Int32}  
    (h : K v1 M) : X mM_readMain 72 [(1, .int v1)] [] M b (QI K) := by
  refine x_wf (fun hw => ?_)
  refine x_iload_n (pc := 72) dM_readMain_72 rfl (q := 0) rfl ?_
  exact x_retQI (pc := 73) dM_readMain_73 rfl rfl h

theorem dM_oneOf_0 : decode (mB mM_oneOf) 0 = .ok (.aload_n 0, 1) := op42 (by decide +kernel)
theorem dM_oneOf_1 : decode (mB mM_oneOf) 1 = .ok (.getfield 130, 3) := op180 0 130 (by decide +kernel)
theorem dM_oneOf_4 : decode (mB mM_oneOf) 4 = .ok (.ifCond .ne 21, 3) := op154 0 21 (by decide +kernel)
theorem dM_oneOf_7 : decode (mB mM_oneOf) 7 = .ok (.aload_n 0, 1) := op42 (by decide +kernel)
theorem dM_oneOf_8 : decode (mB mM_oneOf) 8 = .ok (.aload_n 0, 1) := op42 (by decide +kernel)
theorem dM_oneOf_9 : decode (mB mM_oneOf) 9 = .ok (.getfield 158, 3) := op180 0 158 (by decide +kernel)
theorem dM_oneOf_12 : decode (mB mM_oneOf) 12 = .ok (.iconst 1, 1) := op4 (by decide +kernel)
theorem dM_oneOf_13 : decode (mB mM_oneOf) 13 = .ok (.if_icmp .ne 7, 3) := op160 0 7 (by decide +kernel)
theorem dM_oneOf_16 : decode (mB mM_oneOf) 16 = .ok (.iconst 1, 1) := op4 (by decide +kernel)
theorem dM_oneOf_17 : decode (mB mM_oneOf) 17 = .ok (.goto 4, 3) := op167 0 4 (by decide +kernel)
theorem dM_oneOf_20 : decode (mB mM_oneOf) 20 = .ok (.iconst 0, 1) := op3 (by decide +kernel)
theorem dM_oneOf_21 : decode (mB mM_oneOf) 21 = .ok (.iconst 2, 1) := op5 (by decide +kernel)
theorem dM_oneOf_22 : decode (mB mM_oneOf) 22 = .ok (.invokevirtual 172, 3) := op182 0 172 (by decide +kernel)
theorem dM_oneOf_25 : decode (mB mM_oneOf) 25 = .ok (.aload_n 0, 1) := op42 (by decide +kernel)
theorem dM_oneOf_26 : decode (mB mM_oneOf) 26 = .ok (.getfield 130, 3) := op180 0 130 (by decide +kernel)
theorem dM_oneOf_29 : decode (mB mM_oneOf) 29 = .ok (.ifCond .ne 10, 3) := op154 0 10 (by decide +kernel)
theorem dM_oneOf_32 : decode (mB mM_oneOf) 32 = .ok (.aload_n 0, 1) := op42 (by decide +kernel)
theorem dM_oneOf_33 : decode (mB mM_oneOf) 33 = .ok (.invokevirtual 189, 3) := op182 0 189 (by decide +kernel)
theorem dM_oneOf_36 : decode (mB mM_oneOf) 36 = .ok (.goto 5, 3) := op167 0 5 (by decide +kernel)
theorem dM_oneOf_39 : decode (mB mM_oneOf) 39 = .ok (.bipush (-4), 2) := op16 252 (by decide +kernel)
theorem dM_oneOf_41 : decode (mB mM_oneOf) 41 = .ok (.istore 7, 2) := op54 7 (by decide +kernel)
theorem dM_oneOf_43 : decode (mB mM_oneOf) 43 = .ok (.aload_n 0, 1) := op42 (by decide +kernel)
theorem dM_oneOf_44 : decode (mB mM_oneOf) 44 = .ok (.getfield 130, 3) := op180 0 130 (by decide +kernel)
theorem dM_oneOf_47 : decode (mB mM_oneOf) 47 = .ok (.ifCond .ne 32, 3) := op154 0 32 (by decide +kernel)
theorem dM_oneOf_50 : decode (mB mM_oneOf) 50 = .ok (.aload_n 0, 1) := op42 (by decide +kernel)
theorem dM_oneOf_51 : decode (mB mM_oneOf) 51 = .ok (.iload 7, 2) := op21 7 (by decide +kernel)
theorem dM_oneOf_53 : decode (mB mM_oneOf) 53 = .ok (.iload_n 1, 1) := op27 (by decide +kernel)
theorem dM_oneOf_54 : decode (mB mM_oneOf) 54 = .ok (.if_icmp .eq 16, 3) := op159 0 16 (by decide +kernel)
theorem dM_oneOf_57 : decode (mB mM_oneOf) 57 = .ok (.iload 7, 2) := op21 7 (by decide +kernel)
theorem dM_oneOf_59 : decode (mB mM_oneOf) 59 = .ok (.iload_n 3, 1) := op29 (by decide +kernel)
theorem dM_oneOf_60 : decode (mB mM_oneOf) 60 = .ok (.if_icmp .eq 10, 3) := op159 0 10 (by decide +kernel)
theorem dM_oneOf_63 : decode (mB mM_oneOf) 63 = .ok (.iload 7, 2) := op21 7 (by decide +kernel)
theorem dM_oneOf_65 : decode (mB mM_oneOf) 65 = .ok (.iload 5, 2) := op21 5 (by decide +kernel)
theorem dM_oneOf_67 : decode (mB mM_oneOf) 67 = .ok (.if_icmp .ne 7, 3) := op160 0 7 (by decide +kernel)
theorem dM_oneOf_70 : decode (mB mM_oneOf) 70 = .ok (.iconst 1, 1) := op4 (by decide +kernel)
theorem dM_oneOf_71 : decode (mB mM_oneOf) 71 = .ok (.goto 4, 3) := op167 0 4 (by decide +kernel)
theorem dM_oneOf_74 : decode (mB mM_oneOf) 74 = .ok (.iconst 0, 1) := op3 (by decide +kernel)
theorem dM_oneOf_75 : decode (mB mM_oneOf) 75 = .ok (.iconst 2, 1) := op5 (by decide +kernel)
theorem dM_oneOf_76 : decode (mB mM_oneOf) 76 = .ok (.invokevirtual 172, 3) := op182 0 172 (by decide +kernel)
theorem dM_oneOf_79 : decode (mB mM_oneOf) 79 = .ok (.aload_n 0, 1) := op42 (by decide +kernel)
theorem dM_oneOf_80 : decode (mB mM_oneOf) 80 = .ok (.invokevirtual 180, 3) := op182 0 180 (by decide +kernel)
theorem dM_oneOf_83 : decode (mB mM_oneOf) 83 = .ok (.iload 7, 2) := op21 7 (by decide +kernel)
theorem dM_oneOf_85 : decode (mB mM_oneOf) 85 = .ok (.iload_n 1, 1) := op27 (by decide +kernel)
theorem dM_oneOf_86 : decode (mB mM_oneOf) 86 = .ok (.if_icmp .ne 7, 3) := op160 0 7 (by decide +kernel)
theorem dM_oneOf_89 : decode (mB mM_oneOf) 89 = .ok (.iload_n 2, 1) := op28 (by decide +kernel)
theorem dM_oneOf_90 : decode (mB mM_oneOf) 90 = .ok (.goto 16, 3) := op167 0 16 (by decide +kernel)
theorem dM_oneOf_93 : decode (mB mM_oneOf) 93 = .ok (.iload 7, 2) := op21 7 (by decide +kernel)
theorem dM_oneOf_95 : decode (mB mM_oneOf) 95 = .ok (.iload_n 3, 1) := op29 (by decide +kernel)
theorem dM_oneOf_96 : decode (mB mM_oneOf) 96 = .ok (.if_icmp .ne 8, 3) := op160 0 8 (by decide +kernel)
theorem dM_oneOf_99 : decode (mB mM_oneOf) 99 = .ok (.iload 4, 2) := op21 4 (by decide +kernel)
theorem dM_oneOf_101 : decode (mB mM_oneOf) 101 = .ok (.goto 5, 3) := op167 0 5 (by decide +kernel)
theorem dM_oneOf_104 : decode (mB mM_oneOf) 104 = .ok (.iload 6, 2) := op21 6 (by decide +kernel)
theorem dM_oneOf_106 : decode (mB mM_oneOf) 106 = .ok (.ireturn, 1) := op172 (by decide +kernel)

theorem vM_oneOf_0 {M : Mm} {b : Nat × Nat} {K : Int32 → Mm → Prop} {v0 : Nat} {v1 : Int32} {v2 : Int32} {v3 : Int32} {v4 : Int32} {v5 : Int32} {v6 : Int32} (kv0 : v0 % 64 = 11) 
    (h : (¬ (gi M v0 16) = 0 → (X mM_oneOf 25 [(0, .ref v0), (1, .int v1), (2, .int v2), (3, .int v3), (4, .int v4), (5, .int v5), (6, .int v6)] [] M b (QI K))) ∧ (((gi M v0 16) = 0 ∧ ¬ (gi M v0 14) = 1) → (X mM_oneOf 21 [(0, .ref v0), (1, .int v1), (2, .int v2), (3, .int v3), (4, .int v4), (5, .int v5), (6, .int v6)] [.int 0, .ref v0] M b (QI K))) ∧ (((gi M v0 16) = 0 ∧ (gi M v0 14) = 1) → (X mM_oneOf 21 [(0, .ref v0), (1, .int v1), (2, .int v2), (3, .int v3), (4, .int v4), (5, .int v5), (6, .int v6)] [.int 1, .ref v0] M b (QI K)))) : X mM_oneOf 0 [(0, .ref v0), (1, .int v1), (2, .int v2), (3, .int v3), (4, .int v4), (5, .int v5), (6, .int v6)] [] M b (QI K) := by
  refine x_wf (fun hw => ?_)
  refine x_aload_n (pc := 0) dM_oneOf_0 rfl (q := 0) rfl ?_
  refine x_getI (pc := 1) dM_oneOf_1 kv0 flM_130 rfl ?_
  obtain ⟨g1_0, g1_1, g1_2⟩ := h
  refine x_if_ne (pc := 4) dM_oneOf_4 (t := 25) rfl (fun q1 => ?_) (fun q1 => ?_)
  · have h := g1_0 q1
    exact h
  · refine x_aload_n (pc := 7) dM_oneOf_7 rfl (q := 0) rfl ?_
    refine x_aload_n (pc := 8) dM_oneOf_8 rfl (q := 0) rfl ?_
    refine x_getI (pc := 9) dM_oneOf_9 kv0 flM_158 rfl ?_
    refine x_iconst (pc := 12) dM_oneOf_12 (v := 1) rfl ?_
    refine x_icmp_ne (pc := 13) dM_oneOf_13 (t := 20) rfl (fun q2 => ?_) (fun q2 => ?_)
    · refine x_iconst (pc := 20) dM_oneOf_20 (v := 0) rfl ?_
      have h := g1_1 ⟨q1, q2⟩
      exact h
    · refine x_iconst (pc := 16) dM_oneOf_16 (v := 1) rfl ?_
      refine x_goto (pc := 17) dM_oneOf_17 (t := 21) rfl ?_
      have h := g1_2 ⟨q1, q2⟩
      exact h

theorem vM_oneOf_21 {M : Mm} {b : Nat × Nat} {K : Int32 → Mm → Prop} {v0 : Nat} {v1 : Int32} {v2 : Int32} {v3 : Int32} {v4 : Int32} {v5 : Int32} {v6 : Int32} {w0 : Int32} {w1 : Nat} (kw1 : w1 % 64 = 11) 
    (h : CV mM_wants [.ref w1, .int w0, .int 2] M (fun N => X mM_oneOf 25 [(0, .ref v0), (1, .int v1), (2, .int v2), (3, .int v3), (4, .int v4), (5, .int v5), (6, .int v6)] [] N b (QI K))) : X mM_oneOf 21 [(0, .ref v0), (1, .int v1), (2, .int v2), (3, .int v3), (4, .int v4), (5, .int v5), (6, .int v6)] [.int w0, .ref w1] M b (QI K) := by
  refine x_wf (fun hw => ?_)
  refine x_iconst (pc := 21) dM_oneOf_21 (v := 2) rfl ?_
  exact x_invV (pc := 22) dM_oneOf_22 (c := 11) (S := []) (As := [.int w0, .int 2]) mlM_172 hM_wants rfl (by decide) rfl kw1 ⟨by decide, by decide⟩ ⟨Nat.zero_le _, Nat.zero_le _⟩ rfl (Nat.le_of_ble_eq_true rfl) (aftV (b' := b) ⟨Nat.le_refl _, Nat.le_refl _⟩ (fun N h => h) h)

theorem vM_oneOf_25 {M : Mm} {b : Nat × Nat} {K : Int32 → Mm → Prop} {v0 : Nat} {v1 : Int32} {v2 : Int32} {v3 : Int32} {v4 : Int32} {v5 : Int32} {v6 : Int32} (kv0 : v0 % 64 = 11) 
    (h : (¬ (gi M v0 16) = 0 → (X mM_oneOf 41 [(0, .ref v0), (1, .int v1), (2, .int v2), (3, .int v3), (4, .int v4), (5, .int v5), (6, .int v6)] [.int (-4)] M b (QI K))) ∧ ((gi M v0 16) = 0 → (CI mM_nameNow [.ref v0] M (fun rv N => X mM_oneOf 36 [(0, .ref v0), (1, .int v1), (2, .int v2), (3, .int v3), (4, .int v4), (5, .int v5), (6, .int v6)] [.int rv] N b (QI K))))) : X mM_oneOf 25 [(0, .ref v0), (1, .int v1), (2, .int v2), (3, .int v3), (4, .int v4), (5, .int v5), (6, .int v6)] [] M b (QI K) := by
  refine x_wf (fun hw => ?_)
  refine x_aload_n (pc := 25) dM_oneOf_25 rfl (q := 0) rfl ?_
  refine x_getI (pc := 26) dM_oneOf_26 kv0 flM_130 rfl ?_
  obtain ⟨g1_0, g1_1⟩ := h
  refine x_if_ne (pc := 29) dM_oneOf_29 (t := 39) rfl (fun q1 => ?_) (fun q1 => ?_)
  · refine x_bipush (pc := 39) dM_oneOf_39 (v := (-4)) rfl ?_
    have h := g1_0 q1
    exact h
  · refine x_aload_n (pc := 32) dM_oneOf_32 rfl (q := 0) rfl ?_
    have h := g1_1 q1
    exact x_invV (pc := 33) dM_oneOf_33 (c := 11) (S := []) (As := []) mlM_189 hM_nameNow rfl (by decide) rfl kv0 ⟨by decide, by decide⟩ ⟨Nat.zero_le _, Nat.zero_le _⟩ rfl (Nat.le_of_ble_eq_true rfl) (aftI (b' := b) ⟨Nat.le_refl _, Nat.le_refl _⟩ (fun rv N h => h) h)

theorem vM_oneOf_36 {M : Mm} {b : Nat × Nat} {K : Int32 → Mm → Prop} {v0 : Nat} {v1 : Int32} {v2 : Int32} {v3 : Int32} {v4 : Int32} {v5 : Int32} {v6 : Int32} {w0 : Int32}  
    (h : X mM_oneOf 41 [(0, .ref v0), (1, .int v1), (2, .int v2), (3, .int v3), (4, .int v4), (5, .int v5), (6, .int v6)] [.int w0] M b (QI K)) : X mM_oneOf 36 [(0, .ref v0), (1, .int v1), (2, .int v2), (3, .int v3), (4, .int v4), (5, .int v5), (6, .int v6)] [.int w0] M b (QI K) := by
  refine x_wf (fun hw => ?_)
  refine x_goto (pc := 36) dM_oneOf_36 (t := 41) rfl ?_
  exact h

theorem vM_oneOf_41 {M : Mm} {b : Nat × Nat} {K : Int32 → Mm → Prop} {v0 : Nat} {v1 : Int32} {v2 : Int32} {v3 : Int32} {v4 : Int32} {v5 : Int32} {v6 : Int32} {w0 : Int32} (kv0 : v0 % 64 = 11) 
    (h : (¬ (gi M v0 16) = 0 → (X mM_oneOf 79 [(0, .ref v0), (1, .int v1), (2, .int v2), (3, .int v3), (4, .int v4), (6, .int v6), (7, .int w0)] [] M b (QI K))) ∧ ((((gi M v0 16) = 0 ∧ w0 = v1) ∨ ((gi M v0 16) = 0 ∧ ¬ w0 = v1 ∧ w0 = v3) ∨ ((gi M v0 16) = 0 ∧ ¬ w0 = v1 ∧ ¬ w0 = v3 ∧ w0 = v5)) → (X mM_oneOf 75 [(0, .ref v0), (1, .int v1), (2, .int v2), (3, .int v3), (4, .int v4), (6, .int v6), (7, .int w0)] [.int 1, .ref v0] M b (QI K))) ∧ (((gi M v0 16) = 0 ∧ ¬ w0 = v1 ∧ ¬ w0 = v3 ∧ ¬ w0 = v5) → (X mM_oneOf 75 [(0, .ref v0), (1, .int v1), (2, .int v2), (3, .int v3), (4, .int v4), (6, .int v6), (7, .int w0)] [.int 0, .ref v0] M b (QI K)))) : X mM_oneOf 41 [(0, .ref v0), (1, .int v1), (2, .int v2), (3, .int v3), (4, .int v4), (5, .int v5), (6, .int v6)] [.int w0] M b (QI K) := by
  refine x_wf (fun hw => ?_)
  refine x_istore (pc := 41) dM_oneOf_41 (by decide) (L' := [(7, .int w0), (0, .ref v0), (1, .int v1), (2, .int v2), (3, .int v3), (4, .int v4), (5, .int v5), (6, .int v6)]) rfl ?_
  refine x_aload_n (pc := 43) dM_oneOf_43 rfl (q := 1) rfl ?_
  refine x_getI (pc := 44) dM_oneOf_44 kv0 flM_130 rfl ?_
  obtain ⟨g1_0, g1_1, g1_2⟩ := h
  have g1_k1 : ((gi M v0 16) = 0 ∧ w0 = v1) ∨ ((gi M v0 16) = 0 ∧ ¬ w0 = v1 ∧ w0 = v3) ∨ ((gi M v0 16) = 0 ∧ ¬ w0 = v1 ∧ ¬ w0 = v3 ∧ w0 = v5) → X mM_oneOf 70 [(7, .int w0), (0, .ref v0), (1, .int v1), (2, .int v2), (3, .int v3), (4, .int v4), (5, .int v5), (6, .int v6)] [.ref v0] M b (QI K) := fun q => by
    have h := g1_1 q
    refine x_iconst (pc := 70) dM_oneOf_70 (v := 1) rfl ?_
    refine x_goto (pc := 71) dM_oneOf_71 (t := 75) rfl ?_
    exact x_loc [1, 2, 3, 4, 5, 7, 0] rfl h
  refine x_if_ne (pc := 47) dM_oneOf_47 (t := 79) rfl (fun q1 => ?_) (fun q1 => ?_)
  · have h := g1_0 q1
    exact x_loc [1, 2, 3, 4, 5, 7, 0] rfl h
  · refine x_aload_n (pc := 50) dM_oneOf_50 rfl (q := 1) rfl ?_
    refine x_iload (pc := 51) dM_oneOf_51 (q := 0) rfl ?_
    refine x_iload_n (pc := 53) dM_oneOf_53 rfl (q := 2) rfl ?_
    refine x_icmp_eq (pc := 54) dM_oneOf_54 (t := 70) rfl (fun q2 => ?_) (fun q2 => ?_)
    · exact g1_k1 (Or.inl ⟨q1, q2⟩)
    · refine x_iload (pc := 57) dM_oneOf_57 (q := 0) rfl ?_
      refine x_iload_n (pc := 59) dM_oneOf_59 rfl (q := 4) rfl ?_
      refine x_icmp_eq (pc := 60) dM_oneOf_60 (t := 70) rfl (fun q3 => ?_) (fun q3 => ?_)
      · exact g1_k1 (Or.inr (Or.inl ⟨q1, q2, q3⟩))
      · refine x_iload (pc := 63) dM_oneOf_63 (q := 0) rfl ?_
        refine x_iload (pc := 65) dM_oneOf_65 (q := 6) rfl ?_
        refine x_icmp_ne (pc := 67) dM_oneOf_67 (t := 74) rfl (fun q4 => ?_) (fun q4 => ?_)
        · refine x_iconst (pc := 74) dM_oneOf_74 (v := 0) rfl ?_
          have h := g1_2 ⟨q1, q2, q3, q4⟩
          exact x_loc [1, 2, 3, 4, 5, 7, 0] rfl h
        · exact g1_k1 (Or.inr (Or.inr ⟨q1, q2, q3, q4⟩))

theorem vM_oneOf_75 {M : Mm} {b : Nat × Nat} {K : Int32 → Mm → Prop} {v0 : Nat} {v1 : Int32} {v2 : Int32} {v3 : Int32} {v4 : Int32} {v6 : Int32} {v7 : Int32} {w0 : Int32} {w1 : Nat} (kw1 : w1 % 64 = 11) 
    (h : CV mM_wants [.ref w1, .int w0, .int 2] M (fun N => X mM_oneOf 79 [(0, .ref v0), (1, .int v1), (2, .int v2), (3, .int v3), (4, .int v4), (6, .int v6), (7, .int v7)] [] N b (QI K))) : X mM_oneOf 75 [(0, .ref v0), (1, .int v1), (2, .int v2), (3, .int v3), (4, .int v4), (6, .int v6), (7, .int v7)] [.int w0, .ref w1] M b (QI K) := by
  refine x_wf (fun hw => ?_)
  refine x_iconst (pc := 75) dM_oneOf_75 (v := 2) rfl ?_
  exact x_invV (pc := 76) dM_oneOf_76 (c := 11) (S := []) (As := [.int w0, .int 2]) mlM_172 hM_wants rfl (by decide) rfl kw1 ⟨by decide, by decide⟩ ⟨Nat.zero_le _, Nat.zero_le _⟩ rfl (Nat.le_of_ble_eq_true rfl) (aftV (b' := b) ⟨Nat.le_refl _, Nat.le_refl _⟩ (fun N h => h) h)

theorem vM_oneOf_79 {M : Mm} {b : Nat × Nat} {K : Int32 → Mm → Prop} {v0 : Nat} {v1 : Int32} {v2 : Int32} {v3 : Int32} {v4 : Int32} {v6 : Int32} {v7 : Int32} (kv0 : v0 % 64 = 11) 
    (h : CV mM_next [.ref v0] M (fun N => X mM_oneOf 83 [(1, .int v1), (2, .int v2), (3, .int v3), (4, .int v4), (6, .int v6), (7, .int v7)] [] N b (QI K))) : X mM_oneOf 79 [(0, .ref v0), (1, .int v1), (2, .int v2), (3, .int v3), (4, .int v4), (6, .int v6), (7, .int v7)] [] M b (QI K) := by
  refine x_wf (fun hw => ?_)
  refine x_aload_n (pc := 79) dM_oneOf_79 rfl (q := 0) rfl ?_
  exact x_invV (pc := 80) dM_oneOf_80 (c := 11) (S := []) (As := []) mlM_180 hM_next rfl (by decide) rfl kv0 ⟨by decide, by decide⟩ ⟨Nat.zero_le _, Nat.zero_le _⟩ rfl (Nat.le_of_ble_eq_true rfl) (aftV (b' := b) ⟨Nat.le_refl _, Nat.le_refl _⟩ (fun N h => x_loc [1, 2, 3, 4, 5, 6] rfl h) h)

theorem vM_oneOf_83 {M : Mm} {b : Nat × Nat} {K : Int32 → Mm → Prop} {v1 : Int32} {v2 : Int32} {v3 : Int32} {v4 : Int32} {v6 : Int32} {v7 : Int32}  
    (h : K (if v7 = v1 then v2 else (if v7 = v3 then v4 else v6 : Int32) : Int32) M) : X mM_oneOf 83 [(1, .int v1), (2, .int v2), (3, .int v3), (4, .int v4), (6, .int v6), (7, .int v7)] [] M b (QI K) := by
  refine x_wf (fun hw => ?_)
  refine x_iload (pc := 83) dM_oneOf_83 (q := 5) rfl ?_
  refine x_iload_n (pc := 85) dM_oneOf_85 rfl (q := 0) rfl ?_
  suffices hJ : X mM_oneOf 106 [(1, .int v1), (2, .int v2), (3, .int v3), (4, .int v4), (6, .int v6), (7, .int v7)] [.int (if v7 = v1 then v2 else (if v7 = v3 then v4 else v6 : Int32) : Int32)] M b (QI K) by
    refine x_icmp_ne (pc := 86) dM_oneOf_86 (t := 93) rfl (fun q1 => ?_) (fun q1 => ?_)
    · refine x_iload (pc := 93) dM_oneOf_93 (q := 5) rfl ?_
      refine x_iload_n (pc := 95) dM_oneOf_95 rfl (q := 2) rfl ?_
      refine x_icmp_ne (pc := 96) dM_oneOf_96 (t := 104) rfl (fun q2 => ?_) (fun q2 => ?_)
      · refine x_iload (pc := 104) dM_oneOf_104 (q := 4) rfl ?_
        first | (rw [if_neg q1, if_neg q2] at hJ; exact hJ) | (simp only [if_neg q1, if_neg q2] at hJ ⊢; exact hJ)
      · refine x_iload (pc := 99) dM_oneOf_99 (q := 3) rfl ?_
        refine x_goto (pc := 101) dM_oneOf_101 (t := 106) rfl ?_
        first | (rw [if_neg q1, if_pos q2] at hJ; exact hJ) | (simp only [if_neg q1, if_pos q2] at hJ ⊢; exact hJ)
    · refine x_iload_n (pc := 89) dM_oneOf_89 rfl (q := 1) rfl ?_
      refine x_goto (pc := 90) dM_oneOf_90 (t := 106) rfl ?_
      first | (rw [if_pos q1] at hJ; exact hJ) | (simp only [if_pos q1] at hJ ⊢; exact hJ)
  exact x_retQI (pc := 106) dM_oneOf_106 rfl rfl h

theorem dM_fault_0 : decode (mB mM_fault) 0 = .ok (.aload_n 0, 1) := op42 (by decide +kernel)
theorem dM_fault_1 : decode (mB mM_fault) 1 = .ok (.getfield 130, 3) := op180 0 130 (by decide +kernel)
theorem dM_fault_4 : decode (mB mM_fault) 4 = .ok (.ireturn, 1) := op172 (by decide +kernel)

theorem vM_fault_0 {M : Mm} {b : Nat × Nat} {K : Int32 → Mm → Prop} {v0 : Nat} (kv0 : v0 % 64 = 11) 
    (h : K (gi M v0 16) M) : X mM_fault 0 [(0, .ref v0)] [] M b (QI K) := by
  refine x_wf (fun hw => ?_)
  refine x_aload_n (pc := 0) dM_fault_0 rfl (q := 0) rfl ?_
  refine x_getI (pc := 1) dM_fault_1 kv0 flM_130 rfl ?_
  exact x_retQI (pc := 4) dM_fault_4 rfl rfl h

theorem dM_weighs_0 : decode (mB mM_weighs) 0 = .ok (.iload_n 1, 1) := op27 (by decide +kernel)
theorem dM_weighs_1 : decode (mB mM_weighs) 1 = .ok (.i2l, 1) := op133 (by decide +kernel)
theorem dM_weighs_2 : decode (mB mM_weighs) 2 = .ok (.lconst 0, 1) := op9 (by decide +kernel)
theorem dM_weighs_3 : decode (mB mM_weighs) 3 = .ok (.ldc2_w 237, 3) := op20 0 237 (by decide +kernel)
theorem dM_weighs_6 : decode (mB mM_weighs) 6 = .ok (.invokestatic 126, 3) := op184 0 126 (by decide +kernel)
theorem dM_weighs_9 : decode (mB mM_weighs) 9 = .ok (.ifCond .eq 12, 3) := op153 0 12 (by decide +kernel)
theorem dM_weighs_12 : decode (mB mM_weighs) 12 = .ok (.aload_n 0, 1) := op42 (by decide +kernel)
theorem dM_weighs_13 : decode (mB mM_weighs) 13 = .ok (.getfield 36, 3) := op180 0 36 (by decide +kernel)
theorem dM_weighs_16 : decode (mB mM_weighs) 16 = .ok (.iload_n 1, 1) := op27 (by decide +kernel)
theorem dM_weighs_17 : decode (mB mM_weighs) 17 = .ok (.iaload, 1) := op46 (by decide +kernel)
theorem dM_weighs_18 : decode (mB mM_weighs) 18 = .ok (.goto 4, 3) := op167 0 4 (by decide +kernel)
theorem dM_weighs_21 : decode (mB mM_weighs) 21 = .ok (.iconst (-1), 1) := op2 (by decide +kernel)
theorem dM_weighs_22 : decode (mB mM_weighs) 22 = .ok (.ireturn, 1) := op172 (by decide +kernel)

theorem vM_weighs_0 {M : Mm} {b : Nat × Nat} {K : Int32 → Mm → Prop} {v0 : Nat} {v1 : Int32}  
    (h : CI mM_in [.long ((v1).toInt64), .long 0, .long 6] M (fun rv N => X mM_weighs 9 [(0, .ref v0), (1, .int v1)] [.int rv] N b (QI K))) : X mM_weighs 0 [(0, .ref v0), (1, .int v1)] [] M b (QI K) := by
  refine x_wf (fun hw => ?_)
  refine x_iload_n (pc := 0) dM_weighs_0 rfl (q := 1) rfl ?_
  refine x_i2l (pc := 1) dM_weighs_1 ?_
  refine x_lconst (pc := 2) dM_weighs_2 (v := 0) rfl ?_
  refine x_ldc2 (pc := 3) dM_weighs_3 klM_237 ?_
  exact x_invS (pc := 6) dM_weighs_6 (S := []) (As := [.long ((v1).toInt64), .long 0, .long 6]) mlM_126 hM_in rfl ⟨by decide, by decide⟩ ⟨Nat.zero_le _, Nat.zero_le _⟩ rfl (Nat.le_of_ble_eq_true rfl) (aftI (b' := b) ⟨Nat.le_refl _, Nat.le_refl _⟩ (fun rv N h => h) h)

theorem vM_weighs_9 {M : Mm} {b : Nat × Nat} {K : Int32 → Mm → Prop} {v0 : Nat} {v1 : Int32} {w0 : Int32} {r1 : Nat} (kv0 : v0 % 64 = 11) (e1 : gr M v0 18 = some r1)
    (h : (¬ w0 = 0 → vp_in v1 7) ∧ (K (if w0 = 0 then (-1) else (gi M r1 (v1).toNatClampNeg) : Int32) M)) : X mM_weighs 9 [(0, .ref v0), (1, .int v1)] [.int w0] M b (QI K) := by
  refine x_wf (fun hw => ?_)
  obtain ⟨s1, h⟩ := h
  suffices hJ : X mM_weighs 22 [(0, .ref v0), (1, .int v1)] [.int (if w0 = 0 then (-1) else (gi M r1 (v1).toNatClampNeg) : Int32)] M b (QI K) by
    refine x_if_eq (pc := 9) dM_weighs_9 (t := 21) rfl (fun q1 => ?_) (fun q1 => ?_)
    · refine x_iconst (pc := 21) dM_weighs_21 (v := (-1)) rfl ?_
      first | (rw [if_pos q1] at hJ; exact hJ) | (simp only [if_pos q1] at hJ ⊢; exact hJ)
    · refine x_aload_n (pc := 12) dM_weighs_12 rfl (q := 0) rfl ?_
      refine x_getR (pc := 13) dM_weighs_13 kv0 flM_36 rfl e1 ?_
      refine x_iload_n (pc := 16) dM_weighs_16 rfl (q := 1) rfl ?_
      refine x_aldIj (pc := 17) (j := (v1).toNatClampNeg) (Or.inl ⟨rfl, rfl⟩) dM_weighs_17 (wfk hw e1 kv0) ak_15 rfl (s1 q1) ?_
      refine x_goto (pc := 18) dM_weighs_18 (t := 22) rfl ?_
      first | (rw [if_neg q1] at hJ; exact hJ) | (simp only [if_neg q1] at hJ ⊢; exact hJ)
  exact x_retQI (pc := 22) dM_weighs_22 rfl rfl h

theorem dM_word_0 : decode (mB mM_word) 0 = .ok (.aload_n 0, 1) := op42 (by decide +kernel)
theorem dM_word_1 : decode (mB mM_word) 1 = .ok (.iload_n 1, 1) := op27 (by decide +kernel)
theorem dM_word_2 : decode (mB mM_word) 2 = .ok (.invokevirtual 267, 3) := op182 1 11 (by decide +kernel)
theorem dM_word_5 : decode (mB mM_word) 5 = .ok (.ifCond .eq 15, 3) := op153 0 15 (by decide +kernel)
theorem dM_word_8 : decode (mB mM_word) 8 = .ok (.iload_n 2, 1) := op28 (by decide +kernel)
theorem dM_word_9 : decode (mB mM_word) 9 = .ok (.i2l, 1) := op133 (by decide +kernel)
theorem dM_word_10 : decode (mB mM_word) 10 = .ok (.lconst 0, 1) := op9 (by decide +kernel)
theorem dM_word_11 : decode (mB mM_word) 11 = .ok (.ldc2_w 270, 3) := op20 1 14 (by decide +kernel)
theorem dM_word_14 : decode (mB mM_word) 14 = .ok (.invokestatic 126, 3) := op184 0 126 (by decide +kernel)
theorem dM_word_17 : decode (mB mM_word) 17 = .ok (.ifCond .ne 5, 3) := op154 0 5 (by decide +kernel)
theorem dM_word_20 : decode (mB mM_word) 20 = .ok (.iconst (-1), 1) := op2 (by decide +kernel)
theorem dM_word_21 : decode (mB mM_word) 21 = .ok (.ireturn, 1) := op172 (by decide +kernel)
theorem dM_word_22 : decode (mB mM_word) 22 = .ok (.iload_n 2, 1) := op28 (by decide +kernel)
theorem dM_word_23 : decode (mB mM_word) 23 = .ok (.bipush 8, 2) := op16 8 (by decide +kernel)
theorem dM_word_25 : decode (mB mM_word) 25 = .ok (.if_icmp .ne 11, 3) := op160 0 11 (by decide +kernel)
theorem dM_word_28 : decode (mB mM_word) 28 = .ok (.aload_n 0, 1) := op42 (by decide +kernel)
theorem dM_word_29 : decode (mB mM_word) 29 = .ok (.iload_n 1, 1) := op27 (by decide +kernel)
theorem dM_word_30 : decode (mB mM_word) 30 = .ok (.invokevirtual 272, 3) := op182 1 16 (by decide +kernel)
theorem dM_word_33 : decode (mB mM_word) 33 = .ok (.goto 9, 3) := op167 0 9 (by decide +kernel)
theorem dM_word_36 : decode (mB mM_word) 36 = .ok (.aload_n 0, 1) := op42 (by decide +kernel)
theorem dM_word_37 : decode (mB mM_word) 37 = .ok (.iload_n 1, 1) := op27 (by decide +kernel)
theorem dM_word_38 : decode (mB mM_word) 38 = .ok (.iload_n 2, 1) := op28 (by decide +kernel)
theorem dM_word_39 : decode (mB mM_word) 39 = .ok (.invokevirtual 244, 3) := op182 0 244 (by decide +kernel)
theorem dM_word_42 : decode (mB mM_word) 42 = .ok (.ireturn, 1) := op172 (by decide +kernel)

theorem vM_word_0 {M : Mm} {b : Nat × Nat} {K : Int32 → Mm → Prop} {v0 : Nat} {v1 : Int32} {v2 : Int32} (kv0 : v0 % 64 = 11) 
    (h : CI mM_isWord [.ref v0, .int v1] M (fun rv N => X mM_word 5 [(0, .ref v0), (1, .int v1), (2, .int v2)] [.int rv] N b (QI K))) : X mM_word 0 [(0, .ref v0), (1, .int v1), (2, .int v2)] [] M b (QI K) := by
  refine x_wf (fun hw => ?_)
  refine x_aload_n (pc := 0) dM_word_0 rfl (q := 0) rfl ?_
  refine x_iload_n (pc := 1) dM_word_1 rfl (q := 1) rfl ?_
  exact x_invV (pc := 2) dM_word_2 (c := 11) (S := []) (As := [.int v1]) mlM_267 hM_isWord rfl (by decide) rfl kv0 ⟨by decide, by decide⟩ ⟨Nat.zero_le _, Nat.zero_le _⟩ rfl (Nat.le_of_ble_eq_true rfl) (aftI (b' := b) ⟨Nat.le_refl _, Nat.le_refl _⟩ (fun rv N h => h) h)

theorem vM_word_5 {M : Mm} {b : Nat × Nat} {K : Int32 → Mm → Prop} {v0 : Nat} {v1 : Int32} {v2 : Int32} {w0 : Int32}  
    (h : (w0 = 0 → (K (-1) M)) ∧ (¬ w0 = 0 → (CI mM_in [.long ((v2).toInt64), .long 0, .long 8] M (fun rv N => X mM_word 17 [(0, .ref v0), (1, .int v1), (2, .int v2)] [.int rv] N b (QI K))))) : X mM_word 5 [(0, .ref v0), (1, .int v1), (2, .int v2)] [.int w0] M b (QI K) := by
  refine x_wf (fun hw => ?_)
  obtain ⟨g1_0, g1_1⟩ := h
  refine x_if_eq (pc := 5) dM_word_5 (t := 20) rfl (fun q1 => ?_) (fun q1 => ?_)
  · have h := g1_0 q1
    refine x_iconst (pc := 20) dM_word_20 (v := (-1)) rfl ?_
    exact x_retQI (pc := 21) dM_word_21 rfl rfl h
  · refine x_iload_n (pc := 8) dM_word_8 rfl (q := 2) rfl ?_
    refine x_i2l (pc := 9) dM_word_9 ?_
    refine x_lconst (pc := 10) dM_word_10 (v := 0) rfl ?_
    refine x_ldc2 (pc := 11) dM_word_11 klM_270 ?_
    have h := g1_1 q1
    exact x_invS (pc := 14) dM_word_14 (S := []) (As := [.long ((v2).toInt64), .long 0, .long 8]) mlM_126 hM_in rfl ⟨by decide, by decide⟩ ⟨Nat.zero_le _, Nat.zero_le _⟩ rfl (Nat.le_of_ble_eq_true rfl) (aftI (b' := b) ⟨Nat.le_refl _, Nat.le_refl _⟩ (fun rv N h => h) h)

theorem vM_word_17 {M : Mm} {b : Nat × Nat} {K : Int32 → Mm → Prop} {v0 : Nat} {v1 : Int32} {v2 : Int32} {w0 : Int32} (kv0 : v0 % 64 = 11) 
    (h : ((¬ w0 = 0 ∧ ¬ v2 = 8) → (CI mM_of [.ref v0, .int v1, .int v2] M (fun rv N => X mM_word 42 [] [.int rv] N b (QI K)))) ∧ ((¬ w0 = 0 ∧ v2 = 8) → (CI mM_weightOf [.ref v0, .int v1] M (fun rv N => X mM_word 33 [] [.int rv] N b (QI K)))) ∧ (w0 = 0 → (K (-1) M))) : X mM_word 17 [(0, .ref v0), (1, .int v1), (2, .int v2)] [.int w0] M b (QI K) := by
  refine x_wf (fun hw => ?_)
  obtain ⟨g1_0, g1_1, g1_2⟩ := h
  refine x_if_ne (pc := 17) dM_word_17 (t := 22) rfl (fun q1 => ?_) (fun q1 => ?_)
  · refine x_iload_n (pc := 22) dM_word_22 rfl (q := 2) rfl ?_
    refine x_bipush (pc := 23) dM_word_23 (v := 8) rfl ?_
    refine x_icmp_ne (pc := 25) dM_word_25 (t := 36) rfl (fun q2 => ?_) (fun q2 => ?_)
    · refine x_aload_n (pc := 36) dM_word_36 rfl (q := 0) rfl ?_
      refine x_iload_n (pc := 37) dM_word_37 rfl (q := 1) rfl ?_
      refine x_iload_n (pc := 38) dM_word_38 rfl (q := 2) rfl ?_
      have h := g1_0 ⟨q1, q2⟩
      exact x_invV (pc := 39) dM_word_39 (c := 11) (S := []) (As := [.int v1, .int v2]) mlM_244 hM_of rfl (by decide) rfl kv0 ⟨by decide, by decide⟩ ⟨Nat.zero_le _, Nat.zero_le _⟩ rfl (Nat.le_of_ble_eq_true rfl) (aftI (b' := b) ⟨Nat.le_refl _, Nat.le_refl _⟩ (fun rv N h => x_loc [] rfl h) h)
    · refine x_aload_n (pc := 28) dM_word_28 rfl (q := 0) rfl ?_
      refine x_iload_n (pc := 29) dM_word_29 rfl (q := 1) rfl ?_
      have h := g1_1 ⟨q1, q2⟩
      exact x_invV (pc := 30) dM_word_30 (c := 11) (S := []) (As := [.int v1]) mlM_272 hM_weightOf rfl (by decide) rfl kv0 ⟨by decide, by decide⟩ ⟨Nat.zero_le _, Nat.zero_le _⟩ rfl (Nat.le_of_ble_eq_true rfl) (aftI (b' := b) ⟨Nat.le_refl _, Nat.le_refl _⟩ (fun rv N h => x_loc [] rfl h) h)
  · have h := g1_2 q1
    refine x_iconst (pc := 20) dM_word_20 (v := (-1)) rfl ?_
    exact x_retQI (pc := 21) dM_word_21 rfl rfl h

theorem vM_word_33 {M : Mm} {b : Nat × Nat} {K : Int32 → Mm → Prop} {w0 : Int32}  
    (h : K w0 M) : X mM_word 33 [] [.int w0] M b (QI K) := by
  refine x_wf (fun hw => ?_)
  refine x_goto (pc := 33) dM_word_33 (t := 42) rfl ?_
  exact x_retQI (pc := 42) dM_word_42 rfl rfl h

theorem vM_word_42 {M : Mm} {b : Nat × Nat} {K : Int32 → Mm → Prop} {w0 : Int32}  
    (h : K w0 M) : X mM_word 42 [] [.int w0] M b (QI K) := by
  refine x_wf (fun hw => ?_)
  exact x_retQI (pc := 42) dM_word_42 rfl rfl h

theorem dM_isWord_0 : decode (mB mM_isWord) 0 = .ok (.iload_n 1, 1) := op27 (by decide +kernel)
theorem dM_isWord_1 : decode (mB mM_isWord) 1 = .ok (.i2l, 1) := op133 (by decide +kernel)
theorem dM_isWord_2 : decode (mB mM_isWord) 2 = .ok (.lconst 0, 1) := op9 (by decide +kernel)
theorem dM_isWord_3 : decode (mB mM_isWord) 3 = .ok (.aload_n 0, 1) := op42 (by decide +kernel)
theorem dM_isWord_4 : decode (mB mM_isWord) 4 = .ok (.getfield 112, 3) := op180 0 112 (by decide +kernel)
theorem dM_isWord_7 : decode (mB mM_isWord) 7 = .ok (.iconst 1, 1) := op4 (by decide +kernel)
theorem dM_isWord_8 : decode (mB mM_isWord) 8 = .ok (.isub, 1) := op100 (by decide +kernel)
theorem dM_isWord_9 : decode (mB mM_isWord) 9 = .ok (.i2l, 1) := op133 (by decide +kernel)
theorem dM_isWord_10 : decode (mB mM_isWord) 10 = .ok (.invokestatic 126, 3) := op184 0 126 (by decide +kernel)
theorem dM_isWord_13 : decode (mB mM_isWord) 13 = .ok (.ireturn, 1) := op172 (by decide +kernel)

theorem vM_isWord_0 {M : Mm} {b : Nat × Nat} {K : Int32 → Mm → Prop} {v0 : Nat} {v1 : Int32} (kv0 : v0 % 64 = 11) 
    (h : CI mM_in [.long ((v1).toInt64), .long 0, .long (((gi M v0 0) - 1).toInt64)] M (fun rv N => X mM_isWord 13 [] [.int rv] N b (QI K))) : X mM_isWord 0 [(0, .ref v0), (1, .int v1)] [] M b (QI K) := by
  refine x_wf (fun hw => ?_)
  refine x_iload_n (pc := 0) dM_isWord_0 rfl (q := 1) rfl ?_
  refine x_i2l (pc := 1) dM_isWord_1 ?_
  refine x_lconst (pc := 2) dM_isWord_2 (v := 0) rfl ?_
  refine x_aload_n (pc := 3) dM_isWord_3 rfl (q := 0) rfl ?_
  refine x_getI (pc := 4) dM_isWord_4 kv0 flM_112 rfl ?_
  refine x_iconst (pc := 7) dM_isWord_7 (v := 1) rfl ?_
  refine x_isub (pc := 8) dM_isWord_8 ?_
  refine x_i2l (pc := 9) dM_isWord_9 ?_
  exact x_invS (pc := 10) dM_isWord_10 (S := []) (As := [.long ((v1).toInt64), .long 0, .long (((gi M v0 0) - 1).toInt64)]) mlM_126 hM_in rfl ⟨by decide, by decide⟩ ⟨Nat.zero_le _, Nat.zero_le _⟩ rfl (Nat.le_of_ble_eq_true rfl) (aftI (b' := b) ⟨Nat.le_refl _, Nat.le_refl _⟩ (fun rv N h => x_loc [] rfl h) h)

theorem vM_isWord_13 {M : Mm} {b : Nat × Nat} {K : Int32 → Mm → Prop} {w0 : Int32}  
    (h : narrow .boolean (.int w0) = .int w0 ∧ (K w0 M)) : X mM_isWord 13 [] [.int w0] M b (QI K) := by
  refine x_wf (fun hw => ?_)
  obtain ⟨s501, h⟩ := h
  exact x_retQI (pc := 13) dM_isWord_13 rfl s501 h

theorem dM_weightOf_0 : decode (mB mM_weightOf) 0 = .ok (.aload_n 0, 1) := op42 (by decide +kernel)
theorem dM_weightOf_1 : decode (mB mM_weightOf) 1 = .ok (.iload_n 1, 1) := op27 (by decide +kernel)
theorem dM_weightOf_2 : decode (mB mM_weightOf) 2 = .ok (.invokevirtual 257, 3) := op182 1 1 (by decide +kernel)
theorem dM_weightOf_5 : decode (mB mM_weightOf) 5 = .ok (.ifCond .eq 5, 3) := op153 0 5 (by decide +kernel)
theorem dM_weightOf_8 : decode (mB mM_weightOf) 8 = .ok (.iconst 0, 1) := op3 (by decide +kernel)
theorem dM_weightOf_9 : decode (mB mM_weightOf) 9 = .ok (.ireturn, 1) := op172 (by decide +kernel)
theorem dM_weightOf_10 : decode (mB mM_weightOf) 10 = .ok (.iload_n 1, 1) := op27 (by decide +kernel)
theorem dM_weightOf_11 : decode (mB mM_weightOf) 11 = .ok (.istore_n 2, 1) := op61 (by decide +kernel)
theorem dM_weightOf_12 : decode (mB mM_weightOf) 12 = .ok (.aload_n 0, 1) := op42 (by decide +kernel)
theorem dM_weightOf_13 : decode (mB mM_weightOf) 13 = .ok (.iload_n 2, 1) := op28 (by decide +kernel)
theorem dM_weightOf_14 : decode (mB mM_weightOf) 14 = .ok (.bipush 6, 2) := op16 6 (by decide +kernel)
theorem dM_weightOf_16 : decode (mB mM_weightOf) 16 = .ok (.invokevirtual 244, 3) := op182 0 244 (by decide +kernel)
theorem dM_weightOf_19 : decode (mB mM_weightOf) 19 = .ok (.bipush (-4), 2) := op16 252 (by decide +kernel)
theorem dM_weightOf_21 : decode (mB mM_weightOf) 21 = .ok (.if_icmp .eq 14, 3) := op159 0 14 (by decide +kernel)
theorem dM_weightOf_24 : decode (mB mM_weightOf) 24 = .ok (.aload_n 0, 1) := op42 (by decide +kernel)
theorem dM_weightOf_25 : decode (mB mM_weightOf) 25 = .ok (.iload_n 2, 1) := op28 (by decide +kernel)
theorem dM_weightOf_26 : decode (mB mM_weightOf) 26 = .ok (.bipush 6, 2) := op16 6 (by decide +kernel)
theorem dM_weightOf_28 : decode (mB mM_weightOf) 28 = .ok (.invokevirtual 244, 3) := op182 0 244 (by decide +kernel)
theorem dM_weightOf_31 : decode (mB mM_weightOf) 31 = .ok (.istore_n 2, 1) := op61 (by decide +kernel)
theorem dM_weightOf_32 : decode (mB mM_weightOf) 32 = .ok (.goto (-20), 3) := op167 255 236 (by decide +kernel)
theorem dM_weightOf_35 : decode (mB mM_weightOf) 35 = .ok (.aload_n 0, 1) := op42 (by decide +kernel)
theorem dM_weightOf_36 : decode (mB mM_weightOf) 36 = .ok (.iload_n 2, 1) := op28 (by decide +kernel)
theorem dM_weightOf_37 : decode (mB mM_weightOf) 37 = .ok (.iconst 3, 1) := op6 (by decide +kernel)
theorem dM_weightOf_38 : decode (mB mM_weightOf) 38 = .ok (.invokevirtual 244, 3) := op182 0 244 (by decide +kernel)
theorem dM_weightOf_41 : decode (mB mM_weightOf) 41 = .ok (.invokestatic 264, 3) := op184 1 8 (by decide +kernel)
theorem dM_weightOf_44 : decode (mB mM_weightOf) 44 = .ok (.aload_n 0, 1) := op42 (by decide +kernel)
theorem dM_weightOf_45 : decode (mB mM_weightOf) 45 = .ok (.iload_n 2, 1) := op28 (by decide +kernel)
theorem dM_weightOf_46 : decode (mB mM_weightOf) 46 = .ok (.iconst 4, 1) := op7 (by decide +kernel)
theorem dM_weightOf_47 : decode (mB mM_weightOf) 47 = .ok (.invokevirtual 244, 3) := op182 0 244 (by decide +kernel)
theorem dM_weightOf_50 : decode (mB mM_weightOf) 50 = .ok (.invokestatic 264, 3) := op184 1 8 (by decide +kernel)
theorem dM_weightOf_53 : decode (mB mM_weightOf) 53 = .ok (.iadd, 1) := op96 (by decide +kernel)
theorem dM_weightOf_54 : decode (mB mM_weightOf) 54 = .ok (.ireturn, 1) := op172 (by decide +kernel)

theorem vM_weightOf_0 {M : Mm} {b : Nat × Nat} {K : Int32 → Mm → Prop} {v0 : Nat} {v1 : Int32} (kv0 : v0 % 64 = 11) 
    (h : CI mM_isUnsound [.ref v0, .int v1] M (fun rv N => X mM_weightOf 5 [(0, .ref v0), (1, .int v1)] [.int rv] N b (QI K))) : X mM_weightOf 0 [(0, .ref v0), (1, .int v1)] [] M b (QI K) := by
  refine x_wf (fun hw => ?_)
  refine x_aload_n (pc := 0) dM_weightOf_0 rfl (q := 0) rfl ?_
  refine x_iload_n (pc := 1) dM_weightOf_1 rfl (q := 1) rfl ?_
  exact x_invV (pc := 2) dM_weightOf_2 (c := 11) (S := []) (As := [.int v1]) mlM_257 hM_isUnsound rfl (by decide) rfl kv0 ⟨by decide, by decide⟩ ⟨Nat.zero_le _, Nat.zero_le _⟩ rfl (Nat.le_of_ble_eq_true rfl) (aftI (b' := b) ⟨Nat.le_refl _, Nat.le_refl _⟩ (fun rv N h => h) h)

theorem vM_weightOf_5 {M : Mm} {b : Nat × Nat} {K : Int32 → Mm → Prop} {v0 : Nat} {v1 : Int32} {w0 : Int32}  
    (h : (w0 = 0 → (X mM_weightOf 12 [(0, .ref v0), (2, .int v1)] [] M b (QI K))) ∧ (¬ w0 = 0 → (K 0 M))) : X mM_weightOf 5 [(0, .ref v0), (1, .int v1)] [.int w0] M b (QI K) := by
  refine x_wf (fun hw => ?_)
  obtain ⟨g1_0, g1_1⟩ := h
  refine x_if_eq (pc := 5) dM_weightOf_5 (t := 10) rfl (fun q1 => ?_) (fun q1 => ?_)
  · refine x_iload_n (pc := 10) dM_weightOf_10 rfl (q := 1) rfl ?_
    have h := g1_0 q1
    refine x_istore_n (pc := 11) dM_weightOf_11 rfl (by decide) (L' := [(2, .int v1), (0, .ref v0), (1, .int v1)]) rfl ?_
    exact x_loc [1, 0] rfl h
  · refine x_iconst (pc := 8) dM_weightOf_8 (v := 0) rfl ?_
    have h := g1_1 q1
    exact x_retQI (pc := 9) dM_weightOf_9 rfl rfl h

theorem vM_weightOf_12 {M : Mm} {b : Nat × Nat} {K : Int32 → Mm → Prop} {v0 : Nat} {v2 : Int32} (kv0 : v0 % 64 = 11) 
    (h : CI mM_of [.ref v0, .int v2, .int 6] M (fun rv N => X mM_weightOf 19 [(0, .ref v0), (2, .int v2)] [.int rv] N b (QI K))) : X mM_weightOf 12 [(0, .ref v0), (2, .int v2)] [] M b (QI K) := by
  refine x_wf (fun hw => ?_)
  refine x_aload_n (pc := 12) dM_weightOf_12 rfl (q := 0) rfl ?_
  refine x_iload_n (pc := 13) dM_weightOf_13 rfl (q := 1) rfl ?_
  refine x_bipush (pc := 14) dM_weightOf_14 (v := 6) rfl ?_
  exact x_invV (pc := 16) dM_weightOf_16 (c := 11) (S := []) (As := [.int v2, .int 6]) mlM_244 hM_of rfl (by decide) rfl kv0 ⟨by decide, by decide⟩ ⟨Nat.zero_le _, Nat.zero_le _⟩ rfl (Nat.le_of_ble_eq_true rfl) (aftI (b' := b) ⟨Nat.le_refl _, Nat.le_refl _⟩ (fun rv N h => h) h)

theorem vM_weightOf_19 {M : Mm} {b : Nat × Nat} {K : Int32 → Mm → Prop} {v0 : Nat} {v2 : Int32} {w0 : Int32} (kv0 : v0 % 64 = 11) 
    (h : (w0 = (-4) → (CI mM_of [.ref v0, .int v2, .int 3] M (fun rv N => X mM_weightOf 41 [(0, .ref v0), (2, .int v2)] [.int rv] N b (QI K)))) ∧ (¬ w0 = (-4) → (CI mM_of [.ref v0, .int v2, .int 6] M (fun rv N => X mM_weightOf 31 [(0, .ref v0)] [.int rv] N b (QI K))))) : X mM_weightOf 19 [(0, .ref v0), (2, .int v2)] [.int w0] M b (QI K) := by
  refine x_wf (fun hw => ?_)
  refine x_bipush (pc := 19) dM_weightOf_19 (v := (-4)) rfl ?_
  obtain ⟨g1_0, g1_1⟩ := h
  refine x_icmp_eq (pc := 21) dM_weightOf_21 (t := 35) rfl (fun q1 => ?_) (fun q1 => ?_)
  · refine x_aload_n (pc := 35) dM_weightOf_35 rfl (q := 0) rfl ?_
    refine x_iload_n (pc := 36) dM_weightOf_36 rfl (q := 1) rfl ?_
    refine x_iconst (pc := 37) dM_weightOf_37 (v := 3) rfl ?_
    have h := g1_0 q1
    exact x_invV (pc := 38) dM_weightOf_38 (c := 11) (S := []) (As := [.int v2, .int 3]) mlM_244 hM_of rfl (by decide) rfl kv0 ⟨by decide, by decide⟩ ⟨Nat.zero_le _, Nat.zero_le _⟩ rfl (Nat.le_of_ble_eq_true rfl) (aftI (b' := b) ⟨Nat.le_refl _, Nat.le_refl _⟩ (fun rv N h => h) h)
  · refine x_aload_n (pc := 24) dM_weightOf_24 rfl (q := 0) rfl ?_
    refine x_iload_n (pc := 25) dM_weightOf_25 rfl (q := 1) rfl ?_
    refine x_bipush (pc := 26) dM_weightOf_26 (v := 6) rfl ?_
    have h := g1_1 q1
    exact x_invV (pc := 28) dM_weightOf_28 (c := 11) (S := []) (As := [.int v2, .int 6]) mlM_244 hM_of rfl (by decide) rfl kv0 ⟨by decide, by decide⟩ ⟨Nat.zero_le _, Nat.zero_le _⟩ rfl (Nat.le_of_ble_eq_true rfl) (aftI (b' := b) ⟨Nat.le_refl _, Nat.le_refl _⟩ (fun rv N h => x_loc [0] rfl h) h)

theorem vM_weightOf_31 {M : Mm} {b : Nat × Nat} {K : Int32 → Mm → Prop} {v0 : Nat} {w0 : Int32}  
    (h : X mM_weightOf 12 [(0, .ref v0), (2, .int w0)] [] M b (QI K)) : X mM_weightOf 31 [(0, .ref v0)] [.int w0] M b (QI K) := by
  refine x_wf (fun hw => ?_)
  refine x_istore_n (pc := 31) dM_weightOf_31 rfl (by decide) (L' := [(2, .int w0), (0, .ref v0)]) rfl ?_
  refine x_goto (pc := 32) dM_weightOf_32 (t := 12) rfl ?_
  exact x_loc [1, 0] rfl h

theorem vM_weightOf_41 {M : Mm} {b : Nat × Nat} {K : Int32 → Mm → Prop} {v0 : Nat} {v2 : Int32} {w0 : Int32}  
    (h : CI mM_countOf [.int w0] M (fun rv N => X mM_weightOf 44 [(0, .ref v0), (2, .int v2)] [.int rv] N b (QI K))) : X mM_weightOf 41 [(0, .ref v0), (2, .int v2)] [.int w0] M b (QI K) := by
  refine x_wf (fun hw => ?_)
  exact x_invS (pc := 41) dM_weightOf_41 (S := []) (As := [.int w0]) mlM_264 hM_countOf rfl ⟨by decide, by decide⟩ ⟨Nat.zero_le _, Nat.zero_le _⟩ rfl (Nat.le_of_ble_eq_true rfl) (aftI (b' := b) ⟨Nat.le_refl _, Nat.le_refl _⟩ (fun rv N h => h) h)

theorem vM_weightOf_44 {M : Mm} {b : Nat × Nat} {K : Int32 → Mm → Prop} {v0 : Nat} {v2 : Int32} {w0 : Int32} (kv0 : v0 % 64 = 11) 
    (h : CI mM_of [.ref v0, .int v2, .int 4] M (fun rv N => X mM_weightOf 50 [] [.int rv, .int w0] N b (QI K))) : X mM_weightOf 44 [(0, .ref v0), (2, .int v2)] [.int w0] M b (QI K) := by
  refine x_wf (fun hw => ?_)
  refine x_aload_n (pc := 44) dM_weightOf_44 rfl (q := 0) rfl ?_
  refine x_iload_n (pc := 45) dM_weightOf_45 rfl (q := 1) rfl ?_
  refine x_iconst (pc := 46) dM_weightOf_46 (v := 4) rfl ?_
  exact x_invV (pc := 47) dM_weightOf_47 (c := 11) (S := [.int w0]) (As := [.int v2, .int 4]) mlM_244 hM_of rfl (by decide) rfl kv0 ⟨by decide, by decide⟩ ⟨Nat.zero_le _, Nat.zero_le _⟩ rfl (Nat.le_of_ble_eq_true rfl) (aftI (b' := b) ⟨Nat.le_refl _, Nat.le_refl _⟩ (fun rv N h => x_loc [] rfl h) h)

theorem vM_weightOf_50 {M : Mm} {b : Nat × Nat} {K : Int32 → Mm → Prop} {w0 : Int32} {w1 : Int32}  
    (h : CI mM_countOf [.int w0] M (fun rv N => X mM_weightOf 53 [] [.int rv, .int w1] N b (QI K))) : X mM_weightOf 50 [] [.int w0, .int w1] M b (QI K) := by
  refine x_wf (fun hw => ?_)
  exact x_invS (pc := 50) dM_weightOf_50 (S := [.int w1]) (As := [.int w0]) mlM_264 hM_countOf rfl ⟨by decide, by decide⟩ ⟨Nat.zero_le _, Nat.zero_le _⟩ rfl (Nat.le_of_ble_eq_true rfl) (aftI (b' := b) ⟨Nat.le_refl _, Nat.le_refl _⟩ (fun rv N h => h) h)

theorem vM_weightOf_53 {M : Mm} {b : Nat × Nat} {K : Int32 → Mm → Prop} {w0 : Int32} {w1 : Int32}  
    (h : K (w1 + w0) M) : X mM_weightOf 53 [] [.int w0, .int w1] M b (QI K) := by
  refine x_wf (fun hw => ?_)
  refine x_iadd (pc := 53) dM_weightOf_53 ?_
  exact x_retQI (pc := 54) dM_weightOf_54 rfl rfl h

theorem dM_countOf_0 : decode (mB mM_countOf) 0 = .ok (.iconst 0, 1) := op3 (by decide +kernel)
theorem dM_countOf_1 : decode (mB mM_countOf) 1 = .ok (.istore_n 1, 1) := op60 (by decide +kernel)
theorem dM_countOf_2 : decode (mB mM_countOf) 2 = .ok (.iconst 0, 1) := op3 (by decide +kernel)
theorem dM_countOf_3 : decode (mB mM_countOf) 3 = .ok (.istore_n 2, 1) := op61 (by decide +kernel)
theorem dM_countOf_4 : decode (mB mM_countOf) 4 = .ok (.iload_n 2, 1) := op28 (by decide +kernel)
theorem dM_countOf_5 : decode (mB mM_countOf) 5 = .ok (.bipush 32, 2) := op16 32 (by decide +kernel)
theorem dM_countOf_7 : decode (mB mM_countOf) 7 = .ok (.if_icmp .ge 17, 3) := op162 0 17 (by decide +kernel)
theorem dM_countOf_10 : decode (mB mM_countOf) 10 = .ok (.iload_n 1, 1) := op27 (by decide +kernel)
theorem dM_countOf_11 : decode (mB mM_countOf) 11 = .ok (.iload_n 0, 1) := op26 (by decide +kernel)
theorem dM_countOf_12 : decode (mB mM_countOf) 12 = .ok (.iload_n 2, 1) := op28 (by decide +kernel)
theorem dM_countOf_13 : decode (mB mM_countOf) 13 = .ok (.ishr, 1) := op122 (by decide +kernel)
theorem dM_countOf_14 : decode (mB mM_countOf) 14 = .ok (.iconst 1, 1) := op4 (by decide +kernel)
theorem dM_countOf_15 : decode (mB mM_countOf) 15 = .ok (.iand, 1) := op126 (by decide +kernel)
theorem dM_countOf_16 : decode (mB mM_countOf) 16 = .ok (.iadd, 1) := op96 (by decide +kernel)
theorem dM_countOf_17 : decode (mB mM_countOf) 17 = .ok (.istore_n 1, 1) := op60 (by decide +kernel)
theorem dM_countOf_18 : decode (mB mM_countOf) 18 = .ok (.iinc 2 1, 3) := op132 2 1 (by decide +kernel)
theorem dM_countOf_21 : decode (mB mM_countOf) 21 = .ok (.goto (-17), 3) := op167 255 239 (by decide +kernel)
theorem dM_countOf_24 : decode (mB mM_countOf) 24 = .ok (.iload_n 1, 1) := op27 (by decide +kernel)
theorem dM_countOf_25 : decode (mB mM_countOf) 25 = .ok (.ireturn, 1) := op172 (by decide +kernel)

theorem vM_countOf_0 {M : Mm} {b : Nat × Nat} {K : Int32 → Mm → Prop} {v0 : Int32}  
    (h : X mM_countOf 4 [(0, .int v0), (1, .int 0), (2, .int 0)] [] M b (QI K)) : X mM_countOf 0 [(0, .int v0)] [] M b (QI K) := by
  refine x_wf (fun hw => ?_)
  refine x_iconst (pc := 0) dM_countOf_0 (v := 0) rfl ?_
  refine x_istore_n (pc := 1) dM_countOf_1 rfl (by decide) (L' := [(1, .int 0), (0, .int v0)]) rfl ?_
  refine x_iconst (pc := 2) dM_countOf_2 (v := 0) rfl ?_
  refine x_istore_n (pc := 3) dM_countOf_3 rfl (by decide) (L' := [(2, .int 0), (1, .int 0), (0, .int v0)]) rfl ?_
  exact x_loc [2, 1, 0] rfl h

theorem vM_countOf_4 {M : Mm} {b : Nat × Nat} {K : Int32 → Mm → Prop} {v0 : Int32} {v1 : Int32} {v2 : Int32}  
    (h : (32 ≤ v2 → (K v1 M)) ∧ (¬ 32 ≤ v2 → (X mM_countOf 4 [(0, .int v0), (1, .int (v1 + ((v0 >>> (v2 &&& 31)) &&& 1))), (2, .int (v2 + 1))] [] M b (QI K)))) : X mM_countOf 4 [(0, .int v0), (1, .int v1), (2, .int v2)] [] M b (QI K) := by
  refine x_wf (fun hw => ?_)
  refine x_iload_n (pc := 4) dM_countOf_4 rfl (q := 2) rfl ?_
  refine x_bipush (pc := 5) dM_countOf_5 (v := 32) rfl ?_
  obtain ⟨g1_0, g1_1⟩ := h
  refine x_icmp_ge (pc := 7) dM_countOf_7 (t := 24) rfl (fun q1 => ?_) (fun q1 => ?_)
  · refine x_iload_n (pc := 24) dM_countOf_24 rfl (q := 1) rfl ?_
    have h := g1_0 q1
    exact x_retQI (pc := 25) dM_countOf_25 rfl rfl h
  · refine x_iload_n (pc := 10) dM_countOf_10 rfl (q := 1) rfl ?_
    refine x_iload_n (pc := 11) dM_countOf_11 rfl (q := 0) rfl ?_
    refine x_iload_n (pc := 12) dM_countOf_12 rfl (q := 2) rfl ?_
    refine x_ishr (pc := 13) dM_countOf_13 ?_
    refine x_iconst (pc := 14) dM_countOf_14 (v := 1) rfl ?_
    refine x_iand (pc := 15) dM_countOf_15 ?_
    refine x_iadd (pc := 16) dM_countOf_16 ?_
    have h := g1_1 q1
    refine x_istore_n (pc := 17) dM_countOf_17 rfl (by decide) (L' := [(1, .int (v1 + ((v0 >>> (v2 &&& 31)) &&& 1))), (0, .int v0), (2, .int v2)]) rfl ?_
    refine x_iinc (pc := 18) dM_countOf_18 (q := 2) rfl (v := v2 + 1) rfl (by decide) (L' := [(2, .int (v2 + 1)), (1, .int (v1 + ((v0 >>> (v2 &&& 31)) &&& 1))), (0, .int v0)]) rfl ?_
    refine x_goto (pc := 21) dM_countOf_21 (t := 4) rfl ?_
    exact x_loc [2, 1, 0] rfl h

theorem dM_says_0 : decode (mB mM_says) 0 = .ok (.aload_n 0, 1) := op42 (by decide +kernel)
theorem dM_says_1 : decode (mB mM_says) 1 = .ok (.iload_n 1, 1) := op27 (by decide +kernel)
theorem dM_says_2 : decode (mB mM_says) 2 = .ok (.invokevirtual 267, 3) := op182 1 11 (by decide +kernel)
theorem dM_says_5 : decode (mB mM_says) 5 = .ok (.ifCond .eq 29, 3) := op153 0 29 (by decide +kernel)
theorem dM_says_8 : decode (mB mM_says) 8 = .ok (.iload_n 2, 1) := op28 (by decide +kernel)
theorem dM_says_9 : decode (mB mM_says) 9 = .ok (.invokestatic 275, 3) := op184 1 19 (by decide +kernel)
theorem dM_says_12 : decode (mB mM_says) 12 = .ok (.ifCond .eq 22, 3) := op153 0 22 (by decide +kernel)
theorem dM_says_15 : decode (mB mM_says) 15 = .ok (.aload_n 0, 1) := op42 (by decide +kernel)
theorem dM_says_16 : decode (mB mM_says) 16 = .ok (.getfield 51, 3) := op180 0 51 (by decide +kernel)
theorem dM_says_19 : decode (mB mM_says) 19 = .ok (.iload_n 1, 1) := op27 (by decide +kernel)
theorem dM_says_20 : decode (mB mM_says) 20 = .ok (.laload, 1) := op47 (by decide +kernel)
theorem dM_says_21 : decode (mB mM_says) 21 = .ok (.aload_n 0, 1) := op42 (by decide +kernel)
theorem dM_says_22 : decode (mB mM_says) 22 = .ok (.getfield 55, 3) := op180 0 55 (by decide +kernel)
theorem dM_says_25 : decode (mB mM_says) 25 = .ok (.iload_n 1, 1) := op27 (by decide +kernel)
theorem dM_says_26 : decode (mB mM_says) 26 = .ok (.laload, 1) := op47 (by decide +kernel)
theorem dM_says_27 : decode (mB mM_says) 27 = .ok (.iload_n 2, 1) := op28 (by decide +kernel)
theorem dM_says_28 : decode (mB mM_says) 28 = .ok (.invokestatic 278, 3) := op184 1 22 (by decide +kernel)
theorem dM_says_31 : decode (mB mM_says) 31 = .ok (.goto 4, 3) := op167 0 4 (by decide +kernel)
theorem dM_says_34 : decode (mB mM_says) 34 = .ok (.iconst (-1), 1) := op2 (by decide +kernel)
theorem dM_says_35 : decode (mB mM_says) 35 = .ok (.ireturn, 1) := op172 (by decide +kernel)

theorem vM_says_0 {M : Mm} {b : Nat × Nat} {K : Int32 → Mm → Prop} {v0 : Nat} {v1 : Int32} {v2 : Int32} (kv0 : v0 % 64 = 11) 
    (h : CI mM_isWord [.ref v0, .int v1] M (fun rv N => X mM_says 5 [(0, .ref v0), (1, .int v1), (2, .int v2)] [.int rv] N b (QI K))) : X mM_says 0 [(0, .ref v0), (1, .int v1), (2, .int v2)] [] M b (QI K) := by
  refine x_wf (fun hw => ?_)
  refine x_aload_n (pc := 0) dM_says_0 rfl (q := 0) rfl ?_
  refine x_iload_n (pc := 1) dM_says_1 rfl (q := 1) rfl ?_
  exact x_invV (pc := 2) dM_says_2 (c := 11) (S := []) (As := [.int v1]) mlM_267 hM_isWord rfl (by decide) rfl kv0 ⟨by decide, by decide⟩ ⟨Nat.zero_le _, Nat.zero_le _⟩ rfl (Nat.le_of_ble_eq_true rfl) (aftI (b' := b) ⟨Nat.le_refl _, Nat.le_refl _⟩ (fun rv N h => h) h)

theorem vM_says_5 {M : Mm} {b : Nat × Nat} {K : Int32 → Mm → Prop} {v0 : Nat} {v1 : Int32} {v2 : Int32} {w0 : Int32}  
    (h : (w0 = 0 → (K (-1) M)) ∧ (¬ w0 = 0 → (CI mM_isCase [.int v2] M (fun rv N => X mM_says 12 [(0, .ref v0), (1, .int v1), (2, .int v2)] [.int rv] N b (QI K))))) : X mM_says 5 [(0, .ref v0), (1, .int v1), (2, .int v2)] [.int w0] M b (QI K) := by
  refine x_wf (fun hw => ?_)
  obtain ⟨g1_0, g1_1⟩ := h
  refine x_if_eq (pc := 5) dM_says_5 (t := 34) rfl (fun q1 => ?_) (fun q1 => ?_)
  · have h := g1_0 q1
    refine x_iconst (pc := 34) dM_says_34 (v := (-1)) rfl ?_
    exact x_retQI (pc := 35) dM_says_35 rfl rfl h
  · refine x_iload_n (pc := 8) dM_says_8 rfl (q := 2) rfl ?_
    have h := g1_1 q1
    exact x_invS (pc := 9) dM_says_9 (S := []) (As := [.int v2]) mlM_275 hM_isCase rfl ⟨by decide, by decide⟩ ⟨Nat.zero_le _, Nat.zero_le _⟩ rfl (Nat.le_of_ble_eq_true rfl) (aftI (b' := b) ⟨Nat.le_refl _, Nat.le_refl _⟩ (fun rv N h => h) h)

theorem vM_says_12 {M : Mm} {b : Nat × Nat} {K : Int32 → Mm → Prop} {v0 : Nat} {v1 : Int32} {v2 : Int32} {w0 : Int32} {r1 : Nat} {r2 : Nat} (kv0 : v0 % 64 = 11) (e1 : gr M v0 25 = some r1) (e2 : gr M v0 26 = some r2)
    (h : (¬ w0 = 0 → vp_in v1 25) ∧ (¬ w0 = 0 → vp_in v1 25) ∧ (w0 = 0 → (K (-1) M)) ∧ (¬ w0 = 0 → (CI mM_told [.long (gl M r1 (v1).toNatClampNeg), .long (gl M r2 (v1).toNatClampNeg), .int v2] M (fun rv N => X mM_says 31 [] [.int rv] N b (QI K))))) : X mM_says 12 [(0, .ref v0), (1, .int v1), (2, .int v2)] [.int w0] M b (QI K) := by
  refine x_wf (fun hw => ?_)
  obtain ⟨s1, s2, g1_0, g1_1⟩ := h
  refine x_if_eq (pc := 12) dM_says_12 (t := 34) rfl (fun q1 => ?_) (fun q1 => ?_)
  · have h := g1_0 q1
    refine x_iconst (pc := 34) dM_says_34 (v := (-1)) rfl ?_
    exact x_retQI (pc := 35) dM_says_35 rfl rfl h
  · refine x_aload_n (pc := 15) dM_says_15 rfl (q := 0) rfl ?_
    refine x_getR (pc := 16) dM_says_16 kv0 flM_51 rfl e1 ?_
    refine x_iload_n (pc := 19) dM_says_19 rfl (q := 1) rfl ?_
    refine x_aldLj (pc := 20) (j := (v1).toNatClampNeg) dM_says_20 (wfk hw e1 kv0) ak_26 rfl (s1 q1) ?_
    refine x_aload_n (pc := 21) dM_says_21 rfl (q := 0) rfl ?_
    refine x_getR (pc := 22) dM_says_22 kv0 flM_55 rfl e2 ?_
    refine x_iload_n (pc := 25) dM_says_25 rfl (q := 1) rfl ?_
    refine x_aldLj (pc := 26) (j := (v1).toNatClampNeg) dM_says_26 (wfk hw e2 kv0) ak_26 rfl (s2 q1) ?_
    refine x_iload_n (pc := 27) dM_says_27 rfl (q := 2) rfl ?_
    have h := g1_1 q1
    exact x_invS (pc := 28) dM_says_28 (S := []) (As := [.long (gl M r1 (v1).toNatClampNeg), .long (gl M r2 (v1).toNatClampNeg), .int v2]) mlM_278 hM_told rfl ⟨by decide, by decide⟩ ⟨Nat.zero_le _, Nat.zero_le _⟩ rfl (Nat.le_of_ble_eq_true rfl) (aftI (b' := b) ⟨Nat.le_refl _, Nat.le_refl _⟩ (fun rv N h => x_loc [] rfl h) h)

theorem vM_says_31 {M : Mm} {b : Nat × Nat} {K : Int32 → Mm → Prop} {w0 : Int32}  
    (h : K w0 M) : X mM_says 31 [] [.int w0] M b (QI K) := by
  refine x_wf (fun hw => ?_)
  refine x_goto (pc := 31) dM_says_31 (t := 35) rfl ?_
  exact x_retQI (pc := 35) dM_says_35 rfl rfl h

theorem dM_isCase_0 : decode (mB mM_isCase) 0 = .ok (.iload_n 0, 1) := op26 (by decide +kernel)
theorem dM_isCase_1 : decode (mB mM_isCase) 1 = .ok (.i2l, 1) := op133 (by decide +kernel)
theorem dM_isCase_2 : decode (mB mM_isCase) 2 = .ok (.lconst 0, 1) := op9 (by decide +kernel)
theorem dM_isCase_3 : decode (mB mM_isCase) 3 = .ok (.ldc2_w 239, 3) := op20 0 239 (by decide +kernel)
theorem dM_isCase_6 : decode (mB mM_isCase) 6 = .ok (.invokestatic 126, 3) := op184 0 126 (by decide +kernel)
theorem dM_isCase_9 : decode (mB mM_isCase) 9 = .ok (.ireturn, 1) := op172 (by decide +kernel)

theorem vM_isCase_0 {M : Mm} {b : Nat × Nat} {K : Int32 → Mm → Prop} {v0 : Int32}  
    (h : CI mM_in [.long ((v0).toInt64), .long 0, .long 63] M (fun rv N => X mM_isCase 9 [] [.int rv] N b (QI K))) : X mM_isCase 0 [(0, .int v0)] [] M b (QI K) := by
  refine x_wf (fun hw => ?_)
  refine x_iload_n (pc := 0) dM_isCase_0 rfl (q := 0) rfl ?_
  refine x_i2l (pc := 1) dM_isCase_1 ?_
  refine x_lconst (pc := 2) dM_isCase_2 (v := 0) rfl ?_
  refine x_ldc2 (pc := 3) dM_isCase_3 klM_239 ?_
  exact x_invS (pc := 6) dM_isCase_6 (S := []) (As := [.long ((v0).toInt64), .long 0, .long 63]) mlM_126 hM_in rfl ⟨by decide, by decide⟩ ⟨Nat.zero_le _, Nat.zero_le _⟩ rfl (Nat.le_of_ble_eq_true rfl) (aftI (b' := b) ⟨Nat.le_refl _, Nat.le_refl _⟩ (fun rv N h => x_loc [] rfl h) h)

theorem vM_isCase_9 {M : Mm} {b : Nat × Nat} {K : Int32 → Mm → Prop} {w0 : Int32}  
    (h : narrow .boolean (.int w0) = .int w0 ∧ (K w0 M)) : X mM_isCase 9 [] [.int w0] M b (QI K) := by
  refine x_wf (fun hw => ?_)
  obtain ⟨s501, h⟩ := h
  exact x_retQI (pc := 9) dM_isCase_9 rfl s501 h

theorem dM_told_0 : decode (mB mM_told) 0 = .ok (.lload_n 0, 1) := op30 (by decide +kernel)
theorem dM_told_1 : decode (mB mM_told) 1 = .ok (.iload 4, 2) := op21 4 (by decide +kernel)
theorem dM_told_3 : decode (mB mM_told) 3 = .ok (.lshr, 1) := op123 (by decide +kernel)
theorem dM_told_4 : decode (mB mM_told) 4 = .ok (.lconst 1, 1) := op10 (by decide +kernel)
theorem dM_told_5 : decode (mB mM_told) 5 = .ok (.land, 1) := op127 (by decide +kernel)
theorem dM_told_6 : decode (mB mM_told) 6 = .ok (.lconst 1, 1) := op10 (by decide +kernel)
theorem dM_told_7 : decode (mB mM_told) 7 = .ok (.lcmp, 1) := op148 (by decide +kernel)
theorem dM_told_8 : decode (mB mM_told) 8 = .ok (.ifCond .ne 7, 3) := op154 0 7 (by decide +kernel)
theorem dM_told_11 : decode (mB mM_told) 11 = .ok (.iconst 1, 1) := op4 (by decide +kernel)
theorem dM_told_12 : decode (mB mM_told) 12 = .ok (.goto 20, 3) := op167 0 20 (by decide +kernel)
theorem dM_told_15 : decode (mB mM_told) 15 = .ok (.lload_n 2, 1) := op32 (by decide +kernel)
theorem dM_told_16 : decode (mB mM_told) 16 = .ok (.iload 4, 2) := op21 4 (by decide +kernel)
theorem dM_told_18 : decode (mB mM_told) 18 = .ok (.lshr, 1) := op123 (by decide +kernel)
theorem dM_told_19 : decode (mB mM_told) 19 = .ok (.lconst 1, 1) := op10 (by decide +kernel)
theorem dM_told_20 : decode (mB mM_told) 20 = .ok (.land, 1) := op127 (by decide +kernel)
theorem dM_told_21 : decode (mB mM_told) 21 = .ok (.lconst 1, 1) := op10 (by decide +kernel)
theorem dM_told_22 : decode (mB mM_told) 22 = .ok (.lcmp, 1) := op148 (by decide +kernel)
theorem dM_told_23 : decode (mB mM_told) 23 = .ok (.ifCond .ne 7, 3) := op154 0 7 (by decide +kernel)
theorem dM_told_26 : decode (mB mM_told) 26 = .ok (.iconst 0, 1) := op3 (by decide +kernel)
theorem dM_told_27 : decode (mB mM_told) 27 = .ok (.goto 5, 3) := op167 0 5 (by decide +kernel)
theorem dM_told_30 : decode (mB mM_told) 30 = .ok (.bipush (-4), 2) := op16 252 (by decide +kernel)
theorem dM_told_32 : decode (mB mM_told) 32 = .ok (.ireturn, 1) := op172 (by decide +kernel)

theorem vM_told_0 {M : Mm} {b : Nat × Nat} {K : Int32 → Mm → Prop} {v0 : Int64} {v2 : Int64} {v4 : Int32}  
    (h : K (if ((v0 >>> ((v4).toInt64 &&& 63)) &&& 1) = 1 then 1 else (if ((v2 >>> ((v4).toInt64 &&& 63)) &&& 1) = 1 then 0 else (-4) : Int32) : Int32) M) : X mM_told 0 [(0, .long v0), (2, .long v2), (4, .int v4)] [] M b (QI K) := by
  refine x_wf (fun hw => ?_)
  refine x_lload_n (pc := 0) dM_told_0 rfl (q := 0) rfl ?_
  refine x_iload (pc := 1) dM_told_1 (q := 2) rfl ?_
  refine x_lshr (pc := 3) dM_told_3 ?_
  refine x_lconst (pc := 4) dM_told_4 (v := 1) rfl ?_
  refine x_land (pc := 5) dM_told_5 ?_
  refine x_lconst (pc := 6) dM_told_6 (v := 1) rfl ?_
  suffices hJ : X mM_told 32 [(0, .long v0), (2, .long v2), (4, .int v4)] [.int (if ((v0 >>> ((v4).toInt64 &&& 63)) &&& 1) = 1 then 1 else (if ((v2 >>> ((v4).toInt64 &&& 63)) &&& 1) = 1 then 0 else (-4) : Int32) : Int32)] M b (QI K) by
    refine x_lc_ne (pc := 7) dM_told_7 dM_told_8 (t := 15) rfl (fun q1 => ?_) (fun q1 => ?_)
    · refine x_lload_n (pc := 15) dM_told_15 rfl (q := 1) rfl ?_
      refine x_iload (pc := 16) dM_told_16 (q := 2) rfl ?_
      refine x_lshr (pc := 18) dM_told_18 ?_
      refine x_lconst (pc := 19) dM_told_19 (v := 1) rfl ?_
      refine x_land (pc := 20) dM_told_20 ?_
      refine x_lconst (pc := 21) dM_told_21 (v := 1) rfl ?_
      refine x_lc_ne (pc := 22) dM_told_22 dM_told_23 (t := 30) rfl (fun q2 => ?_) (fun q2 => ?_)
      · refine x_bipush (pc := 30) dM_told_30 (v := (-4)) rfl ?_
        first | (rw [if_neg q1, if_neg q2] at hJ; exact hJ) | (simp only [if_neg q1, if_neg q2] at hJ ⊢; exact hJ)
      · refine x_iconst (pc := 26) dM_told_26 (v := 0) rfl ?_
        refine x_goto (pc := 27) dM_told_27 (t := 32) rfl ?_
        first | (rw [if_neg q1, if_pos q2] at hJ; exact hJ) | (simp only [if_neg q1, if_pos q2] at hJ ⊢; exact hJ)
    · refine x_iconst (pc := 11) dM_told_11 (v := 1) rfl ?_
      refine x_goto (pc := 12) dM_told_12 (t := 32) rfl ?_
      first | (rw [if_pos q1] at hJ; exact hJ) | (simp only [if_pos q1] at hJ ⊢; exact hJ)
  exact x_retQI (pc := 32) dM_told_32 rfl rfl h

theorem dM_words_0 : decode (mB mM_words) 0 = .ok (.iload_n 1, 1) := op27 (by decide +kernel)
theorem dM_words_1 : decode (mB mM_words) 1 = .ok (.i2l, 1) := op133 (by decide +kernel)
theorem dM_words_2 : decode (mB mM_words) 2 = .ok (.lconst 0, 1) := op9 (by decide +kernel)
theorem dM_words_3 : decode (mB mM_words) 3 = .ok (.ldc2_w 281, 3) := op20 1 25 (by decide +kernel)
theorem dM_words_6 : decode (mB mM_words) 6 = .ok (.invokestatic 126, 3) := op184 0 126 (by decide +kernel)
theorem dM_words_9 : decode (mB mM_words) 9 = .ok (.ifCond .ne 5, 3) := op154 0 5 (by decide +kernel)
theorem dM_words_12 : decode (mB mM_words) 12 = .ok (.iconst (-1), 1) := op2 (by decide +kernel)
theorem dM_words_13 : decode (mB mM_words) 13 = .ok (.ireturn, 1) := op172 (by decide +kernel)
theorem dM_words_14 : decode (mB mM_words) 14 = .ok (.iconst 0, 1) := op3 (by decide +kernel)
theorem dM_words_15 : decode (mB mM_words) 15 = .ok (.istore_n 2, 1) := op61 (by decide +kernel)
theorem dM_words_16 : decode (mB mM_words) 16 = .ok (.iconst 0, 1) := op3 (by decide +kernel)
theorem dM_words_17 : decode (mB mM_words) 17 = .ok (.istore_n 3, 1) := op62 (by decide +kernel)
theorem dM_words_18 : decode (mB mM_words) 18 = .ok (.iload_n 3, 1) := op29 (by decide +kernel)
theorem dM_words_19 : decode (mB mM_words) 19 = .ok (.aload_n 0, 1) := op42 (by decide +kernel)
theorem dM_words_20 : decode (mB mM_words) 20 = .ok (.getfield 112, 3) := op180 0 112 (by decide +kernel)
theorem dM_words_23 : decode (mB mM_words) 23 = .ok (.if_icmp .ge 27, 3) := op162 0 27 (by decide +kernel)
theorem dM_words_26 : decode (mB mM_words) 26 = .ok (.iload_n 2, 1) := op28 (by decide +kernel)
theorem dM_words_27 : decode (mB mM_words) 27 = .ok (.aload_n 0, 1) := op42 (by decide +kernel)
theorem dM_words_28 : decode (mB mM_words) 28 = .ok (.iload_n 3, 1) := op29 (by decide +kernel)
theorem dM_words_29 : decode (mB mM_words) 29 = .ok (.invokevirtual 283, 3) := op182 1 27 (by decide +kernel)
theorem dM_words_32 : decode (mB mM_words) 32 = .ok (.ifCond .eq 9, 3) := op153 0 9 (by decide +kernel)
theorem dM_words_35 : decode (mB mM_words) 35 = .ok (.iconst 1, 1) := op4 (by decide +kernel)
theorem dM_words_36 : decode (mB mM_words) 36 = .ok (.iload_n 3, 1) := op29 (by decide +kernel)
theorem dM_words_37 : decode (mB mM_words) 37 = .ok (.ishl, 1) := op120 (by decide +kernel)
theorem dM_words_38 : decode (mB mM_words) 38 = .ok (.goto 4, 3) := op167 0 4 (by decide +kernel)
theorem dM_words_41 : decode (mB mM_words) 41 = .ok (.iconst 0, 1) := op3 (by decide +kernel)
theorem dM_words_42 : decode (mB mM_words) 42 = .ok (.ior, 1) := op128 (by decide +kernel)
theorem dM_words_43 : decode (mB mM_words) 43 = .ok (.istore_n 2, 1) := op61 (by decide +kernel)
theorem dM_words_44 : decode (mB mM_words) 44 = .ok (.iinc 3 1, 3) := op132 3 1 (by decide +kernel)
theorem dM_words_47 : decode (mB mM_words) 47 = .ok (.goto (-29), 3) := op167 255 227 (by decide +kernel)
theorem dM_words_50 : decode (mB mM_words) 50 = .ok (.iload_n 1, 1) := op27 (by decide +kernel)
theorem dM_words_51 : decode (mB mM_words) 51 = .ok (.ifCond .ne 10, 3) := op154 0 10 (by decide +kernel)
theorem dM_words_54 : decode (mB mM_words) 54 = .ok (.aload_n 0, 1) := op42 (by decide +kernel)
theorem dM_words_55 : decode (mB mM_words) 55 = .ok (.getfield 250, 3) := op180 0 250 (by decide +kernel)
theorem dM_words_58 : decode (mB mM_words) 58 = .ok (.goto 16, 3) := op167 0 16 (by decide +kernel)
theorem dM_words_61 : decode (mB mM_words) 61 = .ok (.iload_n 1, 1) := op27 (by decide +kernel)
theorem dM_words_62 : decode (mB mM_words) 62 = .ok (.iconst 1, 1) := op4 (by decide +kernel)
theorem dM_words_63 : decode (mB mM_words) 63 = .ok (.if_icmp .ne 10, 3) := op160 0 10 (by decide +kernel)
theorem dM_words_66 : decode (mB mM_words) 66 = .ok (.aload_n 0, 1) := op42 (by decide +kernel)
theorem dM_words_67 : decode (mB mM_words) 67 = .ok (.getfield 241, 3) := op180 0 241 (by decide +kernel)
theorem dM_words_70 : decode (mB mM_words) 70 = .ok (.goto 4, 3) := op167 0 4 (by decide +kernel)
theorem dM_words_73 : decode (mB mM_words) 73 = .ok (.iload_n 2, 1) := op28 (by decide +kernel)
theorem dM_words_74 : decode (mB mM_words) 74 = .ok (.ireturn, 1) := op172 (by decide +kernel)

theorem vM_words_0 {M : Mm} {b : Nat × Nat} {K : Int32 → Mm → Prop} {v0 : Nat} {v1 : Int32}  
    (h : CI mM_in [.long ((v1).toInt64), .long 0, .long 2] M (fun rv N => X mM_words 9 [(0, .ref v0), (1, .int v1)] [.int rv] N b (QI K))) : X mM_words 0 [(0, .ref v0), (1, .int v1)] [] M b (QI K) := by
  refine x_wf (fun hw => ?_)
  refine x_iload_n (pc := 0) dM_words_0 rfl (q := 1) rfl ?_
  refine x_i2l (pc := 1) dM_words_1 ?_
  refine x_lconst (pc := 2) dM_words_2 (v := 0) rfl ?_
  refine x_ldc2 (pc := 3) dM_words_3 klM_281 ?_
  exact x_invS (pc := 6) dM_words_6 (S := []) (As := [.long ((v1).toInt64), .long 0, .long 2]) mlM_126 hM_in rfl ⟨by decide, by decide⟩ ⟨Nat.zero_le _, Nat.zero_le _⟩ rfl (Nat.le_of_ble_eq_true rfl) (aftI (b' := b) ⟨Nat.le_refl _, Nat.le_refl _⟩ (fun rv N h => h) h)

theorem vM_words_9 {M : Mm} {b : Nat × Nat} {K : Int32 → Mm → Prop} {v0 : Nat} {v1 : Int32} {w0 : Int32}  
    (h : (¬ w0 = 0 → (X mM_words 18 [(0, .ref v0), (1, .int v1), (2, .int 0), (3, .int 0)] [] M b (QI K))) ∧ (w0 = 0 → (K (-1) M))) : X mM_words 9 [(0, .ref v0), (1, .int v1)] [.int w0] M b (QI K) := by
  refine x_wf (fun hw => ?_)
  obtain ⟨g1_0, g1_1⟩ := h
  refine x_if_ne (pc := 9) dM_words_9 (t := 14) rfl (fun q1 => ?_) (fun q1 => ?_)
  · refine x_iconst (pc := 14) dM_words_14 (v := 0) rfl ?_
    have h := g1_0 q1
    refine x_istore_n (pc := 15) dM_words_15 rfl (by decide) (L' := [(2, .int 0), (0, .ref v0), (1, .int v1)]) rfl ?_
    refine x_iconst (pc := 16) dM_words_16 (v := 0) rfl ?_
    refine x_istore_n (pc := 17) dM_words_17 rfl (by decide) (L' := [(3, .int 0), (2, .int 0), (0, .ref v0), (1, .int v1)]) rfl ?_
    exact x_loc [2, 3, 1, 0] rfl h
  · refine x_iconst (pc := 12) dM_words_12 (v := (-1)) rfl ?_
    have h := g1_1 q1
    exact x_retQI (pc := 13) dM_words_13 rfl rfl h

theorem vM_words_18 {M : Mm} {b : Nat × Nat} {K : Int32 → Mm → Prop} {v0 : Nat} {v1 : Int32} {v2 : Int32} {v3 : Int32} (kv0 : v0 % 64 = 11) 
    (h : (((gi M v0 0) ≤ v3 ∧ ¬ v1 = 0 ∧ ¬ v1 = 1) → (K v2 M)) ∧ (((gi M v0 0) ≤ v3 ∧ ¬ v1 = 0 ∧ v1 = 1) → (K (gi M v0 24) M)) ∧ (((gi M v0 0) ≤ v3 ∧ v1 = 0) → (K (gi M v0 23) M)) ∧ (¬ (gi M v0 0) ≤ v3 → (CI mM_counts [.ref v0, .int v3] M (fun rv N => X mM_words 32 [(0, .ref v0), (1, .int v1), (3, .int v3)] [.int rv, .int v2] N b (QI K))))) : X mM_words 18 [(0, .ref v0), (1, .int v1), (2, .int v2), (3, .int v3)] [] M b (QI K) := by
  refine x_wf (fun hw => ?_)
  refine x_iload_n (pc := 18) dM_words_18 rfl (q := 3) rfl ?_
  refine x_aload_n (pc := 19) dM_words_19 rfl (q := 0) rfl ?_
  refine x_getI (pc := 20) dM_words_20 kv0 flM_112 rfl ?_
  obtain ⟨g1_0, g1_1, g1_2, g1_3⟩ := h
  refine x_icmp_ge (pc := 23) dM_words_23 (t := 50) rfl (fun q1 => ?_) (fun q1 => ?_)
  · refine x_iload_n (pc := 50) dM_words_50 rfl (q := 1) rfl ?_
    refine x_if_ne (pc := 51) dM_words_51 (t := 61) rfl (fun q2 => ?_) (fun q2 => ?_)
    · refine x_iload_n (pc := 61) dM_words_61 rfl (q := 1) rfl ?_
      refine x_iconst (pc := 62) dM_words_62 (v := 1) rfl ?_
      refine x_icmp_ne (pc := 63) dM_words_63 (t := 73) rfl (fun q3 => ?_) (fun q3 => ?_)
      · refine x_iload_n (pc := 73) dM_words_73 rfl (q := 2) rfl ?_
        have h := g1_0 ⟨q1, q2, q3⟩
        exact x_retQI (pc := 74) dM_words_74 rfl rfl h
      · refine x_aload_n (pc := 66) dM_words_66 rfl (q := 0) rfl ?_
        refine x_getI (pc := 67) dM_words_67 kv0 flM_241 rfl ?_
        refine x_goto (pc := 70) dM_words_70 (t := 74) rfl ?_
        have h := g1_1 ⟨q1, q2, q3⟩
        exact x_retQI (pc := 74) dM_words_74 rfl rfl h
    · refine x_aload_n (pc := 54) dM_words_54 rfl (q := 0) rfl ?_
      refine x_getI (pc := 55) dM_words_55 kv0 flM_250 rfl ?_
      refine x_goto (pc := 58) dM_words_58 (t := 74) rfl ?_
      have h := g1_2 ⟨q1, q2⟩
      exact x_retQI (pc := 74) dM_words_74 rfl rfl h
  · refine x_iload_n (pc := 26) dM_words_26 rfl (q := 2) rfl ?_
    refine x_aload_n (pc := 27) dM_words_27 rfl (q := 0) rfl ?_
    refine x_iload_n (pc := 28) dM_words_28 rfl (q := 3) rfl ?_
    have h := g1_3 q1
    exact x_invV (pc := 29) dM_words_29 (c := 11) (S := [.int v2]) (As := [.int v3]) mlM_283 hM_counts rfl (by decide) rfl kv0 ⟨by decide, by decide⟩ ⟨Nat.zero_le _, Nat.zero_le _⟩ rfl (Nat.le_of_ble_eq_true rfl) (aftI (b' := b) ⟨Nat.le_refl _, Nat.le_refl _⟩ (fun rv N h => x_loc [0, 1, 3] rfl h) h)

theorem vM_words_32 {M : Mm} {b : Nat × Nat} {K : Int32 → Mm → Prop} {v0 : Nat} {v1 : Int32} {v3 : Int32} {w0 : Int32} {w1 : Int32}  
    (h : X mM_words 18 [(0, .ref v0), (1, .int v1), (2, .int (w1 ||| (if w0 = 0 then 0 else ((1 : Int32) <<< (v3 &&& 31)) : Int32))), (3, .int (v3 + 1))] [] M b (QI K)) : X mM_words 32 [(0, .ref v0), (1, .int v1), (3, .int v3)] [.int w0, .int w1] M b (QI K) := by
  refine x_wf (fun hw => ?_)
  suffices hJ : X mM_words 42 [(0, .ref v0), (1, .int v1), (3, .int v3)] [.int (if w0 = 0 then 0 else ((1 : Int32) <<< (v3 &&& 31)) : Int32), .int w1] M b (QI K) by
    refine x_if_eq (pc := 32) dM_words_32 (t := 41) rfl (fun q1 => ?_) (fun q1 => ?_)
    · refine x_iconst (pc := 41) dM_words_41 (v := 0) rfl ?_
      first | (rw [if_pos q1] at hJ; exact hJ) | (simp only [if_pos q1] at hJ ⊢; exact hJ)
    · refine x_iconst (pc := 35) dM_words_35 (v := 1) rfl ?_
      refine x_iload_n (pc := 36) dM_words_36 rfl (q := 2) rfl ?_
      refine x_ishl (pc := 37) dM_words_37 ?_
      refine x_goto (pc := 38) dM_words_38 (t := 42) rfl ?_
      first | (rw [if_neg q1] at hJ; exact hJ) | (simp only [if_neg q1] at hJ ⊢; exact hJ)
  refine x_ior (pc := 42) dM_words_42 ?_
  refine x_istore_n (pc := 43) dM_words_43 rfl (by decide) (L' := [(2, .int (w1 ||| (if w0 = 0 then 0 else ((1 : Int32) <<< (v3 &&& 31)) : Int32))), (0, .ref v0), (1, .int v1), (3, .int v3)]) rfl ?_
  refine x_iinc (pc := 44) dM_words_44 (q := 3) rfl (v := v3 + 1) rfl (by decide) (L' := [(3, .int (v3 + 1)), (2, .int (w1 ||| (if w0 = 0 then 0 else ((1 : Int32) <<< (v3 &&& 31)) : Int32))), (0, .ref v0), (1, .int v1)]) rfl ?_
  refine x_goto (pc := 47) dM_words_47 (t := 18) rfl ?_
  exact x_loc [2, 3, 1, 0] rfl h

theorem dM_counts_0 : decode (mB mM_counts) 0 = .ok (.aload_n 0, 1) := op42 (by decide +kernel)
theorem dM_counts_1 : decode (mB mM_counts) 1 = .ok (.iload_n 1, 1) := op27 (by decide +kernel)
theorem dM_counts_2 : decode (mB mM_counts) 2 = .ok (.iconst 0, 1) := op3 (by decide +kernel)
theorem dM_counts_3 : decode (mB mM_counts) 3 = .ok (.invokevirtual 244, 3) := op182 0 244 (by decide +kernel)
theorem dM_counts_6 : decode (mB mM_counts) 6 = .ok (.iconst 5, 1) := op8 (by decide +kernel)
theorem dM_counts_7 : decode (mB mM_counts) 7 = .ok (.if_icmp .eq 22, 3) := op159 0 22 (by decide +kernel)
theorem dM_counts_10 : decode (mB mM_counts) 10 = .ok (.aload_n 0, 1) := op42 (by decide +kernel)
theorem dM_counts_11 : decode (mB mM_counts) 11 = .ok (.iload_n 1, 1) := op27 (by decide +kernel)
theorem dM_counts_12 : decode (mB mM_counts) 12 = .ok (.iconst 0, 1) := op3 (by decide +kernel)
theorem dM_counts_13 : decode (mB mM_counts) 13 = .ok (.invokevirtual 244, 3) := op182 0 244 (by decide +kernel)
theorem dM_counts_16 : decode (mB mM_counts) 16 = .ok (.iconst 3, 1) := op6 (by decide +kernel)
theorem dM_counts_17 : decode (mB mM_counts) 17 = .ok (.if_icmp .ne 14, 3) := op160 0 14 (by decide +kernel)
theorem dM_counts_20 : decode (mB mM_counts) 20 = .ok (.aload_n 0, 1) := op42 (by decide +kernel)
theorem dM_counts_21 : decode (mB mM_counts) 21 = .ok (.getfield 36, 3) := op180 0 36 (by decide +kernel)
theorem dM_counts_24 : decode (mB mM_counts) 24 = .ok (.iconst 2, 1) := op5 (by decide +kernel)
theorem dM_counts_25 : decode (mB mM_counts) 25 = .ok (.iaload, 1) := op46 (by decide +kernel)
theorem dM_counts_26 : decode (mB mM_counts) 26 = .ok (.ifCond .ne 5, 3) := op154 0 5 (by decide +kernel)
theorem dM_counts_29 : decode (mB mM_counts) 29 = .ok (.iconst 0, 1) := op3 (by decide +kernel)
theorem dM_counts_30 : decode (mB mM_counts) 30 = .ok (.ireturn, 1) := op172 (by decide +kernel)
theorem dM_counts_31 : decode (mB mM_counts) 31 = .ok (.aload_n 0, 1) := op42 (by decide +kernel)
theorem dM_counts_32 : decode (mB mM_counts) 32 = .ok (.getfield 29, 3) := op180 0 29 (by decide +kernel)
theorem dM_counts_35 : decode (mB mM_counts) 35 = .ok (.aload_n 0, 1) := op42 (by decide +kernel)
theorem dM_counts_36 : decode (mB mM_counts) 36 = .ok (.iload_n 1, 1) := op27 (by decide +kernel)
theorem dM_counts_37 : decode (mB mM_counts) 37 = .ok (.iconst 2, 1) := op5 (by decide +kernel)
theorem dM_counts_38 : decode (mB mM_counts) 38 = .ok (.invokevirtual 244, 3) := op182 0 244 (by decide +kernel)
theorem dM_counts_41 : decode (mB mM_counts) 41 = .ok (.ishr, 1) := op122 (by decide +kernel)
theorem dM_counts_42 : decode (mB mM_counts) 42 = .ok (.iconst 1, 1) := op4 (by decide +kernel)
theorem dM_counts_43 : decode (mB mM_counts) 43 = .ok (.iand, 1) := op126 (by decide +kernel)
theorem dM_counts_44 : decode (mB mM_counts) 44 = .ok (.iconst 1, 1) := op4 (by decide +kernel)
theorem dM_counts_45 : decode (mB mM_counts) 45 = .ok (.if_icmp .ne 27, 3) := op160 0 27 (by decide +kernel)
theorem dM_counts_48 : decode (mB mM_counts) 48 = .ok (.aload_n 0, 1) := op42 (by decide +kernel)
theorem dM_counts_49 : decode (mB mM_counts) 49 = .ok (.getfield 13, 3) := op180 0 13 (by decide +kernel)
theorem dM_counts_52 : decode (mB mM_counts) 52 = .ok (.aload_n 0, 1) := op42 (by decide +kernel)
theorem dM_counts_53 : decode (mB mM_counts) 53 = .ok (.iload_n 1, 1) := op27 (by decide +kernel)
theorem dM_counts_54 : decode (mB mM_counts) 54 = .ok (.iconst 2, 1) := op5 (by decide +kernel)
theorem dM_counts_55 : decode (mB mM_counts) 55 = .ok (.invokevirtual 244, 3) := op182 0 244 (by decide +kernel)
theorem dM_counts_58 : decode (mB mM_counts) 58 = .ok (.iaload, 1) := op46 (by decide +kernel)
theorem dM_counts_59 : decode (mB mM_counts) 59 = .ok (.aload_n 0, 1) := op42 (by decide +kernel)
theorem dM_counts_60 : decode (mB mM_counts) 60 = .ok (.getfield 36, 3) := op180 0 36 (by decide +kernel)
theorem dM_counts_63 : decode (mB mM_counts) 63 = .ok (.iconst 1, 1) := op4 (by decide +kernel)
theorem dM_counts_64 : decode (mB mM_counts) 64 = .ok (.iaload, 1) := op46 (by decide +kernel)
theorem dM_counts_65 : decode (mB mM_counts) 65 = .ok (.if_icmp .lt 7, 3) := op161 0 7 (by decide +kernel)
theorem dM_counts_68 : decode (mB mM_counts) 68 = .ok (.iconst 1, 1) := op4 (by decide +kernel)
theorem dM_counts_69 : decode (mB mM_counts) 69 = .ok (.goto 4, 3) := op167 0 4 (by decide +kernel)
theorem dM_counts_72 : decode (mB mM_counts) 72 = .ok (.iconst 0, 1) := op3 (by decide +kernel)
theorem dM_counts_73 : decode (mB mM_counts) 73 = .ok (.istore_n 2, 1) := op61 (by decide +kernel)
theorem dM_counts_74 : decode (mB mM_counts) 74 = .ok (.aload_n 0, 1) := op42 (by decide +kernel)
theorem dM_counts_75 : decode (mB mM_counts) 75 = .ok (.getfield 36, 3) := op180 0 36 (by decide +kernel)
theorem dM_counts_78 : decode (mB mM_counts) 78 = .ok (.iconst 0, 1) := op3 (by decide +kernel)
theorem dM_counts_79 : decode (mB mM_counts) 79 = .ok (.iaload, 1) := op46 (by decide +kernel)
theorem dM_counts_80 : decode (mB mM_counts) 80 = .ok (.aload_n 0, 1) := op42 (by decide +kernel)
theorem dM_counts_81 : decode (mB mM_counts) 81 = .ok (.iload_n 1, 1) := op27 (by decide +kernel)
theorem dM_counts_82 : decode (mB mM_counts) 82 = .ok (.iconst 1, 1) := op4 (by decide +kernel)
theorem dM_counts_83 : decode (mB mM_counts) 83 = .ok (.invokevirtual 244, 3) := op182 0 244 (by decide +kernel)
theorem dM_counts_86 : decode (mB mM_counts) 86 = .ok (.ishr, 1) := op122 (by decide +kernel)
theorem dM_counts_87 : decode (mB mM_counts) 87 = .ok (.iconst 1, 1) := op4 (by decide +kernel)
theorem dM_counts_88 : decode (mB mM_counts) 88 = .ok (.iand, 1) := op126 (by decide +kernel)
theorem dM_counts_89 : decode (mB mM_counts) 89 = .ok (.iconst 1, 1) := op4 (by decide +kernel)
theorem dM_counts_90 : decode (mB mM_counts) 90 = .ok (.if_icmp .eq 7, 3) := op159 0 7 (by decide +kernel)
theorem dM_counts_93 : decode (mB mM_counts) 93 = .ok (.iload_n 2, 1) := op28 (by decide +kernel)
theorem dM_counts_94 : decode (mB mM_counts) 94 = .ok (.ifCond .eq 7, 3) := op153 0 7 (by decide +kernel)
theorem dM_counts_97 : decode (mB mM_counts) 97 = .ok (.iconst 1, 1) := op4 (by decide +kernel)
theorem dM_counts_98 : decode (mB mM_counts) 98 = .ok (.goto 4, 3) := op167 0 4 (by decide +kernel)
theorem dM_counts_101 : decode (mB mM_counts) 101 = .ok (.iconst 0, 1) := op3 (by decide +kernel)
theorem dM_counts_102 : decode (mB mM_counts) 102 = .ok (.ireturn, 1) := op172 (by decide +kernel)

theorem vM_counts_0 {M : Mm} {b : Nat × Nat} {K : Int32 → Mm → Prop} {v0 : Nat} {v1 : Int32} (kv0 : v0 % 64 = 11) 
    (h : CI mM_of [.ref v0, .int v1, .int 0] M (fun rv N => X mM_counts 6 [(0, .ref v0), (1, .int v1)] [.int rv] N b (QI K))) : X mM_counts 0 [(0, .ref v0), (1, .int v1)] [] M b (QI K) := by
  refine x_wf (fun hw => ?_)
  refine x_aload_n (pc := 0) dM_counts_0 rfl (q := 0) rfl ?_
  refine x_iload_n (pc := 1) dM_counts_1 rfl (q := 1) rfl ?_
  refine x_iconst (pc := 2) dM_counts_2 (v := 0) rfl ?_
  exact x_invV (pc := 3) dM_counts_3 (c := 11) (S := []) (As := [.int v1, .int 0]) mlM_244 hM_of rfl (by decide) rfl kv0 ⟨by decide, by decide⟩ ⟨Nat.zero_le _, Nat.zero_le _⟩ rfl (Nat.le_of_ble_eq_true rfl) (aftI (b' := b) ⟨Nat.le_refl _, Nat.le_refl _⟩ (fun rv N h => h) h)

theorem vM_counts_6 {M : Mm} {b : Nat × Nat} {K : Int32 → Mm → Prop} {v0 : Nat} {v1 : Int32} {w0 : Int32} (kv0 : v0 % 64 = 11) 
    (h : (w0 = 5 → (K 0 M)) ∧ (¬ w0 = 5 → (CI mM_of [.ref v0, .int v1, .int 0] M (fun rv N => X mM_counts 16 [(0, .ref v0), (1, .int v1)] [.int rv] N b (QI K))))) : X mM_counts 6 [(0, .ref v0), (1, .int v1)] [.int w0] M b (QI K) := by
  refine x_wf (fun hw => ?_)
  refine x_iconst (pc := 6) dM_counts_6 (v := 5) rfl ?_
  obtain ⟨g1_0, g1_1⟩ := h
  refine x_icmp_eq (pc := 7) dM_counts_7 (t := 29) rfl (fun q1 => ?_) (fun q1 => ?_)
  · have h := g1_0 q1
    refine x_iconst (pc := 29) dM_counts_29 (v := 0) rfl ?_
    exact x_retQI (pc := 30) dM_counts_30 rfl (by (repeat' split) <;> rfl) h
  · refine x_aload_n (pc := 10) dM_counts_10 rfl (q := 0) rfl ?_
    refine x_iload_n (pc := 11) dM_counts_11 rfl (q := 1) rfl ?_
    refine x_iconst (pc := 12) dM_counts_12 (v := 0) rfl ?_
    have h := g1_1 q1
    exact x_invV (pc := 13) dM_counts_13 (c := 11) (S := []) (As := [.int v1, .int 0]) mlM_244 hM_of rfl (by decide) rfl kv0 ⟨by decide, by decide⟩ ⟨Nat.zero_le _, Nat.zero_le _⟩ rfl (Nat.le_of_ble_eq_true rfl) (aftI (b' := b) ⟨Nat.le_refl _, Nat.le_refl _⟩ (fun rv N h => h) h)

theorem vM_counts_16 {M : Mm} {b : Nat × Nat} {K : Int32 → Mm → Prop} {v0 : Nat} {v1 : Int32} {w0 : Int32} {r1 : Nat} (kv0 : v0 % 64 = 11) (e1 : gr M v0 18 = some r1)
    (h : (((¬ w0 = 3) ∨ (w0 = 3 ∧ ¬ (gi M r1 2) = 0)) → (CI mM_of [.ref v0, .int v1, .int 2] M (fun rv N => X mM_counts 41 [(0, .ref v0), (1, .int v1)] [.int rv, .int (gi M v0 9)] N b (QI K)))) ∧ ((w0 = 3 ∧ (gi M r1 2) = 0) → (K 0 M))) : X mM_counts 16 [(0, .ref v0), (1, .int v1)] [.int w0] M b (QI K) := by
  refine x_wf (fun hw => ?_)
  refine x_iconst (pc := 16) dM_counts_16 (v := 3) rfl ?_
  obtain ⟨g1_0, g1_1⟩ := h
  have g1_k0 : (¬ w0 = 3) ∨ (w0 = 3 ∧ ¬ (gi M r1 2) = 0) → X mM_counts 31 [(0, .ref v0), (1, .int v1)] [] M b (QI K) := fun q => by
    have h := g1_0 q
    refine x_aload_n (pc := 31) dM_counts_31 rfl (q := 0) rfl ?_
    refine x_getI (pc := 32) dM_counts_32 kv0 flM_29 rfl ?_
    refine x_aload_n (pc := 35) dM_counts_35 rfl (q := 0) rfl ?_
    refine x_iload_n (pc := 36) dM_counts_36 rfl (q := 1) rfl ?_
    refine x_iconst (pc := 37) dM_counts_37 (v := 2) rfl ?_
    exact x_invV (pc := 38) dM_counts_38 (c := 11) (S := [.int (gi M v0 9)]) (As := [.int v1, .int 2]) mlM_244 hM_of rfl (by decide) rfl kv0 ⟨by decide, by decide⟩ ⟨Nat.zero_le _, Nat.zero_le _⟩ rfl (Nat.le_of_ble_eq_true rfl) (aftI (b' := b) ⟨Nat.le_refl _, Nat.le_refl _⟩ (fun rv N h => h) h)
  refine x_icmp_ne (pc := 17) dM_counts_17 (t := 31) rfl (fun q1 => ?_) (fun q1 => ?_)
  · exact g1_k0 (Or.inl q1)
  · refine x_aload_n (pc := 20) dM_counts_20 rfl (q := 0) rfl ?_
    refine x_getR (pc := 21) dM_counts_21 kv0 flM_36 rfl e1 ?_
    refine x_iconst (pc := 24) dM_counts_24 (v := 2) rfl ?_
    refine x_aldIj (pc := 25) (j := 2) (Or.inl ⟨rfl, rfl⟩) dM_counts_25 (wfk hw e1 kv0) ak_15 (by decide) (by unfold vp_in; decide) ?_
    refine x_if_ne (pc := 26) dM_counts_26 (t := 31) rfl (fun q2 => ?_) (fun q2 => ?_)
    · exact g1_k0 (Or.inr ⟨q1, q2⟩)
    · have h := g1_1 ⟨q1, q2⟩
      refine x_iconst (pc := 29) dM_counts_29 (v := 0) rfl ?_
      exact x_retQI (pc := 30) dM_counts_30 rfl (by (repeat' split) <;> rfl) h

theorem vM_counts_41 {M : Mm} {b : Nat × Nat} {K : Int32 → Mm → Prop} {v0 : Nat} {v1 : Int32} {w0 : Int32} {w1 : Int32} {r1 : Nat} (kv0 : v0 % 64 = 11) (e1 : gr M v0 2 = some r1)
    (h : (¬ ((w1 >>> (w0 &&& 31)) &&& 1) = 1 → (X mM_counts 72 [(0, .ref v0), (1, .int v1)] [] M b (QI K))) ∧ (((w1 >>> (w0 &&& 31)) &&& 1) = 1 → (CI mM_of [.ref v0, .int v1, .int 2] M (fun rv N => X mM_counts 58 [(0, .ref v0), (1, .int v1)] [.int rv, .ref r1] N b (QI K))))) : X mM_counts 41 [(0, .ref v0), (1, .int v1)] [.int w0, .int w1] M b (QI K) := by
  refine x_wf (fun hw => ?_)
  refine x_ishr (pc := 41) dM_counts_41 ?_
  refine x_iconst (pc := 42) dM_counts_42 (v := 1) rfl ?_
  refine x_iand (pc := 43) dM_counts_43 ?_
  refine x_iconst (pc := 44) dM_counts_44 (v := 1) rfl ?_
  obtain ⟨g1_0, g1_1⟩ := h
  refine x_icmp_ne (pc := 45) dM_counts_45 (t := 72) rfl (fun q1 => ?_) (fun q1 => ?_)
  · have h := g1_0 q1
    exact h
  · refine x_aload_n (pc := 48) dM_counts_48 rfl (q := 0) rfl ?_
    refine x_getR (pc := 49) dM_counts_49 kv0 flM_13 rfl e1 ?_
    refine x_aload_n (pc := 52) dM_counts_52 rfl (q := 0) rfl ?_
    refine x_iload_n (pc := 53) dM_counts_53 rfl (q := 1) rfl ?_
    refine x_iconst (pc := 54) dM_counts_54 (v := 2) rfl ?_
    have h := g1_1 q1
    exact x_invV (pc := 55) dM_counts_55 (c := 11) (S := [.ref r1]) (As := [.int v1, .int 2]) mlM_244 hM_of rfl (by decide) rfl kv0 ⟨by decide, by decide⟩ ⟨Nat.zero_le _, Nat.zero_le _⟩ rfl (Nat.le_of_ble_eq_true rfl) (aftI (b' := b) ⟨Nat.le_refl _, Nat.le_refl _⟩ (fun rv N h => h) h)

theorem vM_counts_58 {M : Mm} {b : Nat × Nat} {K : Int32 → Mm → Prop} {v0 : Nat} {v1 : Int32} {w0 : Int32} {w1 : Nat} {r1 : Nat} (kw1 : w1 % 64 = 13) (kv0 : v0 % 64 = 11) (e1 : gr M v0 18 = some r1)
    (h : vp_in w0 8 ∧ (((gi M w1 (w0).toNatClampNeg) < (gi M r1 1) → (X mM_counts 72 [(0, .ref v0), (1, .int v1)] [] M b (QI K))) ∧ (¬ (gi M w1 (w0).toNatClampNeg) < (gi M r1 1) → (X mM_counts 73 [(0, .ref v0), (1, .int v1)] [.int 1] M b (QI K))))) : X mM_counts 58 [(0, .ref v0), (1, .int v1)] [.int w0, .ref w1] M b (QI K) := by
  refine x_wf (fun hw => ?_)
  obtain ⟨s501, h⟩ := h
  refine x_aldIj (pc := 58) (j := (w0).toNatClampNeg) (Or.inl ⟨rfl, rfl⟩) dM_counts_58 kw1 ak_13 rfl s501 ?_
  refine x_aload_n (pc := 59) dM_counts_59 rfl (q := 0) rfl ?_
  refine x_getR (pc := 60) dM_counts_60 kv0 flM_36 rfl e1 ?_
  refine x_iconst (pc := 63) dM_counts_63 (v := 1) rfl ?_
  refine x_aldIj (pc := 64) (j := 1) (Or.inl ⟨rfl, rfl⟩) dM_counts_64 (wfk hw e1 kv0) ak_15 (by decide) (by unfold vp_in; decide) ?_
  obtain ⟨g1_0, g1_1⟩ := h
  refine x_icmp_lt (pc := 65) dM_counts_65 (t := 72) rfl (fun q1 => ?_) (fun q1 => ?_)
  · have h := g1_0 q1
    exact h
  · refine x_iconst (pc := 68) dM_counts_68 (v := 1) rfl ?_
    refine x_goto (pc := 69) dM_counts_69 (t := 73) rfl ?_
    have h := g1_1 q1
    exact h

theorem vM_counts_72 {M : Mm} {b : Nat × Nat} {K : Int32 → Mm → Prop} {v0 : Nat} {v1 : Int32}  
    (h : X mM_counts 73 [(0, .ref v0), (1, .int v1)] [.int 0] M b (QI K)) : X mM_counts 72 [(0, .ref v0), (1, .int v1)] [] M b (QI K) := by
  refine x_wf (fun hw => ?_)
  refine x_iconst (pc := 72) dM_counts_72 (v := 0) rfl ?_
  exact h

theorem vM_counts_73 {M : Mm} {b : Nat × Nat} {K : Int32 → Mm → Prop} {v0 : Nat} {v1 : Int32} {w0 : Int32} {r1 : Nat} (kv0 : v0 % 64 = 11) (e1 : gr M v0 18 = some r1)
    (h : CI mM_of [.ref v0, .int v1, .int 1] M (fun rv N => X mM_counts 86 [(2, .int w0)] [.int rv, .int (gi M r1 0)] N b (QI K))) : X mM_counts 73 [(0, .ref v0), (1, .int v1)] [.int w0] M b (QI K) := by
  refine x_wf (fun hw => ?_)
  refine x_istore_n (pc := 73) dM_counts_73 rfl (by decide) (L' := [(2, .int w0), (0, .ref v0), (1, .int v1)]) rfl ?_
  refine x_aload_n (pc := 74) dM_counts_74 rfl (q := 1) rfl ?_
  refine x_getR (pc := 75) dM_counts_75 kv0 flM_36 rfl e1 ?_
  refine x_iconst (pc := 78) dM_counts_78 (v := 0) rfl ?_
  refine x_aldIj (pc := 79) (j := 0) (Or.inl ⟨rfl, rfl⟩) dM_counts_79 (wfk hw e1 kv0) ak_15 (by decide) (by unfold vp_in; decide) ?_
  refine x_aload_n (pc := 80) dM_counts_80 rfl (q := 1) rfl ?_
  refine x_iload_n (pc := 81) dM_counts_81 rfl (q := 2) rfl ?_
  refine x_iconst (pc := 82) dM_counts_82 (v := 1) rfl ?_
  exact x_invV (pc := 83) dM_counts_83 (c := 11) (S := [.int (gi M r1 0)]) (As := [.int v1, .int 1]) mlM_244 hM_of rfl (by decide) rfl kv0 ⟨by decide, by decide⟩ ⟨Nat.zero_le _, Nat.zero_le _⟩ rfl (Nat.le_of_ble_eq_true rfl) (aftI (b' := b) ⟨Nat.le_refl _, Nat.le_refl _⟩ (fun rv N h => x_loc [0] rfl h) h)

theorem vM_counts_86 {M : Mm} {b : Nat × Nat} {K : Int32 → Mm → Prop} {v2 : Int32} {w0 : Int32} {w1 : Int32}  
    (h : (((((w1 >>> (w0 &&& 31)) &&& 1) = 1) ∨ (¬ ((w1 >>> (w0 &&& 31)) &&& 1) = 1 ∧ ¬ v2 = 0)) → (K 1 M)) ∧ ((¬ ((w1 >>> (w0 &&& 31)) &&& 1) = 1 ∧ v2 = 0) → (K 0 M))) : X mM_counts 86 [(2, .int v2)] [.int w0, .int w1] M b (QI K) := by
  refine x_wf (fun hw => ?_)
  refine x_ishr (pc := 86) dM_counts_86 ?_
  refine x_iconst (pc := 87) dM_counts_87 (v := 1) rfl ?_
  refine x_iand (pc := 88) dM_counts_88 ?_
  refine x_iconst (pc := 89) dM_counts_89 (v := 1) rfl ?_
  obtain ⟨g1_0, g1_1⟩ := h
  have g1_k0 : (((w1 >>> (w0 &&& 31)) &&& 1) = 1) ∨ (¬ ((w1 >>> (w0 &&& 31)) &&& 1) = 1 ∧ ¬ v2 = 0) → X mM_counts 97 [(2, .int v2)] [] M b (QI K) := fun q => by
    have h := g1_0 q
    refine x_iconst (pc := 97) dM_counts_97 (v := 1) rfl ?_
    refine x_goto (pc := 98) dM_counts_98 (t := 102) rfl ?_
    exact x_retQI (pc := 102) dM_counts_102 rfl (by (repeat' split) <;> rfl) h
  refine x_icmp_eq (pc := 90) dM_counts_90 (t := 97) rfl (fun q1 => ?_) (fun q1 => ?_)
  · exact g1_k0 (Or.inl q1)
  · refine x_iload_n (pc := 93) dM_counts_93 rfl (q := 0) rfl ?_
    refine x_if_eq (pc := 94) dM_counts_94 (t := 101) rfl (fun q2 => ?_) (fun q2 => ?_)
    · refine x_iconst (pc := 101) dM_counts_101 (v := 0) rfl ?_
      have h := g1_1 ⟨q1, q2⟩
      exact x_retQI (pc := 102) dM_counts_102 rfl (by (repeat' split) <;> rfl) h
    · exact g1_k0 (Or.inr ⟨q1, q2⟩)

theorem dM_meets_0 : decode (mB mM_meets) 0 = .ok (.iload_n 1, 1) := op27 (by decide +kernel)
theorem dM_meets_1 : decode (mB mM_meets) 1 = .ok (.invokestatic 275, 3) := op184 1 19 (by decide +kernel)
theorem dM_meets_4 : decode (mB mM_meets) 4 = .ok (.ifCond .eq 15, 3) := op153 0 15 (by decide +kernel)
theorem dM_meets_7 : decode (mB mM_meets) 7 = .ok (.iload_n 2, 1) := op28 (by decide +kernel)
theorem dM_meets_8 : decode (mB mM_meets) 8 = .ok (.i2l, 1) := op133 (by decide +kernel)
theorem dM_meets_9 : decode (mB mM_meets) 9 = .ok (.lconst 0, 1) := op9 (by decide +kernel)
theorem dM_meets_10 : decode (mB mM_meets) 10 = .ok (.ldc2_w 281, 3) := op20 1 25 (by decide +kernel)
theorem dM_meets_13 : decode (mB mM_meets) 13 = .ok (.invokestatic 126, 3) := op184 0 126 (by decide +kernel)
theorem dM_meets_16 : decode (mB mM_meets) 16 = .ok (.ifCond .ne 5, 3) := op154 0 5 (by decide +kernel)
theorem dM_meets_19 : decode (mB mM_meets) 19 = .ok (.iconst (-1), 1) := op2 (by decide +kernel)
theorem dM_meets_20 : decode (mB mM_meets) 20 = .ok (.ireturn, 1) := op172 (by decide +kernel)
theorem dM_meets_21 : decode (mB mM_meets) 21 = .ok (.iconst 0, 1) := op3 (by decide +kernel)
theorem dM_meets_22 : decode (mB mM_meets) 22 = .ok (.istore_n 3, 1) := op62 (by decide +kernel)
theorem dM_meets_23 : decode (mB mM_meets) 23 = .ok (.iconst 0, 1) := op3 (by decide +kernel)
theorem dM_meets_24 : decode (mB mM_meets) 24 = .ok (.istore 4, 2) := op54 4 (by decide +kernel)
theorem dM_meets_26 : decode (mB mM_meets) 26 = .ok (.iload 4, 2) := op21 4 (by decide +kernel)
theorem dM_meets_28 : decode (mB mM_meets) 28 = .ok (.aload_n 0, 1) := op42 (by decide +kernel)
theorem dM_meets_29 : decode (mB mM_meets) 29 = .ok (.getfield 112, 3) := op180 0 112 (by decide +kernel)
theorem dM_meets_32 : decode (mB mM_meets) 32 = .ok (.if_icmp .ge 91, 3) := op162 0 91 (by decide +kernel)
theorem dM_meets_35 : decode (mB mM_meets) 35 = .ok (.aload_n 0, 1) := op42 (by decide +kernel)
theorem dM_meets_36 : decode (mB mM_meets) 36 = .ok (.getfield 51, 3) := op180 0 51 (by decide +kernel)
theorem dM_meets_39 : decode (mB mM_meets) 39 = .ok (.iload 4, 2) := op21 4 (by decide +kernel)
theorem dM_meets_41 : decode (mB mM_meets) 41 = .ok (.laload, 1) := op47 (by decide +kernel)
theorem dM_meets_42 : decode (mB mM_meets) 42 = .ok (.aload_n 0, 1) := op42 (by decide +kernel)
theorem dM_meets_43 : decode (mB mM_meets) 43 = .ok (.getfield 55, 3) := op180 0 55 (by decide +kernel)
theorem dM_meets_46 : decode (mB mM_meets) 46 = .ok (.iload 4, 2) := op21 4 (by decide +kernel)
theorem dM_meets_48 : decode (mB mM_meets) 48 = .ok (.laload, 1) := op47 (by decide +kernel)
theorem dM_meets_49 : decode (mB mM_meets) 49 = .ok (.iload_n 1, 1) := op27 (by decide +kernel)
theorem dM_meets_50 : decode (mB mM_meets) 50 = .ok (.invokestatic 278, 3) := op184 1 22 (by decide +kernel)
theorem dM_meets_53 : decode (mB mM_meets) 53 = .ok (.istore 5, 2) := op54 5 (by decide +kernel)
theorem dM_meets_55 : decode (mB mM_meets) 55 = .ok (.iload_n 2, 1) := op28 (by decide +kernel)
theorem dM_meets_56 : decode (mB mM_meets) 56 = .ok (.iconst 1, 1) := op4 (by decide +kernel)
theorem dM_meets_57 : decode (mB mM_meets) 57 = .ok (.if_icmp .ne 17, 3) := op160 0 17 (by decide +kernel)
theorem dM_meets_60 : decode (mB mM_meets) 60 = .ok (.iload 5, 2) := op21 5 (by decide +kernel)
theorem dM_meets_62 : decode (mB mM_meets) 62 = .ok (.iconst 1, 1) := op4 (by decide +kernel)
theorem dM_meets_63 : decode (mB mM_meets) 63 = .ok (.if_icmp .ne 7, 3) := op160 0 7 (by decide +kernel)
theorem dM_meets_66 : decode (mB mM_meets) 66 = .ok (.iconst 1, 1) := op4 (by decide +kernel)
theorem dM_meets_67 : decode (mB mM_meets) 67 = .ok (.goto 32, 3) := op167 0 32 (by decide +kernel)
theorem dM_meets_70 : decode (mB mM_meets) 70 = .ok (.iconst 0, 1) := op3 (by decide +kernel)
theorem dM_meets_71 : decode (mB mM_meets) 71 = .ok (.goto 28, 3) := op167 0 28 (by decide +kernel)
theorem dM_meets_74 : decode (mB mM_meets) 74 = .ok (.iload 5, 2) := op21 5 (by decide +kernel)
theorem dM_meets_76 : decode (mB mM_meets) 76 = .ok (.bipush (-4), 2) := op16 252 (by decide +kernel)
theorem dM_meets_78 : decode (mB mM_meets) 78 = .ok (.if_icmp .eq 20, 3) := op159 0 20 (by decide +kernel)
theorem dM_meets_81 : decode (mB mM_meets) 81 = .ok (.iload_n 2, 1) := op28 (by decide +kernel)
theorem dM_meets_82 : decode (mB mM_meets) 82 = .ok (.ifCond .eq 12, 3) := op153 0 12 (by decide +kernel)
theorem dM_meets_85 : decode (mB mM_meets) 85 = .ok (.aload_n 0, 1) := op42 (by decide +kernel)
theorem dM_meets_86 : decode (mB mM_meets) 86 = .ok (.iload 4, 2) := op21 4 (by decide +kernel)
theorem dM_meets_88 : decode (mB mM_meets) 88 = .ok (.invokevirtual 283, 3) := op182 1 27 (by decide +kernel)
theorem dM_meets_91 : decode (mB mM_meets) 91 = .ok (.ifCond .eq 7, 3) := op153 0 7 (by decide +kernel)
theorem dM_meets_94 : decode (mB mM_meets) 94 = .ok (.iconst 1, 1) := op4 (by decide +kernel)
theorem dM_meets_95 : decode (mB mM_meets) 95 = .ok (.goto 4, 3) := op167 0 4 (by decide +kernel)
theorem dM_meets_98 : decode (mB mM_meets) 98 = .ok (.iconst 0, 1) := op3 (by decide +kernel)
theorem dM_meets_99 : decode (mB mM_meets) 99 = .ok (.istore 6, 2) := op54 6 (by decide +kernel)
theorem dM_meets_101 : decode (mB mM_meets) 101 = .ok (.iload_n 3, 1) := op29 (by decide +kernel)
theorem dM_meets_102 : decode (mB mM_meets) 102 = .ok (.iload 6, 2) := op21 6 (by decide +kernel)
theorem dM_meets_104 : decode (mB mM_meets) 104 = .ok (.ifCond .eq 10, 3) := op153 0 10 (by decide +kernel)
theorem dM_meets_107 : decode (mB mM_meets) 107 = .ok (.iconst 1, 1) := op4 (by decide +kernel)
theorem dM_meets_108 : decode (mB mM_meets) 108 = .ok (.iload 4, 2) := op21 4 (by decide +kernel)
theorem dM_meets_110 : decode (mB mM_meets) 110 = .ok (.ishl, 1) := op120 (by decide +kernel)
theorem dM_meets_111 : decode (mB mM_meets) 111 = .ok (.goto 4, 3) := op167 0 4 (by decide +kernel)
theorem dM_meets_114 : decode (mB mM_meets) 114 = .ok (.iconst 0, 1) := op3 (by decide +kernel)
theorem dM_meets_115 : decode (mB mM_meets) 115 = .ok (.ior, 1) := op128 (by decide +kernel)
theorem dM_meets_116 : decode (mB mM_meets) 116 = .ok (.istore_n 3, 1) := op62 (by decide +kernel)
theorem dM_meets_117 : decode (mB mM_meets) 117 = .ok (.iinc 4 1, 3) := op132 4 1 (by decide +kernel)
theorem dM_meets_120 : decode (mB mM_meets) 120 = .ok (.goto (-94), 3) := op167 255 162 (by decide +kernel)
theorem dM_meets_123 : decode (mB mM_meets) 123 = .ok (.iload_n 3, 1) := op29 (by decide +kernel)
theorem dM_meets_124 : decode (mB mM_meets) 124 = .ok (.ireturn, 1) := op172 (by decide +kernel)

theorem vM_meets_0 {M : Mm} {b : Nat × Nat} {K : Int32 → Mm → Prop} {v0 : Nat} {v1 : Int32} {v2 : Int32}  
    (h : CI mM_isCase [.int v1] M (fun rv N => X mM_meets 4 [(0, .ref v0), (1, .int v1), (2, .int v2)] [.int rv] N b (QI K))) : X mM_meets 0 [(0, .ref v0), (1, .int v1), (2, .int v2)] [] M b (QI K) := by
  refine x_wf (fun hw => ?_)
  refine x_iload_n (pc := 0) dM_meets_0 rfl (q := 1) rfl ?_
  exact x_invS (pc := 1) dM_meets_1 (S := []) (As := [.int v1]) mlM_275 hM_isCase rfl ⟨by decide, by decide⟩ ⟨Nat.zero_le _, Nat.zero_le _⟩ rfl (Nat.le_of_ble_eq_true rfl) (aftI (b' := b) ⟨Nat.le_refl _, Nat.le_refl _⟩ (fun rv N h => h) h)

theorem vM_meets_4 {M : Mm} {b : Nat × Nat} {K : Int32 → Mm → Prop} {v0 : Nat} {v1 : Int32} {v2 : Int32} {w0 : Int32}  
    (h : (w0 = 0 → (K (-1) M)) ∧ (¬ w0 = 0 → (CI mM_in [.long ((v2).toInt64), .long 0, .long 2] M (fun rv N => X mM_meets 16 [(0, .ref v0), (1, .int v1), (2, .int v2)] [.int rv] N b (QI K))))) : X mM_meets 4 [(0, .ref v0), (1, .int v1), (2, .int v2)] [.int w0] M b (QI K) := by
  refine x_wf (fun hw => ?_)
  obtain ⟨g1_0, g1_1⟩ := h
  refine x_if_eq (pc := 4) dM_meets_4 (t := 19) rfl (fun q1 => ?_) (fun q1 => ?_)
  · have h := g1_0 q1
    refine x_iconst (pc := 19) dM_meets_19 (v := (-1)) rfl ?_
    exact x_retQI (pc := 20) dM_meets_20 rfl rfl h
  · refine x_iload_n (pc := 7) dM_meets_7 rfl (q := 2) rfl ?_
    refine x_i2l (pc := 8) dM_meets_8 ?_
    refine x_lconst (pc := 9) dM_meets_9 (v := 0) rfl ?_
    refine x_ldc2 (pc := 10) dM_meets_10 klM_281 ?_
    have h := g1_1 q1
    exact x_invS (pc := 13) dM_meets_13 (S := []) (As := [.long ((v2).toInt64), .long 0, .long 2]) mlM_126 hM_in rfl ⟨by decide, by decide⟩ ⟨Nat.zero_le _, Nat.zero_le _⟩ rfl (Nat.le_of_ble_eq_true rfl) (aftI (b' := b) ⟨Nat.le_refl _, Nat.le_refl _⟩ (fun rv N h => h) h)

theorem vM_meets_16 {M : Mm} {b : Nat × Nat} {K : Int32 → Mm → Prop} {v0 : Nat} {v1 : Int32} {v2 : Int32} {w0 : Int32}  
    (h : (¬ w0 = 0 → (X mM_meets 26 [(0, .ref v0), (1, .int v1), (2, .int v2), (3, .int 0), (4, .int 0)] [] M b (QI K))) ∧ (w0 = 0 → (K (-1) M))) : X mM_meets 16 [(0, .ref v0), (1, .int v1), (2, .int v2)] [.int w0] M b (QI K) := by
  refine x_wf (fun hw => ?_)
  obtain ⟨g1_0, g1_1⟩ := h
  refine x_if_ne (pc := 16) dM_meets_16 (t := 21) rfl (fun q1 => ?_) (fun q1 => ?_)
  · refine x_iconst (pc := 21) dM_meets_21 (v := 0) rfl ?_
    have h := g1_0 q1
    refine x_istore_n (pc := 22) dM_meets_22 rfl (by decide) (L' := [(3, .int 0), (0, .ref v0), (1, .int v1), (2, .int v2)]) rfl ?_
    refine x_iconst (pc := 23) dM_meets_23 (v := 0) rfl ?_
    refine x_istore (pc := 24) dM_meets_24 (by decide) (L' := [(4, .int 0), (3, .int 0), (0, .ref v0), (1, .int v1), (2, .int v2)]) rfl ?_
    exact x_loc [2, 3, 4, 1, 0] rfl h
  · have h := g1_1 q1
    refine x_iconst (pc := 19) dM_meets_19 (v := (-1)) rfl ?_
    exact x_retQI (pc := 20) dM_meets_20 rfl rfl h

theorem vM_meets_26 {M : Mm} {b : Nat × Nat} {K : Int32 → Mm → Prop} {v0 : Nat} {v1 : Int32} {v2 : Int32} {v3 : Int32} {v4 : Int32} {r1 : Nat} {r2 : Nat} (kv0 : v0 % 64 = 11) (e1 : gr M v0 25 = some r1) (e2 : gr M v0 26 = some r2)
    (h : (¬ (gi M v0 0) ≤ v4 → vp_in v4 25) ∧ (¬ (gi M v0 0) ≤ v4 → vp_in v4 25) ∧ ((gi M v0 0) ≤ v4 → (K v3 M)) ∧ (¬ (gi M v0 0) ≤ v4 → (CI mM_told [.long (gl M r1 (v4).toNatClampNeg), .long (gl M r2 (v4).toNatClampNeg), .int v1] M (fun rv N => X mM_meets 53 [(0, .ref v0), (1, .int v1), (2, .int v2), (3, .int v3), (4, .int v4)] [.int rv] N b (QI K))))) : X mM_meets 26 [(0, .ref v0), (1, .int v1), (2, .int v2), (3, .int v3), (4, .int v4)] [] M b (QI K) := by
  refine x_wf (fun hw => ?_)
  refine x_iload (pc := 26) dM_meets_26 (q := 4) rfl ?_
  refine x_aload_n (pc := 28) dM_meets_28 rfl (q := 0) rfl ?_
  refine x_getI (pc := 29) dM_meets_29 kv0 flM_112 rfl ?_
  obtain ⟨s1, s2, g1_0, g1_1⟩ := h
  refine x_icmp_ge (pc := 32) dM_meets_32 (t := 123) rfl (fun q1 => ?_) (fun q1 => ?_)
  · refine x_iload_n (pc := 123) dM_meets_123 rfl (q := 3) rfl ?_
    have h := g1_0 q1
    exact x_retQI (pc := 124) dM_meets_124 rfl rfl h
  · refine x_aload_n (pc := 35) dM_meets_35 rfl (q := 0) rfl ?_
    refine x_getR (pc := 36) dM_meets_36 kv0 flM_51 rfl e1 ?_
    refine x_iload (pc := 39) dM_meets_39 (q := 4) rfl ?_
    refine x_aldLj (pc := 41) (j := (v4).toNatClampNeg) dM_meets_41 (wfk hw e1 kv0) ak_26 rfl (s1 q1) ?_
    refine x_aload_n (pc := 42) dM_meets_42 rfl (q := 0) rfl ?_
    refine x_getR (pc := 43) dM_meets_43 kv0 flM_55 rfl e2 ?_
    refine x_iload (pc := 46) dM_meets_46 (q := 4) rfl ?_
    refine x_aldLj (pc := 48) (j := (v4).toNatClampNeg) dM_meets_48 (wfk hw e2 kv0) ak_26 rfl (s2 q1) ?_
    refine x_iload_n (pc := 49) dM_meets_49 rfl (q := 1) rfl ?_
    have h := g1_1 q1
    exact x_invS (pc := 50) dM_meets_50 (S := []) (As := [.long (gl M r1 (v4).toNatClampNeg), .long (gl M r2 (v4).toNatClampNeg), .int v1]) mlM_278 hM_told rfl ⟨by decide, by decide⟩ ⟨Nat.zero_le _, Nat.zero_le _⟩ rfl (Nat.le_of_ble_eq_true rfl) (aftI (b' := b) ⟨Nat.le_refl _, Nat.le_refl _⟩ (fun rv N h => h) h)

theorem vM_meets_53 {M : Mm} {b : Nat × Nat} {K : Int32 → Mm → Prop} {v0 : Nat} {v1 : Int32} {v2 : Int32} {v3 : Int32} {v4 : Int32} {w0 : Int32} (kv0 : v0 % 64 = 11) 
    (h : ((¬ v2 = 1 ∧ w0 = (-4)) → (X mM_meets 98 [(0, .ref v0), (1, .int v1), (2, .int v2), (3, .int v3), (4, .int v4)] [] M b (QI K))) ∧ ((¬ v2 = 1 ∧ ¬ w0 = (-4) ∧ v2 = 0) → (X mM_meets 94 [(0, .ref v0), (1, .int v1), (2, .int v2), (3, .int v3), (4, .int v4)] [] M b (QI K))) ∧ ((¬ v2 = 1 ∧ ¬ w0 = (-4) ∧ ¬ v2 = 0) → (CI mM_counts [.ref v0, .int v4] M (fun rv N => X mM_meets 91 [(0, .ref v0), (1, .int v1), (2, .int v2), (3, .int v3), (4, .int v4)] [.int rv] N b (QI K)))) ∧ ((v2 = 1 ∧ ¬ w0 = 1) → (X mM_meets 99 [(0, .ref v0), (1, .int v1), (2, .int v2), (3, .int v3), (4, .int v4)] [.int 0] M b (QI K))) ∧ ((v2 = 1 ∧ w0 = 1) → (X mM_meets 99 [(0, .ref v0), (1, .int v1), (2, .int v2), (3, .int v3), (4, .int v4)] [.int 1] M b (QI K)))) : X mM_meets 53 [(0, .ref v0), (1, .int v1), (2, .int v2), (3, .int v3), (4, .int v4)] [.int w0] M b (QI K) := by
  refine x_wf (fun hw => ?_)
  refine x_istore (pc := 53) dM_meets_53 (by decide) (L' := [(5, .int w0), (0, .ref v0), (1, .int v1), (2, .int v2), (3, .int v3), (4, .int v4)]) rfl ?_
  refine x_iload_n (pc := 55) dM_meets_55 rfl (q := 3) rfl ?_
  refine x_iconst (pc := 56) dM_meets_56 (v := 1) rfl ?_
  obtain ⟨g1_0, g1_1, g1_2, g1_3, g1_4⟩ := h
  refine x_icmp_ne (pc := 57) dM_meets_57 (t := 74) rfl (fun q1 => ?_) (fun q1 => ?_)
  · refine x_iload (pc := 74) dM_meets_74 (q := 0) rfl ?_
    refine x_bipush (pc := 76) dM_meets_76 (v := (-4)) rfl ?_
    refine x_icmp_eq (pc := 78) dM_meets_78 (t := 98) rfl (fun q2 => ?_) (fun q2 => ?_)
    · have h := g1_0 ⟨q1, q2⟩
      exact x_loc [1, 2, 3, 4, 5] rfl h
    · refine x_iload_n (pc := 81) dM_meets_81 rfl (q := 3) rfl ?_
      refine x_if_eq (pc := 82) dM_meets_82 (t := 94) rfl (fun q3 => ?_) (fun q3 => ?_)
      · have h := g1_1 ⟨q1, q2, q3⟩
        exact x_loc [1, 2, 3, 4, 5] rfl h
      · refine x_aload_n (pc := 85) dM_meets_85 rfl (q := 1) rfl ?_
        refine x_iload (pc := 86) dM_meets_86 (q := 5) rfl ?_
        have h := g1_2 ⟨q1, q2, q3⟩
        exact x_invV (pc := 88) dM_meets_88 (c := 11) (S := []) (As := [.int v4]) mlM_283 hM_counts rfl (by decide) rfl kv0 ⟨by decide, by decide⟩ ⟨Nat.zero_le _, Nat.zero_le _⟩ rfl (Nat.le_of_ble_eq_true rfl) (aftI (b' := b) ⟨Nat.le_refl _, Nat.le_refl _⟩ (fun rv N h => x_loc [1, 2, 3, 4, 5] rfl h) h)
  · refine x_iload (pc := 60) dM_meets_60 (q := 0) rfl ?_
    refine x_iconst (pc := 62) dM_meets_62 (v := 1) rfl ?_
    refine x_icmp_ne (pc := 63) dM_meets_63 (t := 70) rfl (fun q4 => ?_) (fun q4 => ?_)
    · refine x_iconst (pc := 70) dM_meets_70 (v := 0) rfl ?_
      refine x_goto (pc := 71) dM_meets_71 (t := 99) rfl ?_
      have h := g1_3 ⟨q1, q4⟩
      exact x_loc [1, 2, 3, 4, 5] rfl h
    · refine x_iconst (pc := 66) dM_meets_66 (v := 1) rfl ?_
      refine x_goto (pc := 67) dM_meets_67 (t := 99) rfl ?_
      have h := g1_4 ⟨q1, q4⟩
      exact x_loc [1, 2, 3, 4, 5] rfl h

theorem vM_meets_91 {M : Mm} {b : Nat × Nat} {K : Int32 → Mm → Prop} {v0 : Nat} {v1 : Int32} {v2 : Int32} {v3 : Int32} {v4 : Int32} {w0 : Int32}  
    (h : (w0 = 0 → (X mM_meets 98 [(0, .ref v0), (1, .int v1), (2, .int v2), (3, .int v3), (4, .int v4)] [] M b (QI K))) ∧ (¬ w0 = 0 → (X mM_meets 94 [(0, .ref v0), (1, .int v1), (2, .int v2), (3, .int v3), (4, .int v4)] [] M b (QI K)))) : X mM_meets 91 [(0, .ref v0), (1, .int v1), (2, .int v2), (3, .int v3), (4, .int v4)] [.int w0] M b (QI K) := by
  refine x_wf (fun hw => ?_)
  obtain ⟨g1_0, g1_1⟩ := h
  refine x_if_eq (pc := 91) dM_meets_91 (t := 98) rfl (fun q1 => ?_) (fun q1 => ?_)
  · have h := g1_0 q1
    exact h
  · have h := g1_1 q1
    exact h

theorem vM_meets_94 {M : Mm} {b : Nat × Nat} {K : Int32 → Mm → Prop} {v0 : Nat} {v1 : Int32} {v2 : Int32} {v3 : Int32} {v4 : Int32}  
    (h : X mM_meets 99 [(0, .ref v0), (1, .int v1), (2, .int v2), (3, .int v3), (4, .int v4)] [.int 1] M b (QI K)) : X mM_meets 94 [(0, .ref v0), (1, .int v1), (2, .int v2), (3, .int v3), (4, .int v4)] [] M b (QI K) := by
  refine x_wf (fun hw => ?_)
  refine x_iconst (pc := 94) dM_meets_94 (v := 1) rfl ?_
  refine x_goto (pc := 95) dM_meets_95 (t := 99) rfl ?_
  exact h

theorem vM_meets_98 {M : Mm} {b : Nat × Nat} {K : Int32 → Mm → Prop} {v0 : Nat} {v1 : Int32} {v2 : Int32} {v3 : Int32} {v4 : Int32}  
    (h : X mM_meets 99 [(0, .ref v0), (1, .int v1), (2, .int v2), (3, .int v3), (4, .int v4)] [.int 0] M b (QI K)) : X mM_meets 98 [(0, .ref v0), (1, .int v1), (2, .int v2), (3, .int v3), (4, .int v4)] [] M b (QI K) := by
  refine x_wf (fun hw => ?_)
  refine x_iconst (pc := 98) dM_meets_98 (v := 0) rfl ?_
  exact h

theorem vM_meets_99 {M : Mm} {b : Nat × Nat} {K : Int32 → Mm → Prop} {v0 : Nat} {v1 : Int32} {v2 : Int32} {v3 : Int32} {v4 : Int32} {w0 : Int32}  
    (h : X mM_meets 26 [(0, .ref v0), (1, .int v1), (2, .int v2), (3, .int (v3 ||| (if w0 = 0 then 0 else ((1 : Int32) <<< (v4 &&& 31)) : Int32))), (4, .int (v4 + 1))] [] M b (QI K)) : X mM_meets 99 [(0, .ref v0), (1, .int v1), (2, .int v2), (3, .int v3), (4, .int v4)] [.int w0] M b (QI K) := by
  refine x_wf (fun hw => ?_)
  refine x_istore (pc := 99) dM_meets_99 (by decide) (L' := [(6, .int w0), (0, .ref v0), (1, .int v1), (2, .int v2), (3, .int v3), (4, .int v4)]) rfl ?_
  refine x_iload_n (pc := 101) dM_meets_101 rfl (q := 4) rfl ?_
  refine x_iload (pc := 102) dM_meets_102 (q := 0) rfl ?_
  suffices hJ : X mM_meets 115 [(6, .int w0), (0, .ref v0), (1, .int v1), (2, .int v2), (3, .int v3), (4, .int v4)] [.int (if w0 = 0 then 0 else ((1 : Int32) <<< (v4 &&& 31)) : Int32), .int v3] M b (QI K) by
    refine x_if_eq (pc := 104) dM_meets_104 (t := 114) rfl (fun q1 => ?_) (fun q1 => ?_)
    · refine x_iconst (pc := 114) dM_meets_114 (v := 0) rfl ?_
      first | (rw [if_pos q1] at hJ; exact hJ) | (simp only [if_pos q1] at hJ ⊢; exact hJ)
    · refine x_iconst (pc := 107) dM_meets_107 (v := 1) rfl ?_
      refine x_iload (pc := 108) dM_meets_108 (q := 5) rfl ?_
      refine x_ishl (pc := 110) dM_meets_110 ?_
      refine x_goto (pc := 111) dM_meets_111 (t := 115) rfl ?_
      first | (rw [if_neg q1] at hJ; exact hJ) | (simp only [if_neg q1] at hJ ⊢; exact hJ)
  refine x_ior (pc := 115) dM_meets_115 ?_
  refine x_istore_n (pc := 116) dM_meets_116 rfl (by decide) (L' := [(3, .int (v3 ||| (if w0 = 0 then 0 else ((1 : Int32) <<< (v4 &&& 31)) : Int32))), (6, .int w0), (0, .ref v0), (1, .int v1), (2, .int v2), (4, .int v4)]) rfl ?_
  refine x_iinc (pc := 117) dM_meets_117 (q := 5) rfl (v := v4 + 1) rfl (by decide) (L' := [(4, .int (v4 + 1)), (3, .int (v3 ||| (if w0 = 0 then 0 else ((1 : Int32) <<< (v4 &&& 31)) : Int32))), (6, .int w0), (0, .ref v0), (1, .int v1), (2, .int v2)]) rfl ?_
  refine x_goto (pc := 120) dM_meets_120 (t := 26) rfl ?_
  exact x_loc [3, 4, 5, 1, 0] rfl h

theorem dM_steps_0 : decode (mB mM_steps) 0 = .ok (.aload_n 0, 1) := op42 (by decide +kernel)
theorem dM_steps_1 : decode (mB mM_steps) 1 = .ok (.iload_n 1, 1) := op27 (by decide +kernel)
theorem dM_steps_2 : decode (mB mM_steps) 2 = .ok (.invokevirtual 267, 3) := op182 1 11 (by decide +kernel)
theorem dM_steps_5 : decode (mB mM_steps) 5 = .ok (.ifCond .ne 5, 3) := op154 0 5 (by decide +kernel)
theorem dM_steps_8 : decode (mB mM_steps) 8 = .ok (.iconst (-1), 1) := op2 (by decide +kernel)
theorem dM_steps_9 : decode (mB mM_steps) 9 = .ok (.ireturn, 1) := op172 (by decide +kernel)
theorem dM_steps_10 : decode (mB mM_steps) 10 = .ok (.aload_n 0, 1) := op42 (by decide +kernel)
theorem dM_steps_11 : decode (mB mM_steps) 11 = .ok (.iload_n 1, 1) := op27 (by decide +kernel)
theorem dM_steps_12 : decode (mB mM_steps) 12 = .ok (.invokevirtual 257, 3) := op182 1 1 (by decide +kernel)
theorem dM_steps_15 : decode (mB mM_steps) 15 = .ok (.ifCond .eq 6, 3) := op153 0 6 (by decide +kernel)
theorem dM_steps_18 : decode (mB mM_steps) 18 = .ok (.bipush (-4), 2) := op16 252 (by decide +kernel)
theorem dM_steps_20 : decode (mB mM_steps) 20 = .ok (.ireturn, 1) := op172 (by decide +kernel)
theorem dM_steps_21 : decode (mB mM_steps) 21 = .ok (.iconst 0, 1) := op3 (by decide +kernel)
theorem dM_steps_22 : decode (mB mM_steps) 22 = .ok (.istore_n 2, 1) := op61 (by decide +kernel)
theorem dM_steps_23 : decode (mB mM_steps) 23 = .ok (.iload_n 1, 1) := op27 (by decide +kernel)
theorem dM_steps_24 : decode (mB mM_steps) 24 = .ok (.istore_n 3, 1) := op62 (by decide +kernel)
theorem dM_steps_25 : decode (mB mM_steps) 25 = .ok (.aload_n 0, 1) := op42 (by decide +kernel)
theorem dM_steps_26 : decode (mB mM_steps) 26 = .ok (.iload_n 3, 1) := op29 (by decide +kernel)
theorem dM_steps_27 : decode (mB mM_steps) 27 = .ok (.bipush 6, 2) := op16 6 (by decide +kernel)
theorem dM_steps_29 : decode (mB mM_steps) 29 = .ok (.invokevirtual 244, 3) := op182 0 244 (by decide +kernel)
theorem dM_steps_32 : decode (mB mM_steps) 32 = .ok (.bipush (-4), 2) := op16 252 (by decide +kernel)
theorem dM_steps_34 : decode (mB mM_steps) 34 = .ok (.if_icmp .eq 17, 3) := op159 0 17 (by decide +kernel)
theorem dM_steps_37 : decode (mB mM_steps) 37 = .ok (.iinc 2 1, 3) := op132 2 1 (by decide +kernel)
theorem dM_steps_40 : decode (mB mM_steps) 40 = .ok (.aload_n 0, 1) := op42 (by decide +kernel)
theorem dM_steps_41 : decode (mB mM_steps) 41 = .ok (.iload_n 3, 1) := op29 (by decide +kernel)
theorem dM_steps_42 : decode (mB mM_steps) 42 = .ok (.bipush 6, 2) := op16 6 (by decide +kernel)
theorem dM_steps_44 : decode (mB mM_steps) 44 = .ok (.invokevirtual 244, 3) := op182 0 244 (by decide +kernel)
theorem dM_steps_47 : decode (mB mM_steps) 47 = .ok (.istore_n 3, 1) := op62 (by decide +kernel)
theorem dM_steps_48 : decode (mB mM_steps) 48 = .ok (.goto (-23), 3) := op167 255 233 (by decide +kernel)
theorem dM_steps_51 : decode (mB mM_steps) 51 = .ok (.iload_n 2, 1) := op28 (by decide +kernel)
theorem dM_steps_52 : decode (mB mM_steps) 52 = .ok (.ireturn, 1) := op172 (by decide +kernel)

theorem vM_steps_0 {M : Mm} {b : Nat × Nat} {K : Int32 → Mm → Prop} {v0 : Nat} {v1 : Int32} (kv0 : v0 % 64 = 11) 
    (h : CI mM_isWord [.ref v0, .int v1] M (fun rv N => X mM_steps 5 [(0, .ref v0), (1, .int v1)] [.int rv] N b (QI K))) : X mM_steps 0 [(0, .ref v0), (1, .int v1)] [] M b (QI K) := by
  refine x_wf (fun hw => ?_)
  refine x_aload_n (pc := 0) dM_steps_0 rfl (q := 0) rfl ?_
  refine x_iload_n (pc := 1) dM_steps_1 rfl (q := 1) rfl ?_
  exact x_invV (pc := 2) dM_steps_2 (c := 11) (S := []) (As := [.int v1]) mlM_267 hM_isWord rfl (by decide) rfl kv0 ⟨by decide, by decide⟩ ⟨Nat.zero_le _, Nat.zero_le _⟩ rfl (Nat.le_of_ble_eq_true rfl) (aftI (b' := b) ⟨Nat.le_refl _, Nat.le_refl _⟩ (fun rv N h => h) h)

theorem vM_steps_5 {M : Mm} {b : Nat × Nat} {K : Int32 → Mm → Prop} {v0 : Nat} {v1 : Int32} {w0 : Int32} (kv0 : v0 % 64 = 11) 
    (h : (¬ w0 = 0 → (CI mM_isUnsound [.ref v0, .int v1] M (fun rv N => X mM_steps 15 [(0, .ref v0), (1, .int v1)] [.int rv] N b (QI K)))) ∧ (w0 = 0 → (K (-1) M))) : X mM_steps 5 [(0, .ref v0), (1, .int v1)] [.int w0] M b (QI K) := by
  refine x_wf (fun hw => ?_)
  obtain ⟨g1_0, g1_1⟩ := h
  refine x_if_ne (pc := 5) dM_steps_5 (t := 10) rfl (fun q1 => ?_) (fun q1 => ?_)
  · refine x_aload_n (pc := 10) dM_steps_10 rfl (q := 0) rfl ?_
    refine x_iload_n (pc := 11) dM_steps_11 rfl (q := 1) rfl ?_
    have h := g1_0 q1
    exact x_invV (pc := 12) dM_steps_12 (c := 11) (S := []) (As := [.int v1]) mlM_257 hM_isUnsound rfl (by decide) rfl kv0 ⟨by decide, by decide⟩ ⟨Nat.zero_le _, Nat.zero_le _⟩ rfl (Nat.le_of_ble_eq_true rfl) (aftI (b' := b) ⟨Nat.le_refl _, Nat.le_refl _⟩ (fun rv N h => h) h)
  · refine x_iconst (pc := 8) dM_steps_8 (v := (-1)) rfl ?_
    have h := g1_1 q1
    exact x_retQI (pc := 9) dM_steps_9 rfl rfl h

theorem vM_steps_15 {M : Mm} {b : Nat × Nat} {K : Int32 → Mm → Prop} {v0 : Nat} {v1 : Int32} {w0 : Int32}  
    (h : (w0 = 0 → (X mM_steps 25 [(0, .ref v0), (2, .int 0), (3, .int v1)] [] M b (QI K))) ∧ (¬ w0 = 0 → (K (-4) M))) : X mM_steps 15 [(0, .ref v0), (1, .int v1)] [.int w0] M b (QI K) := by
  refine x_wf (fun hw => ?_)
  obtain ⟨g1_0, g1_1⟩ := h
  refine x_if_eq (pc := 15) dM_steps_15 (t := 21) rfl (fun q1 => ?_) (fun q1 => ?_)
  · refine x_iconst (pc := 21) dM_steps_21 (v := 0) rfl ?_
    have h := g1_0 q1
    refine x_istore_n (pc := 22) dM_steps_22 rfl (by decide) (L' := [(2, .int 0), (0, .ref v0), (1, .int v1)]) rfl ?_
    refine x_iload_n (pc := 23) dM_steps_23 rfl (q := 2) rfl ?_
    refine x_istore_n (pc := 24) dM_steps_24 rfl (by decide) (L' := [(3, .int v1), (2, .int 0), (0, .ref v0), (1, .int v1)]) rfl ?_
    exact x_loc [2, 1, 0] rfl h
  · refine x_bipush (pc := 18) dM_steps_18 (v := (-4)) rfl ?_
    have h := g1_1 q1
    exact x_retQI (pc := 20) dM_steps_20 rfl rfl h

theorem vM_steps_25 {M : Mm} {b : Nat × Nat} {K : Int32 → Mm → Prop} {v0 : Nat} {v2 : Int32} {v3 : Int32} (kv0 : v0 % 64 = 11) 
    (h : CI mM_of [.ref v0, .int v3, .int 6] M (fun rv N => X mM_steps 32 [(0, .ref v0), (2, .int v2), (3, .int v3)] [.int rv] N b (QI K))) : X mM_steps 25 [(0, .ref v0), (2, .int v2), (3, .int v3)] [] M b (QI K) := by
  refine x_wf (fun hw => ?_)
  refine x_aload_n (pc := 25) dM_steps_25 rfl (q := 0) rfl ?_
  refine x_iload_n (pc := 26) dM_steps_26 rfl (q := 2) rfl ?_
  refine x_bipush (pc := 27) dM_steps_27 (v := 6) rfl ?_
  exact x_invV (pc := 29) dM_steps_29 (c := 11) (S := []) (As := [.int v3, .int 6]) mlM_244 hM_of rfl (by decide) rfl kv0 ⟨by decide, by decide⟩ ⟨Nat.zero_le _, Nat.zero_le _⟩ rfl (Nat.le_of_ble_eq_true rfl) (aftI (b' := b) ⟨Nat.le_refl _, Nat.le_refl _⟩ (fun rv N h => h) h)

theorem vM_steps_32 {M : Mm} {b : Nat × Nat} {K : Int32 → Mm → Prop} {v0 : Nat} {v2 : Int32} {v3 : Int32} {w0 : Int32} (kv0 : v0 % 64 = 11) 
    (h : (w0 = (-4) → (K v2 M)) ∧ (¬ w0 = (-4) → (CI mM_of [.ref v0, .int v3, .int 6] M (fun rv N => X mM_steps 47 [(0, .ref v0), (2, .int (v2 + 1))] [.int rv] N b (QI K))))) : X mM_steps 32 [(0, .ref v0), (2, .int v2), (3, .int v3)] [.int w0] M b (QI K) := by
  refine x_wf (fun hw => ?_)
  refine x_bipush (pc := 32) dM_steps_32 (v := (-4)) rfl ?_
  obtain ⟨g1_0, g1_1⟩ := h
  refine x_icmp_eq (pc := 34) dM_steps_34 (t := 51) rfl (fun q1 => ?_) (fun q1 => ?_)
  · refine x_iload_n (pc := 51) dM_steps_51 rfl (q := 1) rfl ?_
    have h := g1_0 q1
    exact x_retQI (pc := 52) dM_steps_52 rfl rfl h
  · have h := g1_1 q1
    refine x_iinc (pc := 37) dM_steps_37 (q := 1) rfl (v := v2 + 1) rfl (by decide) (L' := [(2, .int (v2 + 1)), (0, .ref v0), (3, .int v3)]) rfl ?_
    refine x_aload_n (pc := 40) dM_steps_40 rfl (q := 1) rfl ?_
    refine x_iload_n (pc := 41) dM_steps_41 rfl (q := 2) rfl ?_
    refine x_bipush (pc := 42) dM_steps_42 (v := 6) rfl ?_
    exact x_invV (pc := 44) dM_steps_44 (c := 11) (S := []) (As := [.int v3, .int 6]) mlM_244 hM_of rfl (by decide) rfl kv0 ⟨by decide, by decide⟩ ⟨Nat.zero_le _, Nat.zero_le _⟩ rfl (Nat.le_of_ble_eq_true rfl) (aftI (b' := b) ⟨Nat.le_refl _, Nat.le_refl _⟩ (fun rv N h => x_loc [1, 0] rfl h) h)

theorem vM_steps_47 {M : Mm} {b : Nat × Nat} {K : Int32 → Mm → Prop} {v0 : Nat} {v2 : Int32} {w0 : Int32}  
    (h : X mM_steps 25 [(0, .ref v0), (2, .int v2), (3, .int w0)] [] M b (QI K)) : X mM_steps 47 [(0, .ref v0), (2, .int v2)] [.int w0] M b (QI K) := by
  refine x_wf (fun hw => ?_)
  refine x_istore_n (pc := 47) dM_steps_47 rfl (by decide) (L' := [(3, .int w0), (0, .ref v0), (2, .int v2)]) rfl ?_
  refine x_goto (pc := 48) dM_steps_48 (t := 25) rfl ?_
  exact x_loc [1, 2, 0] rfl h

theorem dM_each_0 : decode (mB mM_each) 0 = .ok (.iload_n 1, 1) := op27 (by decide +kernel)
theorem dM_each_1 : decode (mB mM_each) 1 = .ok (.invokestatic 294, 3) := op184 1 38 (by decide +kernel)
theorem dM_each_4 : decode (mB mM_each) 4 = .ok (.ifCond .eq 10, 3) := op153 0 10 (by decide +kernel)
theorem dM_each_7 : decode (mB mM_each) 7 = .ok (.iload_n 2, 1) := op28 (by decide +kernel)
theorem dM_each_8 : decode (mB mM_each) 8 = .ok (.invokestatic 275, 3) := op184 1 19 (by decide +kernel)
theorem dM_each_11 : decode (mB mM_each) 11 = .ok (.ifCond .ne 5, 3) := op154 0 5 (by decide +kernel)
theorem dM_each_14 : decode (mB mM_each) 14 = .ok (.iconst (-1), 1) := op2 (by decide +kernel)
theorem dM_each_15 : decode (mB mM_each) 15 = .ok (.ireturn, 1) := op172 (by decide +kernel)
theorem dM_each_16 : decode (mB mM_each) 16 = .ok (.aload_n 0, 1) := op42 (by decide +kernel)
theorem dM_each_17 : decode (mB mM_each) 17 = .ok (.invokevirtual 297, 3) := op182 1 41 (by decide +kernel)
theorem dM_each_20 : decode (mB mM_each) 20 = .ok (.aload_n 0, 1) := op42 (by decide +kernel)
theorem dM_each_21 : decode (mB mM_each) 21 = .ok (.getfield 58, 3) := op180 0 58 (by decide +kernel)
theorem dM_each_24 : decode (mB mM_each) 24 = .ok (.iload_n 1, 1) := op27 (by decide +kernel)
theorem dM_each_25 : decode (mB mM_each) 25 = .ok (.laload, 1) := op47 (by decide +kernel)
theorem dM_each_26 : decode (mB mM_each) 26 = .ok (.aload_n 0, 1) := op42 (by decide +kernel)
theorem dM_each_27 : decode (mB mM_each) 27 = .ok (.getfield 61, 3) := op180 0 61 (by decide +kernel)
theorem dM_each_30 : decode (mB mM_each) 30 = .ok (.iload_n 1, 1) := op27 (by decide +kernel)
theorem dM_each_31 : decode (mB mM_each) 31 = .ok (.laload, 1) := op47 (by decide +kernel)
theorem dM_each_32 : decode (mB mM_each) 32 = .ok (.iload_n 2, 1) := op28 (by decide +kernel)
theorem dM_each_33 : decode (mB mM_each) 33 = .ok (.invokestatic 278, 3) := op184 1 22 (by decide +kernel)
theorem dM_each_36 : decode (mB mM_each) 36 = .ok (.ireturn, 1) := op172 (by decide +kernel)

theorem vM_each_0 {M : Mm} {b : Nat × Nat} {K : Int32 → Mm → Prop} {v0 : Nat} {v1 : Int32} {v2 : Int32}  
    (h : CI mM_isDoctor [.int v1] M (fun rv N => X mM_each 4 [(0, .ref v0), (1, .int v1), (2, .int v2)] [.int rv] N b (QI K))) : X mM_each 0 [(0, .ref v0), (1, .int v1), (2, .int v2)] [] M b (QI K) := by
  refine x_wf (fun hw => ?_)
  refine x_iload_n (pc := 0) dM_each_0 rfl (q := 1) rfl ?_
  exact x_invS (pc := 1) dM_each_1 (S := []) (As := [.int v1]) mlM_294 hM_isDoctor rfl ⟨by decide, by decide⟩ ⟨Nat.zero_le _, Nat.zero_le _⟩ rfl (Nat.le_of_ble_eq_true rfl) (aftI (b' := b) ⟨Nat.le_refl _, Nat.le_refl _⟩ (fun rv N h => h) h)

theorem vM_each_4 {M : Mm} {b : Nat × Nat} {K : Int32 → Mm → Prop} {v0 : Nat} {v1 : Int32} {v2 : Int32} {w0 : Int32}  
    (h : (w0 = 0 → (K (-1) M)) ∧ (¬ w0 = 0 → (CI mM_isCase [.int v2] M (fun rv N => X mM_each 11 [(0, .ref v0), (1, .int v1), (2, .int v2)] [.int rv] N b (QI K))))) : X mM_each 4 [(0, .ref v0), (1, .int v1), (2, .int v2)] [.int w0] M b (QI K) := by
  refine x_wf (fun hw => ?_)
  obtain ⟨g1_0, g1_1⟩ := h
  refine x_if_eq (pc := 4) dM_each_4 (t := 14) rfl (fun q1 => ?_) (fun q1 => ?_)
  · have h := g1_0 q1
    refine x_iconst (pc := 14) dM_each_14 (v := (-1)) rfl ?_
    exact x_retQI (pc := 15) dM_each_15 rfl rfl h
  · refine x_iload_n (pc := 7) dM_each_7 rfl (q := 2) rfl ?_
    have h := g1_1 q1
    exact x_invS (pc := 8) dM_each_8 (S := []) (As := [.int v2]) mlM_275 hM_isCase rfl ⟨by decide, by decide⟩ ⟨Nat.zero_le _, Nat.zero_le _⟩ rfl (Nat.le_of_ble_eq_true rfl) (aftI (b' := b) ⟨Nat.le_refl _, Nat.le_refl _⟩ (fun rv N h => h) h)

theorem vM_each_11 {M : Mm} {b : Nat × Nat} {K : Int32 → Mm → Prop} {v0 : Nat} {v1 : Int32} {v2 : Int32} {w0 : Int32} (kv0 : v0 % 64 = 11) 
    (h : (¬ w0 = 0 → (CV mM_findEach [.ref v0] M (fun N => X mM_each 20 [(0, .ref v0), (1, .int v1), (2, .int v2)] [] N b (QI K)))) ∧ (w0 = 0 → (K (-1) M))) : X mM_each 11 [(0, .ref v0), (1, .int v1), (2, .int v2)] [.int w0] M b (QI K) := by
  refine x_wf (fun hw => ?_)
  obtain ⟨g1_0, g1_1⟩ := h
  refine x_if_ne (pc := 11) dM_each_11 (t := 16) rfl (fun q1 => ?_) (fun q1 => ?_)
  · refine x_aload_n (pc := 16) dM_each_16 rfl (q := 0) rfl ?_
    have h := g1_0 q1
    exact x_invV (pc := 17) dM_each_17 (c := 11) (S := []) (As := []) mlM_297 hM_findEach rfl (by decide) rfl kv0 ⟨by decide, by decide⟩ ⟨Nat.zero_le _, Nat.zero_le _⟩ rfl (Nat.le_of_ble_eq_true rfl) (aftV (b' := b) ⟨Nat.le_refl _, Nat.le_refl _⟩ (fun N h => h) h)
  · have h := g1_1 q1
    refine x_iconst (pc := 14) dM_each_14 (v := (-1)) rfl ?_
    exact x_retQI (pc := 15) dM_each_15 rfl rfl h

theorem vM_each_20 {M : Mm} {b : Nat × Nat} {K : Int32 → Mm → Prop} {v0 : Nat} {v1 : Int32} {v2 : Int32} {r1 : Nat} {r2 : Nat} (kv0 : v0 % 64 = 11) (e1 : gr M v0 27 = some r1) (e2 : gr M v0 28 = some r2)
    (h : vp_in v1 8 ∧ (vp_in v1 8 ∧ (CI mM_told [.long (gl M r1 (v1).toNatClampNeg), .long (gl M r2 (v1).toNatClampNeg), .int v2] M (fun rv N => X mM_each 36 [] [.int rv] N b (QI K))))) : X mM_each 20 [(0, .ref v0), (1, .int v1), (2, .int v2)] [] M b (QI K) := by
  refine x_wf (fun hw => ?_)
  refine x_aload_n (pc := 20) dM_each_20 rfl (q := 0) rfl ?_
  refine x_getR (pc := 21) dM_each_21 kv0 flM_58 rfl e1 ?_
  refine x_iload_n (pc := 24) dM_each_24 rfl (q := 1) rfl ?_
  obtain ⟨s501, h⟩ := h
  refine x_aldLj (pc := 25) (j := (v1).toNatClampNeg) dM_each_25 (wfk hw e1 kv0) ak_27 rfl s501 ?_
  refine x_aload_n (pc := 26) dM_each_26 rfl (q := 0) rfl ?_
  refine x_getR (pc := 27) dM_each_27 kv0 flM_61 rfl e2 ?_
  refine x_iload_n (pc := 30) dM_each_30 rfl (q := 1) rfl ?_
  obtain ⟨s502, h⟩ := h
  refine x_aldLj (pc := 31) (j := (v1).toNatClampNeg) dM_each_31 (wfk hw e2 kv0) ak_27 rfl s502 ?_
  refine x_iload_n (pc := 32) dM_each_32 rfl (q := 2) rfl ?_
  exact x_invS (pc := 33) dM_each_33 (S := []) (As := [.long (gl M r1 (v1).toNatClampNeg), .long (gl M r2 (v1).toNatClampNeg), .int v2]) mlM_278 hM_told rfl ⟨by decide, by decide⟩ ⟨Nat.zero_le _, Nat.zero_le _⟩ rfl (Nat.le_of_ble_eq_true rfl) (aftI (b' := b) ⟨Nat.le_refl _, Nat.le_refl _⟩ (fun rv N h => x_loc [] rfl h) h)

theorem vM_each_36 {M : Mm} {b : Nat × Nat} {K : Int32 → Mm → Prop} {w0 : Int32}  
    (h : K w0 M) : X mM_each 36 [] [.int w0] M b (QI K) := by
  refine x_wf (fun hw => ?_)
  exact x_retQI (pc := 36) dM_each_36 rfl rfl h

theorem dM_isDoctor_0 : decode (mB mM_isDoctor) 0 = .ok (.iload_n 0, 1) := op26 (by decide +kernel)
theorem dM_isDoctor_1 : decode (mB mM_isDoctor) 1 = .ok (.i2l, 1) := op133 (by decide +kernel)
theorem dM_isDoctor_2 : decode (mB mM_isDoctor) 2 = .ok (.lconst 0, 1) := op9 (by decide +kernel)
theorem dM_isDoctor_3 : decode (mB mM_isDoctor) 3 = .ok (.ldc2_w 183, 3) := op20 0 183 (by decide +kernel)
theorem dM_isDoctor_6 : decode (mB mM_isDoctor) 6 = .ok (.invokestatic 126, 3) := op184 0 126 (by decide +kernel)
theorem dM_isDoctor_9 : decode (mB mM_isDoctor) 9 = .ok (.ireturn, 1) := op172 (by decide +kernel)

theorem vM_isDoctor_0 {M : Mm} {b : Nat × Nat} {K : Int32 → Mm → Prop} {v0 : Int32}  
    (h : CI mM_in [.long ((v0).toInt64), .long 0, .long 7] M (fun rv N => X mM_isDoctor 9 [] [.int rv] N b (QI K))) : X mM_isDoctor 0 [(0, .int v0)] [] M b (QI K) := by
  refine x_wf (fun hw => ?_)
  refine x_iload_n (pc := 0) dM_isDoctor_0 rfl (q := 0) rfl ?_
  refine x_i2l (pc := 1) dM_isDoctor_1 ?_
  refine x_lconst (pc := 2) dM_isDoctor_2 (v := 0) rfl ?_
  refine x_ldc2 (pc := 3) dM_isDoctor_3 klM_183 ?_
  exact x_invS (pc := 6) dM_isDoctor_6 (S := []) (As := [.long ((v0).toInt64), .long 0, .long 7]) mlM_126 hM_in rfl ⟨by decide, by decide⟩ ⟨Nat.zero_le _, Nat.zero_le _⟩ rfl (Nat.le_of_ble_eq_true rfl) (aftI (b' := b) ⟨Nat.le_refl _, Nat.le_refl _⟩ (fun rv N h => x_loc [] rfl h) h)

theorem vM_isDoctor_9 {M : Mm} {b : Nat × Nat} {K : Int32 → Mm → Prop} {w0 : Int32}  
    (h : narrow .boolean (.int w0) = .int w0 ∧ (K w0 M)) : X mM_isDoctor 9 [] [.int w0] M b (QI K) := by
  refine x_wf (fun hw => ?_)
  obtain ⟨s501, h⟩ := h
  exact x_retQI (pc := 9) dM_isDoctor_9 rfl s501 h

theorem dM_findEach_0 : decode (mB mM_findEach) 0 = .ok (.iconst 0, 1) := op3 (by decide +kernel)
theorem dM_findEach_1 : decode (mB mM_findEach) 1 = .ok (.istore_n 1, 1) := op60 (by decide +kernel)
theorem dM_findEach_2 : decode (mB mM_findEach) 2 = .ok (.iload_n 1, 1) := op27 (by decide +kernel)
theorem dM_findEach_3 : decode (mB mM_findEach) 3 = .ok (.bipush 8, 2) := op16 8 (by decide +kernel)
theorem dM_findEach_5 : decode (mB mM_findEach) 5 = .ok (.if_icmp .ge 14, 3) := op162 0 14 (by decide +kernel)
theorem dM_findEach_8 : decode (mB mM_findEach) 8 = .ok (.aload_n 0, 1) := op42 (by decide +kernel)
theorem dM_findEach_9 : decode (mB mM_findEach) 9 = .ok (.iload_n 1, 1) := op27 (by decide +kernel)
theorem dM_findEach_10 : decode (mB mM_findEach) 10 = .ok (.invokevirtual 286, 3) := op182 1 30 (by decide +kernel)
theorem dM_findEach_13 : decode (mB mM_findEach) 13 = .ok (.iinc 1 1, 3) := op132 1 1 (by decide +kernel)
theorem dM_findEach_16 : decode (mB mM_findEach) 16 = .ok (.goto (-14), 3) := op167 255 242 (by decide +kernel)
theorem dM_findEach_19 : decode (mB mM_findEach) 19 = .ok (.return_, 1) := op177 (by decide +kernel)

theorem vM_findEach_0 {M : Mm} {b : Nat × Nat} {K : Mm → Prop} {v0 : Nat}  
    (h : X mM_findEach 2 [(0, .ref v0), (1, .int 0)] [] M b (QV K)) : X mM_findEach 0 [(0, .ref v0)] [] M b (QV K) := by
  refine x_wf (fun hw => ?_)
  refine x_iconst (pc := 0) dM_findEach_0 (v := 0) rfl ?_
  refine x_istore_n (pc := 1) dM_findEach_1 rfl (by decide) (L' := [(1, .int 0), (0, .ref v0)]) rfl ?_
  exact x_loc [1, 0] rfl h

theorem vM_findEach_2 {M : Mm} {b : Nat × Nat} {K : Mm → Prop} {v0 : Nat} {v1 : Int32} (kv0 : v0 % 64 = 11) 
    (h : (8 ≤ v1 → (K M)) ∧ (¬ 8 ≤ v1 → (CV mM_findOne [.ref v0, .int v1] M (fun N => X mM_findEach 13 [(0, .ref v0), (1, .int v1)] [] N b (QV K))))) : X mM_findEach 2 [(0, .ref v0), (1, .int v1)] [] M b (QV K) := by
  refine x_wf (fun hw => ?_)
  refine x_iload_n (pc := 2) dM_findEach_2 rfl (q := 1) rfl ?_
  refine x_bipush (pc := 3) dM_findEach_3 (v := 8) rfl ?_
  obtain ⟨g1_0, g1_1⟩ := h
  refine x_icmp_ge (pc := 5) dM_findEach_5 (t := 19) rfl (fun q1 => ?_) (fun q1 => ?_)
  · have h := g1_0 q1
    exact x_retQV (pc := 19) dM_findEach_19 rfl h
  · refine x_aload_n (pc := 8) dM_findEach_8 rfl (q := 0) rfl ?_
    refine x_iload_n (pc := 9) dM_findEach_9 rfl (q := 1) rfl ?_
    have h := g1_1 q1
    exact x_invV (pc := 10) dM_findEach_10 (c := 11) (S := []) (As := [.int v1]) mlM_286 hM_findOne rfl (by decide) rfl kv0 ⟨by decide, by decide⟩ ⟨Nat.zero_le _, Nat.zero_le _⟩ rfl (Nat.le_of_ble_eq_true rfl) (aftV (b' := b) ⟨Nat.le_refl _, Nat.le_refl _⟩ (fun N h => h) h)

theorem vM_findEach_13 {M : Mm} {b : Nat × Nat} {K : Mm → Prop} {v0 : Nat} {v1 : Int32}  
    (h : X mM_findEach 2 [(0, .ref v0), (1, .int (v1 + 1))] [] M b (QV K)) : X mM_findEach 13 [(0, .ref v0), (1, .int v1)] [] M b (QV K) := by
  refine x_wf (fun hw => ?_)
  refine x_iinc (pc := 13) dM_findEach_13 (q := 1) rfl (v := v1 + 1) rfl (by decide) (L' := [(1, .int (v1 + 1)), (0, .ref v0)]) rfl ?_
  refine x_goto (pc := 16) dM_findEach_16 (t := 2) rfl ?_
  exact x_loc [1, 0] rfl h

theorem dM_findOne_0 : decode (mB mM_findOne) 0 = .ok (.lconst 0, 1) := op9 (by decide +kernel)
theorem dM_findOne_1 : decode (mB mM_findOne) 1 = .ok (.lstore_n 2, 1) := op65 (by decide +kernel)
theorem dM_findOne_2 : decode (mB mM_findOne) 2 = .ok (.lconst 0, 1) := op9 (by decide +kernel)
theorem dM_findOne_3 : decode (mB mM_findOne) 3 = .ok (.lstore 4, 2) := op55 4 (by decide +kernel)
theorem dM_findOne_5 : decode (mB mM_findOne) 5 = .ok (.iconst 0, 1) := op3 (by decide +kernel)
theorem dM_findOne_6 : decode (mB mM_findOne) 6 = .ok (.istore 6, 2) := op54 6 (by decide +kernel)
theorem dM_findOne_8 : decode (mB mM_findOne) 8 = .ok (.iload 6, 2) := op21 6 (by decide +kernel)
theorem dM_findOne_10 : decode (mB mM_findOne) 10 = .ok (.aload_n 0, 1) := op42 (by decide +kernel)
theorem dM_findOne_11 : decode (mB mM_findOne) 11 = .ok (.getfield 112, 3) := op180 0 112 (by decide +kernel)
theorem dM_findOne_14 : decode (mB mM_findOne) 14 = .ok (.if_icmp .ge 51, 3) := op162 0 51 (by decide +kernel)
theorem dM_findOne_17 : decode (mB mM_findOne) 17 = .ok (.aload_n 0, 1) := op42 (by decide +kernel)
theorem dM_findOne_18 : decode (mB mM_findOne) 18 = .ok (.iload 6, 2) := op21 6 (by decide +kernel)
theorem dM_findOne_20 : decode (mB mM_findOne) 20 = .ok (.iconst 1, 1) := op4 (by decide +kernel)
theorem dM_findOne_21 : decode (mB mM_findOne) 21 = .ok (.invokevirtual 244, 3) := op182 0 244 (by decide +kernel)
theorem dM_findOne_24 : decode (mB mM_findOne) 24 = .ok (.iload_n 1, 1) := op27 (by decide +kernel)
theorem dM_findOne_25 : decode (mB mM_findOne) 25 = .ok (.if_icmp .ne 34, 3) := op160 0 34 (by decide +kernel)
theorem dM_findOne_28 : decode (mB mM_findOne) 28 = .ok (.aload_n 0, 1) := op42 (by decide +kernel)
theorem dM_findOne_29 : decode (mB mM_findOne) 29 = .ok (.iload 6, 2) := op21 6 (by decide +kernel)
theorem dM_findOne_31 : decode (mB mM_findOne) 31 = .ok (.invokevirtual 283, 3) := op182 1 27 (by decide +kernel)
theorem dM_findOne_34 : decode (mB mM_findOne) 34 = .ok (.ifCond .eq 25, 3) := op153 0 25 (by decide +kernel)
theorem dM_findOne_37 : decode (mB mM_findOne) 37 = .ok (.lload_n 2, 1) := op32 (by decide +kernel)
theorem dM_findOne_38 : decode (mB mM_findOne) 38 = .ok (.aload_n 0, 1) := op42 (by decide +kernel)
theorem dM_findOne_39 : decode (mB mM_findOne) 39 = .ok (.getfield 51, 3) := op180 0 51 (by decide +kernel)
theorem dM_findOne_42 : decode (mB mM_findOne) 42 = .ok (.iload 6, 2) := op21 6 (by decide +kernel)
theorem dM_findOne_44 : decode (mB mM_findOne) 44 = .ok (.laload, 1) := op47 (by decide +kernel)
theorem dM_findOne_45 : decode (mB mM_findOne) 45 = .ok (.lor, 1) := op129 (by decide +kernel)
theorem dM_findOne_46 : decode (mB mM_findOne) 46 = .ok (.lstore_n 2, 1) := op65 (by decide +kernel)
theorem dM_findOne_47 : decode (mB mM_findOne) 47 = .ok (.lload 4, 2) := op22 4 (by decide +kernel)
theorem dM_findOne_49 : decode (mB mM_findOne) 49 = .ok (.aload_n 0, 1) := op42 (by decide +kernel)
theorem dM_findOne_50 : decode (mB mM_findOne) 50 = .ok (.getfield 55, 3) := op180 0 55 (by decide +kernel)
theorem dM_findOne_53 : decode (mB mM_findOne) 53 = .ok (.iload 6, 2) := op21 6 (by decide +kernel)
theorem dM_findOne_55 : decode (mB mM_findOne) 55 = .ok (.laload, 1) := op47 (by decide +kernel)
theorem dM_findOne_56 : decode (mB mM_findOne) 56 = .ok (.lor, 1) := op129 (by decide +kernel)
theorem dM_findOne_57 : decode (mB mM_findOne) 57 = .ok (.lstore 4, 2) := op55 4 (by decide +kernel)
theorem dM_findOne_59 : decode (mB mM_findOne) 59 = .ok (.iinc 6 1, 3) := op132 6 1 (by decide +kernel)
theorem dM_findOne_62 : decode (mB mM_findOne) 62 = .ok (.goto (-54), 3) := op167 255 202 (by decide +kernel)
theorem dM_findOne_65 : decode (mB mM_findOne) 65 = .ok (.aload_n 0, 1) := op42 (by decide +kernel)
theorem dM_findOne_66 : decode (mB mM_findOne) 66 = .ok (.getfield 64, 3) := op180 0 64 (by decide +kernel)
theorem dM_findOne_69 : decode (mB mM_findOne) 69 = .ok (.iload_n 1, 1) := op27 (by decide +kernel)
theorem dM_findOne_70 : decode (mB mM_findOne) 70 = .ok (.lload_n 2, 1) := op32 (by decide +kernel)
theorem dM_findOne_71 : decode (mB mM_findOne) 71 = .ok (.lload 4, 2) := op22 4 (by decide +kernel)
theorem dM_findOne_73 : decode (mB mM_findOne) 73 = .ok (.land, 1) := op127 (by decide +kernel)
theorem dM_findOne_74 : decode (mB mM_findOne) 74 = .ok (.lastore, 1) := op80 (by decide +kernel)
theorem dM_findOne_75 : decode (mB mM_findOne) 75 = .ok (.aload_n 0, 1) := op42 (by decide +kernel)
theorem dM_findOne_76 : decode (mB mM_findOne) 76 = .ok (.getfield 58, 3) := op180 0 58 (by decide +kernel)
theorem dM_findOne_79 : decode (mB mM_findOne) 79 = .ok (.iload_n 1, 1) := op27 (by decide +kernel)
theorem dM_findOne_80 : decode (mB mM_findOne) 80 = .ok (.lload_n 2, 1) := op32 (by decide +kernel)
theorem dM_findOne_81 : decode (mB mM_findOne) 81 = .ok (.lload 4, 2) := op22 4 (by decide +kernel)
theorem dM_findOne_83 : decode (mB mM_findOne) 83 = .ok (.ldc2_w 289, 3) := op20 1 33 (by decide +kernel)
theorem dM_findOne_86 : decode (mB mM_findOne) 86 = .ok (.lxor, 1) := op131 (by decide +kernel)
theorem dM_findOne_87 : decode (mB mM_findOne) 87 = .ok (.land, 1) := op127 (by decide +kernel)
theorem dM_findOne_88 : decode (mB mM_findOne) 88 = .ok (.lastore, 1) := op80 (by decide +kernel)
theorem dM_findOne_89 : decode (mB mM_findOne) 89 = .ok (.aload_n 0, 1) := op42 (by decide +kernel)
theorem dM_findOne_90 : decode (mB mM_findOne) 90 = .ok (.getfield 61, 3) := op180 0 61 (by decide +kernel)
theorem dM_findOne_93 : decode (mB mM_findOne) 93 = .ok (.iload_n 1, 1) := op27 (by decide +kernel)
theorem dM_findOne_94 : decode (mB mM_findOne) 94 = .ok (.lload 4, 2) := op22 4 (by decide +kernel)
theorem dM_findOne_96 : decode (mB mM_findOne) 96 = .ok (.lload_n 2, 1) := op32 (by decide +kernel)
theorem dM_findOne_97 : decode (mB mM_findOne) 97 = .ok (.ldc2_w 289, 3) := op20 1 33 (by decide +kernel)
theorem dM_findOne_100 : decode (mB mM_findOne) 100 = .ok (.lxor, 1) := op131 (by decide +kernel)
theorem dM_findOne_101 : decode (mB mM_findOne) 101 = .ok (.land, 1) := op127 (by decide +kernel)
theorem dM_findOne_102 : decode (mB mM_findOne) 102 = .ok (.lastore, 1) := op80 (by decide +kernel)
theorem dM_findOne_103 : decode (mB mM_findOne) 103 = .ok (.iconst 0, 1) := op3 (by decide +kernel)
theorem dM_findOne_104 : decode (mB mM_findOne) 104 = .ok (.istore 6, 2) := op54 6 (by decide +kernel)
theorem dM_findOne_106 : decode (mB mM_findOne) 106 = .ok (.iload 6, 2) := op21 6 (by decide +kernel)
theorem dM_findOne_108 : decode (mB mM_findOne) 108 = .ok (.bipush 64, 2) := op16 64 (by decide +kernel)
theorem dM_findOne_110 : decode (mB mM_findOne) 110 = .ok (.if_icmp .ge 79, 3) := op162 0 79 (by decide +kernel)
theorem dM_findOne_113 : decode (mB mM_findOne) 113 = .ok (.aload_n 0, 1) := op42 (by decide +kernel)
theorem dM_findOne_114 : decode (mB mM_findOne) 114 = .ok (.getfield 64, 3) := op180 0 64 (by decide +kernel)
theorem dM_findOne_117 : decode (mB mM_findOne) 117 = .ok (.iload_n 1, 1) := op27 (by decide +kernel)
theorem dM_findOne_118 : decode (mB mM_findOne) 118 = .ok (.laload, 1) := op47 (by decide +kernel)
theorem dM_findOne_119 : decode (mB mM_findOne) 119 = .ok (.iload 6, 2) := op21 6 (by decide +kernel)
theorem dM_findOne_121 : decode (mB mM_findOne) 121 = .ok (.lshr, 1) := op123 (by decide +kernel)
theorem dM_findOne_122 : decode (mB mM_findOne) 122 = .ok (.lconst 1, 1) := op10 (by decide +kernel)
theorem dM_findOne_123 : decode (mB mM_findOne) 123 = .ok (.land, 1) := op127 (by decide +kernel)
theorem dM_findOne_124 : decode (mB mM_findOne) 124 = .ok (.lconst 1, 1) := op10 (by decide +kernel)
theorem dM_findOne_125 : decode (mB mM_findOne) 125 = .ok (.lcmp, 1) := op148 (by decide +kernel)
theorem dM_findOne_126 : decode (mB mM_findOne) 126 = .ok (.ifCond .ne 57, 3) := op154 0 57 (by decide +kernel)
theorem dM_findOne_129 : decode (mB mM_findOne) 129 = .ok (.aload_n 0, 1) := op42 (by decide +kernel)
theorem dM_findOne_130 : decode (mB mM_findOne) 130 = .ok (.iload_n 1, 1) := op27 (by decide +kernel)
theorem dM_findOne_131 : decode (mB mM_findOne) 131 = .ok (.iload 6, 2) := op21 6 (by decide +kernel)
theorem dM_findOne_133 : decode (mB mM_findOne) 133 = .ok (.invokevirtual 291, 3) := op182 1 35 (by decide +kernel)
theorem dM_findOne_136 : decode (mB mM_findOne) 136 = .ok (.istore 7, 2) := op54 7 (by decide +kernel)
theorem dM_findOne_138 : decode (mB mM_findOne) 138 = .ok (.aload_n 0, 1) := op42 (by decide +kernel)
theorem dM_findOne_139 : decode (mB mM_findOne) 139 = .ok (.getfield 58, 3) := op180 0 58 (by decide +kernel)
theorem dM_findOne_142 : decode (mB mM_findOne) 142 = .ok (.iload_n 1, 1) := op27 (by decide +kernel)
theorem dM_findOne_143 : decode (mB mM_findOne) 143 = .ok (.dup2, 1) := op92 (by decide +kernel)
theorem dM_findOne_144 : decode (mB mM_findOne) 144 = .ok (.laload, 1) := op47 (by decide +kernel)
theorem dM_findOne_145 : decode (mB mM_findOne) 145 = .ok (.iload 7, 2) := op21 7 (by decide +kernel)
theorem dM_findOne_147 : decode (mB mM_findOne) 147 = .ok (.iconst 1, 1) := op4 (by decide +kernel)
theorem dM_findOne_148 : decode (mB mM_findOne) 148 = .ok (.if_icmp .ne 10, 3) := op160 0 10 (by decide +kernel)
theorem dM_findOne_151 : decode (mB mM_findOne) 151 = .ok (.lconst 1, 1) := op10 (by decide +kernel)
theorem dM_findOne_152 : decode (mB mM_findOne) 152 = .ok (.iload 6, 2) := op21 6 (by decide +kernel)
theorem dM_findOne_154 : decode (mB mM_findOne) 154 = .ok (.lshl, 1) := op121 (by decide +kernel)
theorem dM_findOne_155 : decode (mB mM_findOne) 155 = .ok (.goto 4, 3) := op167 0 4 (by decide +kernel)
theorem dM_findOne_158 : decode (mB mM_findOne) 158 = .ok (.lconst 0, 1) := op9 (by decide +kernel)
theorem dM_findOne_159 : decode (mB mM_findOne) 159 = .ok (.lor, 1) := op129 (by decide +kernel)
theorem dM_findOne_160 : decode (mB mM_findOne) 160 = .ok (.lastore, 1) := op80 (by decide +kernel)
theorem dM_findOne_161 : decode (mB mM_findOne) 161 = .ok (.aload_n 0, 1) := op42 (by decide +kernel)
theorem dM_findOne_162 : decode (mB mM_findOne) 162 = .ok (.getfield 61, 3) := op180 0 61 (by decide +kernel)
theorem dM_findOne_165 : decode (mB mM_findOne) 165 = .ok (.iload_n 1, 1) := op27 (by decide +kernel)
theorem dM_findOne_166 : decode (mB mM_findOne) 166 = .ok (.dup2, 1) := op92 (by decide +kernel)
theorem dM_findOne_167 : decode (mB mM_findOne) 167 = .ok (.laload, 1) := op47 (by decide +kernel)
theorem dM_findOne_168 : decode (mB mM_findOne) 168 = .ok (.iload 7, 2) := op21 7 (by decide +kernel)
theorem dM_findOne_170 : decode (mB mM_findOne) 170 = .ok (.ifCond .ne 10, 3) := op154 0 10 (by decide +kernel)
theorem dM_findOne_173 : decode (mB mM_findOne) 173 = .ok (.lconst 1, 1) := op10 (by decide +kernel)
theorem dM_findOne_174 : decode (mB mM_findOne) 174 = .ok (.iload 6, 2) := op21 6 (by decide +kernel)
theorem dM_findOne_176 : decode (mB mM_findOne) 176 = .ok (.lshl, 1) := op121 (by decide +kernel)
theorem dM_findOne_177 : decode (mB mM_findOne) 177 = .ok (.goto 4, 3) := op167 0 4 (by decide +kernel)
theorem dM_findOne_180 : decode (mB mM_findOne) 180 = .ok (.lconst 0, 1) := op9 (by decide +kernel)
theorem dM_findOne_181 : decode (mB mM_findOne) 181 = .ok (.lor, 1) := op129 (by decide +kernel)
theorem dM_findOne_182 : decode (mB mM_findOne) 182 = .ok (.lastore, 1) := op80 (by decide +kernel)
theorem dM_findOne_183 : decode (mB mM_findOne) 183 = .ok (.iinc 6 1, 3) := op132 6 1 (by decide +kernel)
theorem dM_findOne_186 : decode (mB mM_findOne) 186 = .ok (.goto (-80), 3) := op167 255 176 (by decide +kernel)
theorem dM_findOne_189 : decode (mB mM_findOne) 189 = .ok (.return_, 1) := op177 (by decide +kernel)

theorem vM_findOne_0 {M : Mm} {b : Nat × Nat} {K : Mm → Prop} {v0 : Nat} {v1 : Int32}  
    (h : X mM_findOne 8 [(0, .ref v0), (1, .int v1), (2, .long 0), (4, .long 0), (6, .int 0)] [] M b (QV K)) : X mM_findOne 0 [(0, .ref v0), (1, .int v1)] [] M b (QV K) := by
  refine x_wf (fun hw => ?_)
  refine x_lconst (pc := 0) dM_findOne_0 (v := 0) rfl ?_
  refine x_lstore_n (pc := 1) dM_findOne_1 rfl (by decide) (L' := [(2, .long 0), (0, .ref v0), (1, .int v1)]) rfl ?_
  refine x_lconst (pc := 2) dM_findOne_2 (v := 0) rfl ?_
  refine x_lstore (pc := 3) dM_findOne_3 (by decide) (L' := [(4, .long 0), (2, .long 0), (0, .ref v0), (1, .int v1)]) rfl ?_
  refine x_iconst (pc := 5) dM_findOne_5 (v := 0) rfl ?_
  refine x_istore (pc := 6) dM_findOne_6 (by decide) (L' := [(6, .int 0), (4, .long 0), (2, .long 0), (0, .ref v0), (1, .int v1)]) rfl ?_
  exact x_loc [3, 4, 2, 1, 0] rfl h

theorem vM_findOne_8 {M : Mm} {b : Nat × Nat} {K : Mm → Prop} {v0 : Nat} {v1 : Int32} {v2 : Int64} {v4 : Int64} {v6 : Int32} {r1 : Nat} {r2 : Nat} {r3 : Nat} (kv0 : v0 % 64 = 11) (e1 : gr M v0 29 = some r1) (e2 : gr M v0 27 = some r2) (e3 : gr M v0 28 = some r3)
    (h : ((gi M v0 0) ≤ v6 → (vp_in v1 8 ∧ (vp_in v1 8 ∧ (vp_in v1 8 ∧ (X mM_findOne 106 [(0, .ref v0), (1, .int v1), (6, .int 0)] [] (sl (sl (sl M r1 (v1).toNatClampNeg (v2 &&& v4)) r2 (v1).toNatClampNeg (v2 &&& (v4 ^^^ (-1)))) r3 (v1).toNatClampNeg (v4 &&& (v2 ^^^ (-1)))) b (QV K)))))) ∧ (¬ (gi M v0 0) ≤ v6 → (CI mM_of [.ref v0, .int v6, .int 1] M (fun rv N => X mM_findOne 24 [(0, .ref v0), (1, .int v1), (2, .long v2), (4, .long v4), (6, .int v6)] [.int rv] N b (QV K))))) : X mM_findOne 8 [(0, .ref v0), (1, .int v1), (2, .long v2), (4, .long v4), (6, .int v6)] [] M b (QV K) := by
  refine x_wf (fun hw => ?_)
  refine x_iload (pc := 8) dM_findOne_8 (q := 4) rfl ?_
  refine x_aload_n (pc := 10) dM_findOne_10 rfl (q := 0) rfl ?_
  refine x_getI (pc := 11) dM_findOne_11 kv0 flM_112 rfl ?_
  obtain ⟨g1_0, g1_1⟩ := h
  refine x_icmp_ge (pc := 14) dM_findOne_14 (t := 65) rfl (fun q1 => ?_) (fun q1 => ?_)
  · refine x_aload_n (pc := 65) dM_findOne_65 rfl (q := 0) rfl ?_
    refine x_getR (pc := 66) dM_findOne_66 kv0 flM_64 rfl e1 ?_
    refine x_iload_n (pc := 69) dM_findOne_69 rfl (q := 1) rfl ?_
    refine x_lload_n (pc := 70) dM_findOne_70 rfl (q := 2) rfl ?_
    refine x_lload (pc := 71) dM_findOne_71 (q := 3) rfl ?_
    refine x_land (pc := 73) dM_findOne_73 ?_
    have h := g1_0 q1
    obtain ⟨s501, h⟩ := h
    refine x_astLj (pc := 74) (j := (v1).toNatClampNeg) dM_findOne_74 (wfk hw e1 kv0) ak_27 rfl s501 ?_
    refine x_aload_n (pc := 75) dM_findOne_75 rfl (q := 0) rfl ?_
    refine x_getR (pc := 76) dM_findOne_76 kv0 flM_58 rfl e2 ?_
    refine x_iload_n (pc := 79) dM_findOne_79 rfl (q := 1) rfl ?_
    refine x_lload_n (pc := 80) dM_findOne_80 rfl (q := 2) rfl ?_
    refine x_lload (pc := 81) dM_findOne_81 (q := 3) rfl ?_
    refine x_ldc2 (pc := 83) dM_findOne_83 klM_289 ?_
    refine x_lxor (pc := 86) dM_findOne_86 ?_
    refine x_land (pc := 87) dM_findOne_87 ?_
    obtain ⟨s502, h⟩ := h
    refine x_astLj (pc := 88) (j := (v1).toNatClampNeg) dM_findOne_88 (wfk hw e2 kv0) ak_27 rfl s502 ?_
    refine x_aload_n (pc := 89) dM_findOne_89 rfl (q := 0) rfl ?_
    refine x_getR (pc := 90) dM_findOne_90 kv0 flM_61 rfl e3 ?_
    refine x_iload_n (pc := 93) dM_findOne_93 rfl (q := 1) rfl ?_
    refine x_lload (pc := 94) dM_findOne_94 (q := 3) rfl ?_
    refine x_lload_n (pc := 96) dM_findOne_96 rfl (q := 2) rfl ?_
    refine x_ldc2 (pc := 97) dM_findOne_97 klM_289 ?_
    refine x_lxor (pc := 100) dM_findOne_100 ?_
    refine x_land (pc := 101) dM_findOne_101 ?_
    obtain ⟨s503, h⟩ := h
    refine x_astLj (pc := 102) (j := (v1).toNatClampNeg) dM_findOne_102 (wfk hw e3 kv0) ak_27 rfl s503 ?_
    refine x_iconst (pc := 103) dM_findOne_103 (v := 0) rfl ?_
    refine x_istore (pc := 104) dM_findOne_104 (by decide) (L' := [(6, .int 0), (0, .ref v0), (1, .int v1), (2, .long v2), (4, .long v4)]) rfl ?_
    exact x_loc [1, 2, 0] rfl h
  · refine x_aload_n (pc := 17) dM_findOne_17 rfl (q := 0) rfl ?_
    refine x_iload (pc := 18) dM_findOne_18 (q := 4) rfl ?_
    refine x_iconst (pc := 20) dM_findOne_20 (v := 1) rfl ?_
    have h := g1_1 q1
    exact x_invV (pc := 21) dM_findOne_21 (c := 11) (S := []) (As := [.int v6, .int 1]) mlM_244 hM_of rfl (by decide) rfl kv0 ⟨by decide, by decide⟩ ⟨Nat.zero_le _, Nat.zero_le _⟩ rfl (Nat.le_of_ble_eq_true rfl) (aftI (b' := b) ⟨Nat.le_refl _, Nat.le_refl _⟩ (fun rv N h => h) h)

theorem vM_findOne_24 {M : Mm} {b : Nat × Nat} {K : Mm → Prop} {v0 : Nat} {v1 : Int32} {v2 : Int64} {v4 : Int64} {v6 : Int32} {w0 : Int32} (kv0 : v0 % 64 = 11) 
    (h : (¬ w0 = v1 → (X mM_findOne 8 [(0, .ref v0), (1, .int v1), (2, .long v2), (4, .long v4), (6, .int (v6 + 1))] [] M b (QV K))) ∧ (w0 = v1 → (CI mM_counts [.ref v0, .int v6] M (fun rv N => X mM_findOne 34 [(0, .ref v0), (1, .int v1), (2, .long v2), (4, .long v4), (6, .int v6)] [.int rv] N b (QV K))))) : X mM_findOne 24 [(0, .ref v0), (1, .int v1), (2, .long v2), (4, .long v4), (6, .int v6)] [.int w0] M b (QV K) := by
  refine x_wf (fun hw => ?_)
  refine x_iload_n (pc := 24) dM_findOne_24 rfl (q := 1) rfl ?_
  obtain ⟨g1_0, g1_1⟩ := h
  refine x_icmp_ne (pc := 25) dM_findOne_25 (t := 59) rfl (fun q1 => ?_) (fun q1 => ?_)
  · have h := g1_0 q1
    refine x_iinc (pc := 59) dM_findOne_59 (q := 4) rfl (v := v6 + 1) rfl (by decide) (L' := [(6, .int (v6 + 1)), (0, .ref v0), (1, .int v1), (2, .long v2), (4, .long v4)]) rfl ?_
    refine x_goto (pc := 62) dM_findOne_62 (t := 8) rfl ?_
    exact x_loc [1, 2, 3, 4, 0] rfl h
  · refine x_aload_n (pc := 28) dM_findOne_28 rfl (q := 0) rfl ?_
    refine x_iload (pc := 29) dM_findOne_29 (q := 4) rfl ?_
    have h := g1_1 q1
    exact x_invV (pc := 31) dM_findOne_31 (c := 11) (S := []) (As := [.int v6]) mlM_283 hM_counts rfl (by decide) rfl kv0 ⟨by decide, by decide⟩ ⟨Nat.zero_le _, Nat.zero_le _⟩ rfl (Nat.le_of_ble_eq_true rfl) (aftI (b' := b) ⟨Nat.le_refl _, Nat.le_refl _⟩ (fun rv N h => h) h)

theorem vM_findOne_34 {M : Mm} {b : Nat × Nat} {K : Mm → Prop} {v0 : Nat} {v1 : Int32} {v2 : Int64} {v4 : Int64} {v6 : Int32} {w0 : Int32} {r1 : Nat} {r2 : Nat} (kv0 : v0 % 64 = 11) (e1 : gr M v0 25 = some r1) (e2 : gr M v0 26 = some r2)
    (h : (¬ w0 = 0 → vp_in v6 25) ∧ (w0 = 0 → (X mM_findOne 8 [(0, .ref v0), (1, .int v1), (2, .long v2), (4, .long v4), (6, .int (v6 + 1))] [] M b (QV K))) ∧ (¬ w0 = 0 → (vp_in v6 25 ∧ (X mM_findOne 8 [(0, .ref v0), (1, .int v1), (2, .long (v2 ||| (gl M r1 (v6).toNatClampNeg))), (4, .long (v4 ||| (gl M r2 (v6).toNatClampNeg))), (6, .int (v6 + 1))] [] M b (QV K))))) : X mM_findOne 34 [(0, .ref v0), (1, .int v1), (2, .long v2), (4, .long v4), (6, .int v6)] [.int w0] M b (QV K) := by
  refine x_wf (fun hw => ?_)
  obtain ⟨s1, g1_0, g1_1⟩ := h
  refine x_if_eq (pc := 34) dM_findOne_34 (t := 59) rfl (fun q1 => ?_) (fun q1 => ?_)
  · have h := g1_0 q1
    refine x_iinc (pc := 59) dM_findOne_59 (q := 4) rfl (v := v6 + 1) rfl (by decide) (L' := [(6, .int (v6 + 1)), (0, .ref v0), (1, .int v1), (2, .long v2), (4, .long v4)]) rfl ?_
    refine x_goto (pc := 62) dM_findOne_62 (t := 8) rfl ?_
    exact x_loc [1, 2, 3, 4, 0] rfl h
  · refine x_lload_n (pc := 37) dM_findOne_37 rfl (q := 2) rfl ?_
    refine x_aload_n (pc := 38) dM_findOne_38 rfl (q := 0) rfl ?_
    refine x_getR (pc := 39) dM_findOne_39 kv0 flM_51 rfl e1 ?_
    refine x_iload (pc := 42) dM_findOne_42 (q := 4) rfl ?_
    refine x_aldLj (pc := 44) (j := (v6).toNatClampNeg) dM_findOne_44 (wfk hw e1 kv0) ak_26 rfl (s1 q1) ?_
    refine x_lor (pc := 45) dM_findOne_45 ?_
    have h := g1_1 q1
    refine x_lstore_n (pc := 46) dM_findOne_46 rfl (by decide) (L' := [(2, .long (v2 ||| (gl M r1 (v6).toNatClampNeg))), (0, .ref v0), (1, .int v1), (4, .long v4), (6, .int v6)]) rfl ?_
    refine x_lload (pc := 47) dM_findOne_47 (q := 3) rfl ?_
    refine x_aload_n (pc := 49) dM_findOne_49 rfl (q := 1) rfl ?_
    refine x_getR (pc := 50) dM_findOne_50 kv0 flM_55 rfl e2 ?_
    refine x_iload (pc := 53) dM_findOne_53 (q := 4) rfl ?_
    obtain ⟨s502, h⟩ := h
    refine x_aldLj (pc := 55) (j := (v6).toNatClampNeg) dM_findOne_55 (wfk hw e2 kv0) ak_26 rfl s502 ?_
    refine x_lor (pc := 56) dM_findOne_56 ?_
    refine x_lstore (pc := 57) dM_findOne_57 (by decide) (L' := [(4, .long (v4 ||| (gl M r2 (v6).toNatClampNeg))), (2, .long (v2 ||| (gl M r1 (v6).toNatClampNeg))), (0, .ref v0), (1, .int v1), (6, .int v6)]) rfl ?_
    refine x_iinc (pc := 59) dM_findOne_59 (q := 4) rfl (v := v6 + 1) rfl (by decide) (L' := [(6, .int (v6 + 1)), (4, .long (v4 ||| (gl M r2 (v6).toNatClampNeg))), (2, .long (v2 ||| (gl M r1 (v6).toNatClampNeg))), (0, .ref v0), (1, .int v1)]) rfl ?_
    refine x_goto (pc := 62) dM_findOne_62 (t := 8) rfl ?_
    exact x_loc [3, 4, 2, 1, 0] rfl h

theorem vM_findOne_106 {M : Mm} {b : Nat × Nat} {K : Mm → Prop} {v0 : Nat} {v1 : Int32} {v6 : Int32} {r1 : Nat} (kv0 : v0 % 64 = 11) (e1 : gr M v0 29 = some r1)
    (h : (¬ 64 ≤ v6 → vp_in v1 8) ∧ (64 ≤ v6 → (K M)) ∧ ((¬ 64 ≤ v6 ∧ ¬ (((gl M r1 (v1).toNatClampNeg) >>> ((v6).toInt64 &&& 63)) &&& 1) = 1) → (X mM_findOne 106 [(0, .ref v0), (1, .int v1), (6, .int (v6 + 1))] [] M b (QV K))) ∧ ((¬ 64 ≤ v6 ∧ (((gl M r1 (v1).toNatClampNeg) >>> ((v6).toInt64 &&& 63)) &&& 1) = 1) → (CI mM_ofTwo [.ref v0, .int v1, .int v6] M (fun rv N => X mM_findOne 136 [(0, .ref v0), (1, .int v1), (6, .int v6)] [.int rv] N b (QV K))))) : X mM_findOne 106 [(0, .ref v0), (1, .int v1), (6, .int v6)] [] M b (QV K) := by
  refine x_wf (fun hw => ?_)
  refine x_iload (pc := 106) dM_findOne_106 (q := 2) rfl ?_
  refine x_bipush (pc := 108) dM_findOne_108 (v := 64) rfl ?_
  obtain ⟨s1, g1_0, g1_1, g1_2⟩ := h
  refine x_icmp_ge (pc := 110) dM_findOne_110 (t := 189) rfl (fun q1 => ?_) (fun q1 => ?_)
  · have h := g1_0 q1
    exact x_retQV (pc := 189) dM_findOne_189 rfl h
  · refine x_aload_n (pc := 113) dM_findOne_113 rfl (q := 0) rfl ?_
    refine x_getR (pc := 114) dM_findOne_114 kv0 flM_64 rfl e1 ?_
    refine x_iload_n (pc := 117) dM_findOne_117 rfl (q := 1) rfl ?_
    refine x_aldLj (pc := 118) (j := (v1).toNatClampNeg) dM_findOne_118 (wfk hw e1 kv0) ak_27 rfl (s1 q1) ?_
    refine x_iload (pc := 119) dM_findOne_119 (q := 2) rfl ?_
    refine x_lshr (pc := 121) dM_findOne_121 ?_
    refine x_lconst (pc := 122) dM_findOne_122 (v := 1) rfl ?_
    refine x_land (pc := 123) dM_findOne_123 ?_
    refine x_lconst (pc := 124) dM_findOne_124 (v := 1) rfl ?_
    refine x_lc_ne (pc := 125) dM_findOne_125 dM_findOne_126 (t := 183) rfl (fun q2 => ?_) (fun q2 => ?_)
    · have h := g1_1 ⟨q1, q2⟩
      refine x_iinc (pc := 183) dM_findOne_183 (q := 2) rfl (v := v6 + 1) rfl (by decide) (L' := [(6, .int (v6 + 1)), (0, .ref v0), (1, .int v1)]) rfl ?_
      refine x_goto (pc := 186) dM_findOne_186 (t := 106) rfl ?_
      exact x_loc [1, 2, 0] rfl h
    · refine x_aload_n (pc := 129) dM_findOne_129 rfl (q := 0) rfl ?_
      refine x_iload_n (pc := 130) dM_findOne_130 rfl (q := 1) rfl ?_
      refine x_iload (pc := 131) dM_findOne_131 (q := 2) rfl ?_
      have h := g1_2 ⟨q1, q2⟩
      exact x_invV (pc := 133) dM_findOne_133 (c := 11) (S := []) (As := [.int v1, .int v6]) mlM_291 hM_ofTwo rfl (by decide) rfl kv0 ⟨by decide, by decide⟩ ⟨Nat.zero_le _, Nat.zero_le _⟩ rfl (Nat.le_of_ble_eq_true rfl) (aftI (b' := b) ⟨Nat.le_refl _, Nat.le_refl _⟩ (fun rv N h => h) h)

theorem vM_findOne_136 {M : Mm} {b : Nat × Nat} {K : Mm → Prop} {v0 : Nat} {v1 : Int32} {v6 : Int32} {w0 : Int32} {r1 : Nat} {r2 : Nat} (kv0 : v0 % 64 = 11) (e1 : gr M v0 27 = some r1) (e2 : gr M v0 28 = some r2)
    (h : vp_in v1 8 ∧ (vp_in v1 8 ∧ (vp_in v1 8 ∧ (vp_in v1 8 ∧ (X mM_findOne 106 [(0, .ref v0), (1, .int v1), (6, .int (v6 + 1))] [] (sl (sl M r1 (v1).toNatClampNeg ((gl M r1 (v1).toNatClampNeg) ||| (if w0 = 1 then ((1 : Int64) <<< ((v6).toInt64 &&& 63)) else 0 : Int64))) r2 (v1).toNatClampNeg ((gl (sl M r1 (v1).toNatClampNeg ((gl M r1 (v1).toNatClampNeg) ||| (if w0 = 1 then ((1 : Int64) <<< ((v6).toInt64 &&& 63)) else 0 : Int64))) r2 (v1).toNatClampNeg) ||| (if w0 = 0 then ((1 : Int64) <<< ((v6).toInt64 &&& 63)) else 0 : Int64))) b (QV K)))))) : X mM_findOne 136 [(0, .ref v0), (1, .int v1), (6, .int v6)] [.int w0] M b (QV K) := by
  refine x_wf (fun hw => ?_)
  refine x_istore (pc := 136) dM_findOne_136 (by decide) (L' := [(7, .int w0), (0, .ref v0), (1, .int v1), (6, .int v6)]) rfl ?_
  refine x_aload_n (pc := 138) dM_findOne_138 rfl (q := 1) rfl ?_
  refine x_getR (pc := 139) dM_findOne_139 kv0 flM_58 rfl e1 ?_
  refine x_iload_n (pc := 142) dM_findOne_142 rfl (q := 2) rfl ?_
  refine x_dup2 (pc := 143) dM_findOne_143 rfl rfl ?_
  obtain ⟨s501, h⟩ := h
  refine x_aldLj (pc := 144) (j := (v1).toNatClampNeg) dM_findOne_144 (wfk hw e1 kv0) ak_27 rfl s501 ?_
  refine x_iload (pc := 145) dM_findOne_145 (q := 0) rfl ?_
  refine x_iconst (pc := 147) dM_findOne_147 (v := 1) rfl ?_
  suffices hJ : X mM_findOne 159 [(7, .int w0), (0, .ref v0), (1, .int v1), (6, .int v6)] [.long (if w0 = 1 then ((1 : Int64) <<< ((v6).toInt64 &&& 63)) else 0 : Int64), .long (gl M r1 (v1).toNatClampNeg), .int v1, .ref r1] M b (QV K) by
    refine x_icmp_ne (pc := 148) dM_findOne_148 (t := 158) rfl (fun q1 => ?_) (fun q1 => ?_)
    · refine x_lconst (pc := 158) dM_findOne_158 (v := 0) rfl ?_
      first | (rw [if_neg q1] at hJ; exact hJ) | (simp only [if_neg q1] at hJ ⊢; exact hJ)
    · refine x_lconst (pc := 151) dM_findOne_151 (v := 1) rfl ?_
      refine x_iload (pc := 152) dM_findOne_152 (q := 3) rfl ?_
      refine x_lshl (pc := 154) dM_findOne_154 ?_
      refine x_goto (pc := 155) dM_findOne_155 (t := 159) rfl ?_
      first | (rw [if_pos q1] at hJ; exact hJ) | (simp only [if_pos q1] at hJ ⊢; exact hJ)
  refine x_lor (pc := 159) dM_findOne_159 ?_
  obtain ⟨s502, h⟩ := h
  refine x_astLj (pc := 160) (j := (v1).toNatClampNeg) dM_findOne_160 (wfk hw e1 kv0) ak_27 rfl s502 ?_
  refine x_aload_n (pc := 161) dM_findOne_161 rfl (q := 1) rfl ?_
  refine x_getR (pc := 162) dM_findOne_162 kv0 flM_61 rfl e2 ?_
  refine x_iload_n (pc := 165) dM_findOne_165 rfl (q := 2) rfl ?_
  refine x_dup2 (pc := 166) dM_findOne_166 rfl rfl ?_
  obtain ⟨s503, h⟩ := h
  refine x_aldLj (pc := 167) (j := (v1).toNatClampNeg) dM_findOne_167 (wfk hw e2 kv0) ak_27 rfl s503 ?_
  refine x_iload (pc := 168) dM_findOne_168 (q := 0) rfl ?_
  suffices hJ : X mM_findOne 181 [(7, .int w0), (0, .ref v0), (1, .int v1), (6, .int v6)] [.long (if w0 = 0 then ((1 : Int64) <<< ((v6).toInt64 &&& 63)) else 0 : Int64), .long (gl (sl M r1 (v1).toNatClampNeg ((gl M r1 (v1).toNatClampNeg) ||| (if w0 = 1 then ((1 : Int64) <<< ((v6).toInt64 &&& 63)) else 0 : Int64))) r2 (v1).toNatClampNeg), .int v1, .ref r2] (sl M r1 (v1).toNatClampNeg ((gl M r1 (v1).toNatClampNeg) ||| (if w0 = 1 then ((1 : Int64) <<< ((v6).toInt64 &&& 63)) else 0 : Int64))) b (QV K) by
    refine x_if_ne (pc := 170) dM_findOne_170 (t := 180) rfl (fun q2 => ?_) (fun q2 => ?_)
    · refine x_lconst (pc := 180) dM_findOne_180 (v := 0) rfl ?_
      first | (rw [if_neg q2] at hJ; exact hJ) | (simp only [if_neg q2] at hJ ⊢; exact hJ)
    · refine x_lconst (pc := 173) dM_findOne_173 (v := 1) rfl ?_
      refine x_iload (pc := 174) dM_findOne_174 (q := 3) rfl ?_
      refine x_lshl (pc := 176) dM_findOne_176 ?_
      refine x_goto (pc := 177) dM_findOne_177 (t := 181) rfl ?_
      first | (rw [if_pos q2] at hJ; exact hJ) | (simp only [if_pos q2] at hJ ⊢; exact hJ)
  refine x_lor (pc := 181) dM_findOne_181 ?_
  obtain ⟨s504, h⟩ := h
  refine x_astLj (pc := 182) (j := (v1).toNatClampNeg) dM_findOne_182 (wfk hw e2 kv0) ak_27 rfl s504 ?_
  refine x_iinc (pc := 183) dM_findOne_183 (q := 3) rfl (v := v6 + 1) rfl (by decide) (L' := [(6, .int (v6 + 1)), (7, .int w0), (0, .ref v0), (1, .int v1)]) rfl ?_
  refine x_goto (pc := 186) dM_findOne_186 (t := 106) rfl ?_
  exact x_loc [2, 3, 0] rfl h

theorem dM_ofTwo_0 : decode (mB mM_ofTwo) 0 = .ok (.bipush (-4), 2) := op16 252 (by decide +kernel)
theorem dM_ofTwo_2 : decode (mB mM_ofTwo) 2 = .ok (.istore_n 3, 1) := op62 (by decide +kernel)
theorem dM_ofTwo_3 : decode (mB mM_ofTwo) 3 = .ok (.iconst (-1), 1) := op2 (by decide +kernel)
theorem dM_ofTwo_4 : decode (mB mM_ofTwo) 4 = .ok (.istore 4, 2) := op54 4 (by decide +kernel)
theorem dM_ofTwo_6 : decode (mB mM_ofTwo) 6 = .ok (.iconst 0, 1) := op3 (by decide +kernel)
theorem dM_ofTwo_7 : decode (mB mM_ofTwo) 7 = .ok (.istore 5, 2) := op54 5 (by decide +kernel)
theorem dM_ofTwo_9 : decode (mB mM_ofTwo) 9 = .ok (.iconst 0, 1) := op3 (by decide +kernel)
theorem dM_ofTwo_10 : decode (mB mM_ofTwo) 10 = .ok (.istore 6, 2) := op54 6 (by decide +kernel)
theorem dM_ofTwo_12 : decode (mB mM_ofTwo) 12 = .ok (.iload 6, 2) := op21 6 (by decide +kernel)
theorem dM_ofTwo_14 : decode (mB mM_ofTwo) 14 = .ok (.aload_n 0, 1) := op42 (by decide +kernel)
theorem dM_ofTwo_15 : decode (mB mM_ofTwo) 15 = .ok (.getfield 112, 3) := op180 0 112 (by decide +kernel)
theorem dM_ofTwo_18 : decode (mB mM_ofTwo) 18 = .ok (.if_icmp .ge 132, 3) := op162 0 132 (by decide +kernel)
theorem dM_ofTwo_21 : decode (mB mM_ofTwo) 21 = .ok (.aload_n 0, 1) := op42 (by decide +kernel)
theorem dM_ofTwo_22 : decode (mB mM_ofTwo) 22 = .ok (.getfield 36, 3) := op180 0 36 (by decide +kernel)
theorem dM_ofTwo_25 : decode (mB mM_ofTwo) 25 = .ok (.iconst 3, 1) := op6 (by decide +kernel)
theorem dM_ofTwo_26 : decode (mB mM_ofTwo) 26 = .ok (.iaload, 1) := op46 (by decide +kernel)
theorem dM_ofTwo_27 : decode (mB mM_ofTwo) 27 = .ok (.ifCond .le 123, 3) := op158 0 123 (by decide +kernel)
theorem dM_ofTwo_30 : decode (mB mM_ofTwo) 30 = .ok (.aload_n 0, 1) := op42 (by decide +kernel)
theorem dM_ofTwo_31 : decode (mB mM_ofTwo) 31 = .ok (.iload 6, 2) := op21 6 (by decide +kernel)
theorem dM_ofTwo_33 : decode (mB mM_ofTwo) 33 = .ok (.iconst 1, 1) := op4 (by decide +kernel)
theorem dM_ofTwo_34 : decode (mB mM_ofTwo) 34 = .ok (.invokevirtual 244, 3) := op182 0 244 (by decide +kernel)
theorem dM_ofTwo_37 : decode (mB mM_ofTwo) 37 = .ok (.iload_n 1, 1) := op27 (by decide +kernel)
theorem dM_ofTwo_38 : decode (mB mM_ofTwo) 38 = .ok (.if_icmp .ne 33, 3) := op160 0 33 (by decide +kernel)
theorem dM_ofTwo_41 : decode (mB mM_ofTwo) 41 = .ok (.aload_n 0, 1) := op42 (by decide +kernel)
theorem dM_ofTwo_42 : decode (mB mM_ofTwo) 42 = .ok (.iload 6, 2) := op21 6 (by decide +kernel)
theorem dM_ofTwo_44 : decode (mB mM_ofTwo) 44 = .ok (.invokevirtual 283, 3) := op182 1 27 (by decide +kernel)
theorem dM_ofTwo_47 : decode (mB mM_ofTwo) 47 = .ok (.ifCond .eq 24, 3) := op153 0 24 (by decide +kernel)
theorem dM_ofTwo_50 : decode (mB mM_ofTwo) 50 = .ok (.aload_n 0, 1) := op42 (by decide +kernel)
theorem dM_ofTwo_51 : decode (mB mM_ofTwo) 51 = .ok (.getfield 51, 3) := op180 0 51 (by decide +kernel)
theorem dM_ofTwo_54 : decode (mB mM_ofTwo) 54 = .ok (.iload 6, 2) := op21 6 (by decide +kernel)
theorem dM_ofTwo_56 : decode (mB mM_ofTwo) 56 = .ok (.laload, 1) := op47 (by decide +kernel)
theorem dM_ofTwo_57 : decode (mB mM_ofTwo) 57 = .ok (.aload_n 0, 1) := op42 (by decide +kernel)
theorem dM_ofTwo_58 : decode (mB mM_ofTwo) 58 = .ok (.getfield 55, 3) := op180 0 55 (by decide +kernel)
theorem dM_ofTwo_61 : decode (mB mM_ofTwo) 61 = .ok (.iload 6, 2) := op21 6 (by decide +kernel)
theorem dM_ofTwo_63 : decode (mB mM_ofTwo) 63 = .ok (.laload, 1) := op47 (by decide +kernel)
theorem dM_ofTwo_64 : decode (mB mM_ofTwo) 64 = .ok (.iload_n 2, 1) := op28 (by decide +kernel)
theorem dM_ofTwo_65 : decode (mB mM_ofTwo) 65 = .ok (.invokestatic 278, 3) := op184 1 22 (by decide +kernel)
theorem dM_ofTwo_68 : decode (mB mM_ofTwo) 68 = .ok (.goto 5, 3) := op167 0 5 (by decide +kernel)
theorem dM_ofTwo_71 : decode (mB mM_ofTwo) 71 = .ok (.bipush (-4), 2) := op16 252 (by decide +kernel)
theorem dM_ofTwo_73 : decode (mB mM_ofTwo) 73 = .ok (.istore 7, 2) := op54 7 (by decide +kernel)
theorem dM_ofTwo_75 : decode (mB mM_ofTwo) 75 = .ok (.aload_n 0, 1) := op42 (by decide +kernel)
theorem dM_ofTwo_76 : decode (mB mM_ofTwo) 76 = .ok (.getfield 36, 3) := op180 0 36 (by decide +kernel)
theorem dM_ofTwo_79 : decode (mB mM_ofTwo) 79 = .ok (.iconst 3, 1) := op6 (by decide +kernel)
theorem dM_ofTwo_80 : decode (mB mM_ofTwo) 80 = .ok (.iaload, 1) := op46 (by decide +kernel)
theorem dM_ofTwo_81 : decode (mB mM_ofTwo) 81 = .ok (.iconst 1, 1) := op4 (by decide +kernel)
theorem dM_ofTwo_82 : decode (mB mM_ofTwo) 82 = .ok (.if_icmp .ne 8, 3) := op160 0 8 (by decide +kernel)
theorem dM_ofTwo_85 : decode (mB mM_ofTwo) 85 = .ok (.iload 6, 2) := op21 6 (by decide +kernel)
theorem dM_ofTwo_87 : decode (mB mM_ofTwo) 87 = .ok (.goto 9, 3) := op167 0 9 (by decide +kernel)
theorem dM_ofTwo_90 : decode (mB mM_ofTwo) 90 = .ok (.aload_n 0, 1) := op42 (by decide +kernel)
theorem dM_ofTwo_91 : decode (mB mM_ofTwo) 91 = .ok (.iload 6, 2) := op21 6 (by decide +kernel)
theorem dM_ofTwo_93 : decode (mB mM_ofTwo) 93 = .ok (.invokevirtual 272, 3) := op182 1 16 (by decide +kernel)
theorem dM_ofTwo_96 : decode (mB mM_ofTwo) 96 = .ok (.istore 8, 2) := op54 8 (by decide +kernel)
theorem dM_ofTwo_98 : decode (mB mM_ofTwo) 98 = .ok (.iload 7, 2) := op21 7 (by decide +kernel)
theorem dM_ofTwo_100 : decode (mB mM_ofTwo) 100 = .ok (.bipush (-4), 2) := op16 252 (by decide +kernel)
theorem dM_ofTwo_102 : decode (mB mM_ofTwo) 102 = .ok (.if_icmp .eq 42, 3) := op159 0 42 (by decide +kernel)
theorem dM_ofTwo_105 : decode (mB mM_ofTwo) 105 = .ok (.iload 8, 2) := op21 8 (by decide +kernel)
theorem dM_ofTwo_107 : decode (mB mM_ofTwo) 107 = .ok (.iload 4, 2) := op21 4 (by decide +kernel)
theorem dM_ofTwo_109 : decode (mB mM_ofTwo) 109 = .ok (.if_icmp .lt 35, 3) := op161 0 35 (by decide +kernel)
theorem dM_ofTwo_112 : decode (mB mM_ofTwo) 112 = .ok (.iload 8, 2) := op21 8 (by decide +kernel)
theorem dM_ofTwo_114 : decode (mB mM_ofTwo) 114 = .ok (.iload 4, 2) := op21 4 (by decide +kernel)
theorem dM_ofTwo_116 : decode (mB mM_ofTwo) 116 = .ok (.if_icmp .ne 18, 3) := op160 0 18 (by decide +kernel)
theorem dM_ofTwo_119 : decode (mB mM_ofTwo) 119 = .ok (.iload 5, 2) := op21 5 (by decide +kernel)
theorem dM_ofTwo_121 : decode (mB mM_ofTwo) 121 = .ok (.ifCond .ne 9, 3) := op154 0 9 (by decide +kernel)
theorem dM_ofTwo_124 : decode (mB mM_ofTwo) 124 = .ok (.iload 7, 2) := op21 7 (by decide +kernel)
theorem dM_ofTwo_126 : decode (mB mM_ofTwo) 126 = .ok (.iload_n 3, 1) := op29 (by decide +kernel)
theorem dM_ofTwo_127 : decode (mB mM_ofTwo) 127 = .ok (.if_icmp .eq 7, 3) := op159 0 7 (by decide +kernel)
theorem dM_ofTwo_130 : decode (mB mM_ofTwo) 130 = .ok (.iconst 1, 1) := op4 (by decide +kernel)
theorem dM_ofTwo_131 : decode (mB mM_ofTwo) 131 = .ok (.goto 4, 3) := op167 0 4 (by decide +kernel)
theorem dM_ofTwo_134 : decode (mB mM_ofTwo) 134 = .ok (.iconst 0, 1) := op3 (by decide +kernel)
theorem dM_ofTwo_135 : decode (mB mM_ofTwo) 135 = .ok (.istore 5, 2) := op54 5 (by decide +kernel)
theorem dM_ofTwo_137 : decode (mB mM_ofTwo) 137 = .ok (.iload 7, 2) := op21 7 (by decide +kernel)
theorem dM_ofTwo_139 : decode (mB mM_ofTwo) 139 = .ok (.istore_n 3, 1) := op62 (by decide +kernel)
theorem dM_ofTwo_140 : decode (mB mM_ofTwo) 140 = .ok (.iload 8, 2) := op21 8 (by decide +kernel)
theorem dM_ofTwo_142 : decode (mB mM_ofTwo) 142 = .ok (.istore 4, 2) := op54 4 (by decide +kernel)
theorem dM_ofTwo_144 : decode (mB mM_ofTwo) 144 = .ok (.iinc 6 1, 3) := op132 6 1 (by decide +kernel)
theorem dM_ofTwo_147 : decode (mB mM_ofTwo) 147 = .ok (.goto (-135), 3) := op167 255 121 (by decide +kernel)
theorem dM_ofTwo_150 : decode (mB mM_ofTwo) 150 = .ok (.iload 5, 2) := op21 5 (by decide +kernel)
theorem dM_ofTwo_152 : decode (mB mM_ofTwo) 152 = .ok (.ifCond .eq 8, 3) := op153 0 8 (by decide +kernel)
theorem dM_ofTwo_155 : decode (mB mM_ofTwo) 155 = .ok (.bipush (-4), 2) := op16 252 (by decide +kernel)
theorem dM_ofTwo_157 : decode (mB mM_ofTwo) 157 = .ok (.goto 4, 3) := op167 0 4 (by decide +kernel)
theorem dM_ofTwo_160 : decode (mB mM_ofTwo) 160 = .ok (.iload_n 3, 1) := op29 (by decide +kernel)
theorem dM_ofTwo_161 : decode (mB mM_ofTwo) 161 = .ok (.ireturn, 1) := op172 (by decide +kernel)

theorem vM_ofTwo_0 {M : Mm} {b : Nat × Nat} {K : Int32 → Mm → Prop} {v0 : Nat} {v1 : Int32} {v2 : Int32}  
    (h : X mM_ofTwo 12 [(0, .ref v0), (1, .int v1), (2, .int v2), (3, .int (-4)), (4, .int (-1)), (5, .int 0), (6, .int 0)] [] M b (QI K)) : X mM_ofTwo 0 [(0, .ref v0), (1, .int v1), (2, .int v2)] [] M b (QI K) := by
  refine x_wf (fun hw => ?_)
  refine x_bipush (pc := 0) dM_ofTwo_0 (v := (-4)) rfl ?_
  refine x_istore_n (pc := 2) dM_ofTwo_2 rfl (by decide) (L' := [(3, .int (-4)), (0, .ref v0), (1, .int v1), (2, .int v2)]) rfl ?_
  refine x_iconst (pc := 3) dM_ofTwo_3 (v := (-1)) rfl ?_
  refine x_istore (pc := 4) dM_ofTwo_4 (by decide) (L' := [(4, .int (-1)), (3, .int (-4)), (0, .ref v0), (1, .int v1), (2, .int v2)]) rfl ?_
  refine x_iconst (pc := 6) dM_ofTwo_6 (v := 0) rfl ?_
  refine x_istore (pc := 7) dM_ofTwo_7 (by decide) (L' := [(5, .int 0), (4, .int (-1)), (3, .int (-4)), (0, .ref v0), (1, .int v1), (2, .int v2)]) rfl ?_
  refine x_iconst (pc := 9) dM_ofTwo_9 (v := 0) rfl ?_
  refine x_istore (pc := 10) dM_ofTwo_10 (by decide) (L' := [(6, .int 0), (5, .int 0), (4, .int (-1)), (3, .int (-4)), (0, .ref v0), (1, .int v1), (2, .int v2)]) rfl ?_
  exact x_loc [4, 5, 6, 3, 2, 1, 0] rfl h

theorem vM_ofTwo_12 {M : Mm} {b : Nat × Nat} {K : Int32 → Mm → Prop} {v0 : Nat} {v1 : Int32} {v2 : Int32} {v3 : Int32} {v4 : Int32} {v5 : Int32} {v6 : Int32} {r1 : Nat} (kv0 : v0 % 64 = 11) (e1 : gr M v0 18 = some r1)
    (h : ((((gi M v0 0) ≤ v6) ∨ (¬ (gi M v0 0) ≤ v6 ∧ (gi M r1 3) ≤ 0)) → (K (if v5 = 0 then v3 else (-4) : Int32) M)) ∧ ((¬ (gi M v0 0) ≤ v6 ∧ ¬ (gi M r1 3) ≤ 0) → (CI mM_of [.ref v0, .int v6, .int 1] M (fun rv N => X mM_ofTwo 37 [(0, .ref v0), (1, .int v1), (2, .int v2), (3, .int v3), (4, .int v4), (5, .int v5), (6, .int v6)] [.int rv] N b (QI K))))) : X mM_ofTwo 12 [(0, .ref v0), (1, .int v1), (2, .int v2), (3, .int v3), (4, .int v4), (5, .int v5), (6, .int v6)] [] M b (QI K) := by
  refine x_wf (fun hw => ?_)
  refine x_iload (pc := 12) dM_ofTwo_12 (q := 6) rfl ?_
  refine x_aload_n (pc := 14) dM_ofTwo_14 rfl (q := 0) rfl ?_
  refine x_getI (pc := 15) dM_ofTwo_15 kv0 flM_112 rfl ?_
  obtain ⟨g1_0, g1_1⟩ := h
  have g1_k0 : ((gi M v0 0) ≤ v6) ∨ (¬ (gi M v0 0) ≤ v6 ∧ (gi M r1 3) ≤ 0) → X mM_ofTwo 150 [(0, .ref v0), (1, .int v1), (2, .int v2), (3, .int v3), (4, .int v4), (5, .int v5), (6, .int v6)] [] M b (QI K) := fun q => by
    have h := g1_0 q
    refine x_iload (pc := 150) dM_ofTwo_150 (q := 5) rfl ?_
    suffices hJ : X mM_ofTwo 161 [(0, .ref v0), (1, .int v1), (2, .int v2), (3, .int v3), (4, .int v4), (5, .int v5), (6, .int v6)] [.int (if v5 = 0 then v3 else (-4) : Int32)] M b (QI K) by
      refine x_if_eq (pc := 152) dM_ofTwo_152 (t := 160) rfl (fun q3 => ?_) (fun q3 => ?_)
      · refine x_iload_n (pc := 160) dM_ofTwo_160 rfl (q := 3) rfl ?_
        first | (rw [if_pos q3] at hJ; exact hJ) | (simp only [if_pos q3] at hJ ⊢; exact hJ)
      · refine x_bipush (pc := 155) dM_ofTwo_155 (v := (-4)) rfl ?_
        refine x_goto (pc := 157) dM_ofTwo_157 (t := 161) rfl ?_
        first | (rw [if_neg q3] at hJ; exact hJ) | (simp only [if_neg q3] at hJ ⊢; exact hJ)
    exact x_retQI (pc := 161) dM_ofTwo_161 rfl rfl h
  refine x_icmp_ge (pc := 18) dM_ofTwo_18 (t := 150) rfl (fun q1 => ?_) (fun q1 => ?_)
  · exact g1_k0 (Or.inl q1)
  · refine x_aload_n (pc := 21) dM_ofTwo_21 rfl (q := 0) rfl ?_
    refine x_getR (pc := 22) dM_ofTwo_22 kv0 flM_36 rfl e1 ?_
    refine x_iconst (pc := 25) dM_ofTwo_25 (v := 3) rfl ?_
    refine x_aldIj (pc := 26) (j := 3) (Or.inl ⟨rfl, rfl⟩) dM_ofTwo_26 (wfk hw e1 kv0) ak_15 (by decide) (by unfold vp_in; decide) ?_
    refine x_if_le (pc := 27) dM_ofTwo_27 (t := 150) rfl (fun q2 => ?_) (fun q2 => ?_)
    · exact g1_k0 (Or.inr ⟨q1, q2⟩)
    · refine x_aload_n (pc := 30) dM_ofTwo_30 rfl (q := 0) rfl ?_
      refine x_iload (pc := 31) dM_ofTwo_31 (q := 6) rfl ?_
      refine x_iconst (pc := 33) dM_ofTwo_33 (v := 1) rfl ?_
      have h := g1_1 ⟨q1, q2⟩
      exact x_invV (pc := 34) dM_ofTwo_34 (c := 11) (S := []) (As := [.int v6, .int 1]) mlM_244 hM_of rfl (by decide) rfl kv0 ⟨by decide, by decide⟩ ⟨Nat.zero_le _, Nat.zero_le _⟩ rfl (Nat.le_of_ble_eq_true rfl) (aftI (b' := b) ⟨Nat.le_refl _, Nat.le_refl _⟩ (fun rv N h => h) h)

theorem vM_ofTwo_37 {M : Mm} {b : Nat × Nat} {K : Int32 → Mm → Prop} {v0 : Nat} {v1 : Int32} {v2 : Int32} {v3 : Int32} {v4 : Int32} {v5 : Int32} {v6 : Int32} {w0 : Int32} (kv0 : v0 % 64 = 11) 
    (h : (¬ w0 = v1 → (X mM_ofTwo 71 [(0, .ref v0), (1, .int v1), (2, .int v2), (3, .int v3), (4, .int v4), (5, .int v5), (6, .int v6)] [] M b (QI K))) ∧ (w0 = v1 → (CI mM_counts [.ref v0, .int v6] M (fun rv N => X mM_ofTwo 47 [(0, .ref v0), (1, .int v1), (2, .int v2), (3, .int v3), (4, .int v4), (5, .int v5), (6, .int v6)] [.int rv] N b (QI K))))) : X mM_ofTwo 37 [(0, .ref v0), (1, .int v1), (2, .int v2), (3, .int v3), (4, .int v4), (5, .int v5), (6, .int v6)] [.int w0] M b (QI K) := by
  refine x_wf (fun hw => ?_)
  refine x_iload_n (pc := 37) dM_ofTwo_37 rfl (q := 1) rfl ?_
  obtain ⟨g1_0, g1_1⟩ := h
  refine x_icmp_ne (pc := 38) dM_ofTwo_38 (t := 71) rfl (fun q1 => ?_) (fun q1 => ?_)
  · have h := g1_0 q1
    exact h
  · refine x_aload_n (pc := 41) dM_ofTwo_41 rfl (q := 0) rfl ?_
    refine x_iload (pc := 42) dM_ofTwo_42 (q := 6) rfl ?_
    have h := g1_1 q1
    exact x_invV (pc := 44) dM_ofTwo_44 (c := 11) (S := []) (As := [.int v6]) mlM_283 hM_counts rfl (by decide) rfl kv0 ⟨by decide, by decide⟩ ⟨Nat.zero_le _, Nat.zero_le _⟩ rfl (Nat.le_of_ble_eq_true rfl) (aftI (b' := b) ⟨Nat.le_refl _, Nat.le_refl _⟩ (fun rv N h => h) h)

theorem vM_ofTwo_47 {M : Mm} {b : Nat × Nat} {K : Int32 → Mm → Prop} {v0 : Nat} {v1 : Int32} {v2 : Int32} {v3 : Int32} {v4 : Int32} {v5 : Int32} {v6 : Int32} {w0 : Int32} {r1 : Nat} {r2 : Nat} (kv0 : v0 % 64 = 11) (e1 : gr M v0 25 = some r1) (e2 : gr M v0 26 = some r2)
    (h : (¬ w0 = 0 → vp_in v6 25) ∧ (¬ w0 = 0 → vp_in v6 25) ∧ (w0 = 0 → (X mM_ofTwo 71 [(0, .ref v0), (1, .int v1), (2, .int v2), (3, .int v3), (4, .int v4), (5, .int v5), (6, .int v6)] [] M b (QI K))) ∧ (¬ w0 = 0 → (CI mM_told [.long (gl M r1 (v6).toNatClampNeg), .long (gl M r2 (v6).toNatClampNeg), .int v2] M (fun rv N => X mM_ofTwo 68 [(0, .ref v0), (1, .int v1), (2, .int v2), (3, .int v3), (4, .int v4), (5, .int v5), (6, .int v6)] [.int rv] N b (QI K))))) : X mM_ofTwo 47 [(0, .ref v0), (1, .int v1), (2, .int v2), (3, .int v3), (4, .int v4), (5, .int v5), (6, .int v6)] [.int w0] M b (QI K) := by
  refine x_wf (fun hw => ?_)
  obtain ⟨s1, s2, g1_0, g1_1⟩ := h
  refine x_if_eq (pc := 47) dM_ofTwo_47 (t := 71) rfl (fun q1 => ?_) (fun q1 => ?_)
  · have h := g1_0 q1
    exact h
  · refine x_aload_n (pc := 50) dM_ofTwo_50 rfl (q := 0) rfl ?_
    refine x_getR (pc := 51) dM_ofTwo_51 kv0 flM_51 rfl e1 ?_
    refine x_iload (pc := 54) dM_ofTwo_54 (q := 6) rfl ?_
    refine x_aldLj (pc := 56) (j := (v6).toNatClampNeg) dM_ofTwo_56 (wfk hw e1 kv0) ak_26 rfl (s1 q1) ?_
    refine x_aload_n (pc := 57) dM_ofTwo_57 rfl (q := 0) rfl ?_
    refine x_getR (pc := 58) dM_ofTwo_58 kv0 flM_55 rfl e2 ?_
    refine x_iload (pc := 61) dM_ofTwo_61 (q := 6) rfl ?_
    refine x_aldLj (pc := 63) (j := (v6).toNatClampNeg) dM_ofTwo_63 (wfk hw e2 kv0) ak_26 rfl (s2 q1) ?_
    refine x_iload_n (pc := 64) dM_ofTwo_64 rfl (q := 2) rfl ?_
    have h := g1_1 q1
    exact x_invS (pc := 65) dM_ofTwo_65 (S := []) (As := [.long (gl M r1 (v6).toNatClampNeg), .long (gl M r2 (v6).toNatClampNeg), .int v2]) mlM_278 hM_told rfl ⟨by decide, by decide⟩ ⟨Nat.zero_le _, Nat.zero_le _⟩ rfl (Nat.le_of_ble_eq_true rfl) (aftI (b' := b) ⟨Nat.le_refl _, Nat.le_refl _⟩ (fun rv N h => h) h)

theorem vM_ofTwo_68 {M : Mm} {b : Nat × Nat} {K : Int32 → Mm → Prop} {v0 : Nat} {v1 : Int32} {v2 : Int32} {v3 : Int32} {v4 : Int32} {v5 : Int32} {v6 : Int32} {w0 : Int32}  
    (h : X mM_ofTwo 73 [(0, .ref v0), (1, .int v1), (2, .int v2), (3, .int v3), (4, .int v4), (5, .int v5), (6, .int v6)] [.int w0] M b (QI K)) : X mM_ofTwo 68 [(0, .ref v0), (1, .int v1), (2, .int v2), (3, .int v3), (4, .int v4), (5, .int v5), (6, .int v6)] [.int w0] M b (QI K) := by
  refine x_wf (fun hw => ?_)
  refine x_goto (pc := 68) dM_ofTwo_68 (t := 73) rfl ?_
  exact h

theorem vM_ofTwo_71 {M : Mm} {b : Nat × Nat} {K : Int32 → Mm → Prop} {v0 : Nat} {v1 : Int32} {v2 : Int32} {v3 : Int32} {v4 : Int32} {v5 : Int32} {v6 : Int32}  
    (h : X mM_ofTwo 73 [(0, .ref v0), (1, .int v1), (2, .int v2), (3, .int v3), (4, .int v4), (5, .int v5), (6, .int v6)] [.int (-4)] M b (QI K)) : X mM_ofTwo 71 [(0, .ref v0), (1, .int v1), (2, .int v2), (3, .int v3), (4, .int v4), (5, .int v5), (6, .int v6)] [] M b (QI K) := by
  refine x_wf (fun hw => ?_)
  refine x_bipush (pc := 71) dM_ofTwo_71 (v := (-4)) rfl ?_
  exact h

theorem vM_ofTwo_73 {M : Mm} {b : Nat × Nat} {K : Int32 → Mm → Prop} {v0 : Nat} {v1 : Int32} {v2 : Int32} {v3 : Int32} {v4 : Int32} {v5 : Int32} {v6 : Int32} {w0 : Int32} {r1 : Nat} (kv0 : v0 % 64 = 11) (e1 : gr M v0 18 = some r1)
    (h : (¬ (gi M r1 3) = 1 → (CI mM_weightOf [.ref v0, .int v6] M (fun rv N => X mM_ofTwo 96 [(0, .ref v0), (1, .int v1), (2, .int v2), (3, .int v3), (4, .int v4), (5, .int v5), (6, .int v6), (7, .int w0)] [.int rv] N b (QI K)))) ∧ ((gi M r1 3) = 1 → (X mM_ofTwo 96 [(0, .ref v0), (1, .int v1), (2, .int v2), (3, .int v3), (4, .int v4), (5, .int v5), (6, .int v6), (7, .int w0)] [.int v6] M b (QI K)))) : X mM_ofTwo 73 [(0, .ref v0), (1, .int v1), (2, .int v2), (3, .int v3), (4, .int v4), (5, .int v5), (6, .int v6)] [.int w0] M b (QI K) := by
  refine x_wf (fun hw => ?_)
  refine x_istore (pc := 73) dM_ofTwo_73 (by decide) (L' := [(7, .int w0), (0, .ref v0), (1, .int v1), (2, .int v2), (3, .int v3), (4, .int v4), (5, .int v5), (6, .int v6)]) rfl ?_
  refine x_aload_n (pc := 75) dM_ofTwo_75 rfl (q := 1) rfl ?_
  refine x_getR (pc := 76) dM_ofTwo_76 kv0 flM_36 rfl e1 ?_
  refine x_iconst (pc := 79) dM_ofTwo_79 (v := 3) rfl ?_
  refine x_aldIj (pc := 80) (j := 3) (Or.inl ⟨rfl, rfl⟩) dM_ofTwo_80 (wfk hw e1 kv0) ak_15 (by decide) (by unfold vp_in; decide) ?_
  refine x_iconst (pc := 81) dM_ofTwo_81 (v := 1) rfl ?_
  obtain ⟨g1_0, g1_1⟩ := h
  refine x_icmp_ne (pc := 82) dM_ofTwo_82 (t := 90) rfl (fun q1 => ?_) (fun q1 => ?_)
  · refine x_aload_n (pc := 90) dM_ofTwo_90 rfl (q := 1) rfl ?_
    refine x_iload (pc := 91) dM_ofTwo_91 (q := 7) rfl ?_
    have h := g1_0 q1
    exact x_invV (pc := 93) dM_ofTwo_93 (c := 11) (S := []) (As := [.int v6]) mlM_272 hM_weightOf rfl (by decide) rfl kv0 ⟨by decide, by decide⟩ ⟨Nat.zero_le _, Nat.zero_le _⟩ rfl (Nat.le_of_ble_eq_true rfl) (aftI (b' := b) ⟨Nat.le_refl _, Nat.le_refl _⟩ (fun rv N h => x_loc [1, 2, 3, 4, 5, 6, 7, 0] rfl h) h)
  · refine x_iload (pc := 85) dM_ofTwo_85 (q := 7) rfl ?_
    refine x_goto (pc := 87) dM_ofTwo_87 (t := 96) rfl ?_
    have h := g1_1 q1
    exact x_loc [1, 2, 3, 4, 5, 6, 7, 0] rfl h

theorem vM_ofTwo_96 {M : Mm} {b : Nat × Nat} {K : Int32 → Mm → Prop} {v0 : Nat} {v1 : Int32} {v2 : Int32} {v3 : Int32} {v4 : Int32} {v5 : Int32} {v6 : Int32} {v7 : Int32} {w0 : Int32}  
    (h : (((v7 = (-4)) ∨ (¬ v7 = (-4) ∧ w0 < v4)) → (X mM_ofTwo 12 [(0, .ref v0), (1, .int v1), (2, .int v2), (3, .int v3), (4, .int v4), (5, .int v5), (6, .int (v6 + 1))] [] M b (QI K))) ∧ (((¬ v7 = (-4) ∧ ¬ w0 < v4 ∧ ¬ w0 = v4) ∨ (¬ v7 = (-4) ∧ ¬ w0 < v4 ∧ w0 = v4 ∧ v5 = 0 ∧ v7 = v3)) → (X mM_ofTwo 135 [(0, .ref v0), (1, .int v1), (2, .int v2), (6, .int v6), (7, .int v7), (8, .int w0)] [.int 0] M b (QI K))) ∧ (((¬ v7 = (-4) ∧ ¬ w0 < v4 ∧ w0 = v4 ∧ ¬ v5 = 0) ∨ (¬ v7 = (-4) ∧ ¬ w0 < v4 ∧ w0 = v4 ∧ v5 = 0 ∧ ¬ v7 = v3)) → (X mM_ofTwo 135 [(0, .ref v0), (1, .int v1), (2, .int v2), (6, .int v6), (7, .int v7), (8, .int w0)] [.int 1] M b (QI K)))) : X mM_ofTwo 96 [(0, .ref v0), (1, .int v1), (2, .int v2), (3, .int v3), (4, .int v4), (5, .int v5), (6, .int v6), (7, .int v7)] [.int w0] M b (QI K) := by
  refine x_wf (fun hw => ?_)
  refine x_istore (pc := 96) dM_ofTwo_96 (by decide) (L' := [(8, .int w0), (0, .ref v0), (1, .int v1), (2, .int v2), (3, .int v3), (4, .int v4), (5, .int v5), (6, .int v6), (7, .int v7)]) rfl ?_
  refine x_iload (pc := 98) dM_ofTwo_98 (q := 8) rfl ?_
  refine x_bipush (pc := 100) dM_ofTwo_100 (v := (-4)) rfl ?_
  obtain ⟨g1_0, g1_1, g1_2⟩ := h
  have g1_k0 : (v7 = (-4)) ∨ (¬ v7 = (-4) ∧ w0 < v4) → X mM_ofTwo 144 [(8, .int w0), (0, .ref v0), (1, .int v1), (2, .int v2), (3, .int v3), (4, .int v4), (5, .int v5), (6, .int v6), (7, .int v7)] [] M b (QI K) := fun q => by
    have h := g1_0 q
    refine x_iinc (pc := 144) dM_ofTwo_144 (q := 7) rfl (v := v6 + 1) rfl (by decide) (L' := [(6, .int (v6 + 1)), (8, .int w0), (0, .ref v0), (1, .int v1), (2, .int v2), (3, .int v3), (4, .int v4), (5, .int v5), (7, .int v7)]) rfl ?_
    refine x_goto (pc := 147) dM_ofTwo_147 (t := 12) rfl ?_
    exact x_loc [2, 3, 4, 5, 6, 7, 0] rfl h
  have g1_k1 : (¬ v7 = (-4) ∧ ¬ w0 < v4 ∧ ¬ w0 = v4) ∨ (¬ v7 = (-4) ∧ ¬ w0 < v4 ∧ w0 = v4 ∧ v5 = 0 ∧ v7 = v3) → X mM_ofTwo 134 [(8, .int w0), (0, .ref v0), (1, .int v1), (2, .int v2), (3, .int v3), (4, .int v4), (5, .int v5), (6, .int v6), (7, .int v7)] [] M b (QI K) := fun q => by
    have h := g1_1 q
    refine x_iconst (pc := 134) dM_ofTwo_134 (v := 0) rfl ?_
    exact x_loc [1, 2, 3, 7, 8, 0] rfl h
  have g1_k2 : (¬ v7 = (-4) ∧ ¬ w0 < v4 ∧ w0 = v4 ∧ ¬ v5 = 0) ∨ (¬ v7 = (-4) ∧ ¬ w0 < v4 ∧ w0 = v4 ∧ v5 = 0 ∧ ¬ v7 = v3) → X mM_ofTwo 130 [(8, .int w0), (0, .ref v0), (1, .int v1), (2, .int v2), (3, .int v3), (4, .int v4), (5, .int v5), (6, .int v6), (7, .int v7)] [] M b (QI K) := fun q => by
    have h := g1_2 q
    refine x_iconst (pc := 130) dM_ofTwo_130 (v := 1) rfl ?_
    refine x_goto (pc := 131) dM_ofTwo_131 (t := 135) rfl ?_
    exact x_loc [1, 2, 3, 7, 8, 0] rfl h
  refine x_icmp_eq (pc := 102) dM_ofTwo_102 (t := 144) rfl (fun q1 => ?_) (fun q1 => ?_)
  · exact g1_k0 (Or.inl q1)
  · refine x_iload (pc := 105) dM_ofTwo_105 (q := 0) rfl ?_
    refine x_iload (pc := 107) dM_ofTwo_107 (q := 5) rfl ?_
    refine x_icmp_lt (pc := 109) dM_ofTwo_109 (t := 144) rfl (fun q2 => ?_) (fun q2 => ?_)
    · exact g1_k0 (Or.inr ⟨q1, q2⟩)
    · refine x_iload (pc := 112) dM_ofTwo_112 (q := 0) rfl ?_
      refine x_iload (pc := 114) dM_ofTwo_114 (q := 5) rfl ?_
      refine x_icmp_ne (pc := 116) dM_ofTwo_116 (t := 134) rfl (fun q3 => ?_) (fun q3 => ?_)
      · exact g1_k1 (Or.inl ⟨q1, q2, q3⟩)
      · refine x_iload (pc := 119) dM_ofTwo_119 (q := 6) rfl ?_
        refine x_if_ne (pc := 121) dM_ofTwo_121 (t := 130) rfl (fun q4 => ?_) (fun q4 => ?_)
        · exact g1_k2 (Or.inl ⟨q1, q2, q3, q4⟩)
        · refine x_iload (pc := 124) dM_ofTwo_124 (q := 8) rfl ?_
          refine x_iload_n (pc := 126) dM_ofTwo_126 rfl (q := 4) rfl ?_
          refine x_icmp_eq (pc := 127) dM_ofTwo_127 (t := 134) rfl (fun q5 => ?_) (fun q5 => ?_)
          · exact g1_k1 (Or.inr ⟨q1, q2, q3, q4, q5⟩)
          · exact g1_k2 (Or.inr ⟨q1, q2, q3, q4, q5⟩)

theorem vM_ofTwo_135 {M : Mm} {b : Nat × Nat} {K : Int32 → Mm → Prop} {v0 : Nat} {v1 : Int32} {v2 : Int32} {v6 : Int32} {v7 : Int32} {v8 : Int32} {w0 : Int32}  
    (h : X mM_ofTwo 12 [(0, .ref v0), (1, .int v1), (2, .int v2), (3, .int v7), (4, .int v8), (5, .int w0), (6, .int (v6 + 1))] [] M b (QI K)) : X mM_ofTwo 135 [(0, .ref v0), (1, .int v1), (2, .int v2), (6, .int v6), (7, .int v7), (8, .int v8)] [.int w0] M b (QI K) := by
  refine x_wf (fun hw => ?_)
  refine x_istore (pc := 135) dM_ofTwo_135 (by decide) (L' := [(5, .int w0), (0, .ref v0), (1, .int v1), (2, .int v2), (6, .int v6), (7, .int v7), (8, .int v8)]) rfl ?_
  refine x_iload (pc := 137) dM_ofTwo_137 (q := 5) rfl ?_
  refine x_istore_n (pc := 139) dM_ofTwo_139 rfl (by decide) (L' := [(3, .int v7), (5, .int w0), (0, .ref v0), (1, .int v1), (2, .int v2), (6, .int v6), (7, .int v7), (8, .int v8)]) rfl ?_
  refine x_iload (pc := 140) dM_ofTwo_140 (q := 7) rfl ?_
  refine x_istore (pc := 142) dM_ofTwo_142 (by decide) (L' := [(4, .int v8), (3, .int v7), (5, .int w0), (0, .ref v0), (1, .int v1), (2, .int v2), (6, .int v6), (7, .int v7), (8, .int v8)]) rfl ?_
  refine x_iinc (pc := 144) dM_ofTwo_144 (q := 6) rfl (v := v6 + 1) rfl (by decide) (L' := [(6, .int (v6 + 1)), (4, .int v8), (3, .int v7), (5, .int w0), (0, .ref v0), (1, .int v1), (2, .int v2), (7, .int v7), (8, .int v8)]) rfl ?_
  refine x_goto (pc := 147) dM_ofTwo_147 (t := 12) rfl ?_
  exact x_loc [4, 5, 6, 2, 1, 3, 0] rfl h

theorem dM_clash_0 : decode (mB mM_clash) 0 = .ok (.iload_n 1, 1) := op27 (by decide +kernel)
theorem dM_clash_1 : decode (mB mM_clash) 1 = .ok (.invokestatic 294, 3) := op184 1 38 (by decide +kernel)
theorem dM_clash_4 : decode (mB mM_clash) 4 = .ok (.ifCond .eq 13, 3) := op153 0 13 (by decide +kernel)
theorem dM_clash_7 : decode (mB mM_clash) 7 = .ok (.iload_n 2, 1) := op28 (by decide +kernel)
theorem dM_clash_8 : decode (mB mM_clash) 8 = .ok (.i2l, 1) := op133 (by decide +kernel)
theorem dM_clash_9 : decode (mB mM_clash) 9 = .ok (.lconst 0, 1) := op9 (by decide +kernel)
theorem dM_clash_10 : decode (mB mM_clash) 10 = .ok (.lconst 1, 1) := op10 (by decide +kernel)
theorem dM_clash_11 : decode (mB mM_clash) 11 = .ok (.invokestatic 126, 3) := op184 0 126 (by decide +kernel)
theorem dM_clash_14 : decode (mB mM_clash) 14 = .ok (.ifCond .ne 5, 3) := op154 0 5 (by decide +kernel)
theorem dM_clash_17 : decode (mB mM_clash) 17 = .ok (.iconst (-1), 1) := op2 (by decide +kernel)
theorem dM_clash_18 : decode (mB mM_clash) 18 = .ok (.ireturn, 1) := op172 (by decide +kernel)
theorem dM_clash_19 : decode (mB mM_clash) 19 = .ok (.aload_n 0, 1) := op42 (by decide +kernel)
theorem dM_clash_20 : decode (mB mM_clash) 20 = .ok (.invokevirtual 297, 3) := op182 1 41 (by decide +kernel)
theorem dM_clash_23 : decode (mB mM_clash) 23 = .ok (.iload_n 2, 1) := op28 (by decide +kernel)
theorem dM_clash_24 : decode (mB mM_clash) 24 = .ok (.ifCond .ne 15, 3) := op154 0 15 (by decide +kernel)
theorem dM_clash_27 : decode (mB mM_clash) 27 = .ok (.aload_n 0, 1) := op42 (by decide +kernel)
theorem dM_clash_28 : decode (mB mM_clash) 28 = .ok (.getfield 64, 3) := op180 0 64 (by decide +kernel)
theorem dM_clash_31 : decode (mB mM_clash) 31 = .ok (.iload_n 1, 1) := op27 (by decide +kernel)
theorem dM_clash_32 : decode (mB mM_clash) 32 = .ok (.laload, 1) := op47 (by decide +kernel)
theorem dM_clash_33 : decode (mB mM_clash) 33 = .ok (.invokestatic 300, 3) := op184 1 44 (by decide +kernel)
theorem dM_clash_36 : decode (mB mM_clash) 36 = .ok (.goto 12, 3) := op167 0 12 (by decide +kernel)
theorem dM_clash_39 : decode (mB mM_clash) 39 = .ok (.aload_n 0, 1) := op42 (by decide +kernel)
theorem dM_clash_40 : decode (mB mM_clash) 40 = .ok (.getfield 64, 3) := op180 0 64 (by decide +kernel)
theorem dM_clash_43 : decode (mB mM_clash) 43 = .ok (.iload_n 1, 1) := op27 (by decide +kernel)
theorem dM_clash_44 : decode (mB mM_clash) 44 = .ok (.laload, 1) := op47 (by decide +kernel)
theorem dM_clash_45 : decode (mB mM_clash) 45 = .ok (.invokestatic 304, 3) := op184 1 48 (by decide +kernel)
theorem dM_clash_48 : decode (mB mM_clash) 48 = .ok (.ireturn, 1) := op172 (by decide +kernel)

theorem vM_clash_0 {M : Mm} {b : Nat × Nat} {K : Int32 → Mm → Prop} {v0 : Nat} {v1 : Int32} {v2 : Int32}  
    (h : CI mM_isDoctor [.int v1] M (fun rv N => X mM_clash 4 [(0, .ref v0), (1, .int v1), (2, .int v2)] [.int rv] N b (QI K))) : X mM_clash 0 [(0, .ref v0), (1, .int v1), (2, .int v2)] [] M b (QI K) := by
  refine x_wf (fun hw => ?_)
  refine x_iload_n (pc := 0) dM_clash_0 rfl (q := 1) rfl ?_
  exact x_invS (pc := 1) dM_clash_1 (S := []) (As := [.int v1]) mlM_294 hM_isDoctor rfl ⟨by decide, by decide⟩ ⟨Nat.zero_le _, Nat.zero_le _⟩ rfl (Nat.le_of_ble_eq_true rfl) (aftI (b' := b) ⟨Nat.le_refl _, Nat.le_refl _⟩ (fun rv N h => h) h)

theorem vM_clash_4 {M : Mm} {b : Nat × Nat} {K : Int32 → Mm → Prop} {v0 : Nat} {v1 : Int32} {v2 : Int32} {w0 : Int32}  
    (h : (w0 = 0 → (K (-1) M)) ∧ (¬ w0 = 0 → (CI mM_in [.long ((v2).toInt64), .long 0, .long 1] M (fun rv N => X mM_clash 14 [(0, .ref v0), (1, .int v1), (2, .int v2)] [.int rv] N b (QI K))))) : X mM_clash 4 [(0, .ref v0), (1, .int v1), (2, .int v2)] [.int w0] M b (QI K) := by
  refine x_wf (fun hw => ?_)
  obtain ⟨g1_0, g1_1⟩ := h
  refine x_if_eq (pc := 4) dM_clash_4 (t := 17) rfl (fun q1 => ?_) (fun q1 => ?_)
  · have h := g1_0 q1
    refine x_iconst (pc := 17) dM_clash_17 (v := (-1)) rfl ?_
    exact x_retQI (pc := 18) dM_clash_18 rfl rfl h
  · refine x_iload_n (pc := 7) dM_clash_7 rfl (q := 2) rfl ?_
    refine x_i2l (pc := 8) dM_clash_8 ?_
    refine x_lconst (pc := 9) dM_clash_9 (v := 0) rfl ?_
    refine x_lconst (pc := 10) dM_clash_10 (v := 1) rfl ?_
    have h := g1_1 q1
    exact x_invS (pc := 11) dM_clash_11 (S := []) (As := [.long ((v2).toInt64), .long 0, .long 1]) mlM_126 hM_in rfl ⟨by decide, by decide⟩ ⟨Nat.zero_le _, Nat.zero_le _⟩ rfl (Nat.le_of_ble_eq_true rfl) (aftI (b' := b) ⟨Nat.le_refl _, Nat.le_refl _⟩ (fun rv N h => h) h)

theorem vM_clash_14 {M : Mm} {b : Nat × Nat} {K : Int32 → Mm → Prop} {v0 : Nat} {v1 : Int32} {v2 : Int32} {w0 : Int32} (kv0 : v0 % 64 = 11) 
    (h : (¬ w0 = 0 → (CV mM_findEach [.ref v0] M (fun N => X mM_clash 23 [(0, .ref v0), (1, .int v1), (2, .int v2)] [] N b (QI K)))) ∧ (w0 = 0 → (K (-1) M))) : X mM_clash 14 [(0, .ref v0), (1, .int v1), (2, .int v2)] [.int w0] M b (QI K) := by
  refine x_wf (fun hw => ?_)
  obtain ⟨g1_0, g1_1⟩ := h
  refine x_if_ne (pc := 14) dM_clash_14 (t := 19) rfl (fun q1 => ?_) (fun q1 => ?_)
  · refine x_aload_n (pc := 19) dM_clash_19 rfl (q := 0) rfl ?_
    have h := g1_0 q1
    exact x_invV (pc := 20) dM_clash_20 (c := 11) (S := []) (As := []) mlM_297 hM_findEach rfl (by decide) rfl kv0 ⟨by decide, by decide⟩ ⟨Nat.zero_le _, Nat.zero_le _⟩ rfl (Nat.le_of_ble_eq_true rfl) (aftV (b' := b) ⟨Nat.le_refl _, Nat.le_refl _⟩ (fun N h => h) h)
  · have h := g1_1 q1
    refine x_iconst (pc := 17) dM_clash_17 (v := (-1)) rfl ?_
    exact x_retQI (pc := 18) dM_clash_18 rfl rfl h

theorem vM_clash_23 {M : Mm} {b : Nat × Nat} {K : Int32 → Mm → Prop} {v0 : Nat} {v1 : Int32} {v2 : Int32} {r1 : Nat} (kv0 : v0 % 64 = 11) (e1 : gr M v0 29 = some r1)
    (h : (¬ v2 = 0 → vp_in v1 8) ∧ (v2 = 0 → vp_in v1 8) ∧ (¬ v2 = 0 → (CI mM_firstOf [.long (gl M r1 (v1).toNatClampNeg)] M (fun rv N => X mM_clash 48 [] [.int rv] N b (QI K)))) ∧ (v2 = 0 → (CI mM_manyOf [.long (gl M r1 (v1).toNatClampNeg)] M (fun rv N => X mM_clash 36 [] [.int rv] N b (QI K))))) : X mM_clash 23 [(0, .ref v0), (1, .int v1), (2, .int v2)] [] M b (QI K) := by
  refine x_wf (fun hw => ?_)
  refine x_iload_n (pc := 23) dM_clash_23 rfl (q := 2) rfl ?_
  obtain ⟨s1, s2, g1_0, g1_1⟩ := h
  refine x_if_ne (pc := 24) dM_clash_24 (t := 39) rfl (fun q1 => ?_) (fun q1 => ?_)
  · refine x_aload_n (pc := 39) dM_clash_39 rfl (q := 0) rfl ?_
    refine x_getR (pc := 40) dM_clash_40 kv0 flM_64 rfl e1 ?_
    refine x_iload_n (pc := 43) dM_clash_43 rfl (q := 1) rfl ?_
    refine x_aldLj (pc := 44) (j := (v1).toNatClampNeg) dM_clash_44 (wfk hw e1 kv0) ak_27 rfl (s1 q1) ?_
    have h := g1_0 q1
    exact x_invS (pc := 45) dM_clash_45 (S := []) (As := [.long (gl M r1 (v1).toNatClampNeg)]) mlM_304 hM_firstOf rfl ⟨by decide, by decide⟩ ⟨Nat.zero_le _, Nat.zero_le _⟩ rfl (Nat.le_of_ble_eq_true rfl) (aftI (b' := b) ⟨Nat.le_refl _, Nat.le_refl _⟩ (fun rv N h => x_loc [] rfl h) h)
  · refine x_aload_n (pc := 27) dM_clash_27 rfl (q := 0) rfl ?_
    refine x_getR (pc := 28) dM_clash_28 kv0 flM_64 rfl e1 ?_
    refine x_iload_n (pc := 31) dM_clash_31 rfl (q := 1) rfl ?_
    refine x_aldLj (pc := 32) (j := (v1).toNatClampNeg) dM_clash_32 (wfk hw e1 kv0) ak_27 rfl (s2 q1) ?_
    have h := g1_1 q1
    exact x_invS (pc := 33) dM_clash_33 (S := []) (As := [.long (gl M r1 (v1).toNatClampNeg)]) mlM_300 hM_manyOf rfl ⟨by decide, by decide⟩ ⟨Nat.zero_le _, Nat.zero_le _⟩ rfl (Nat.le_of_ble_eq_true rfl) (aftI (b' := b) ⟨Nat.le_refl _, Nat.le_refl _⟩ (fun rv N h => x_loc [] rfl h) h)

theorem vM_clash_36 {M : Mm} {b : Nat × Nat} {K : Int32 → Mm → Prop} {w0 : Int32}  
    (h : K w0 M) : X mM_clash 36 [] [.int w0] M b (QI K) := by
  refine x_wf (fun hw => ?_)
  refine x_goto (pc := 36) dM_clash_36 (t := 48) rfl ?_
  exact x_retQI (pc := 48) dM_clash_48 rfl rfl h

theorem vM_clash_48 {M : Mm} {b : Nat × Nat} {K : Int32 → Mm → Prop} {w0 : Int32}  
    (h : K w0 M) : X mM_clash 48 [] [.int w0] M b (QI K) := by
  refine x_wf (fun hw => ?_)
  exact x_retQI (pc := 48) dM_clash_48 rfl rfl h

theorem dM_manyOf_0 : decode (mB mM_manyOf) 0 = .ok (.iconst 0, 1) := op3 (by decide +kernel)
theorem dM_manyOf_1 : decode (mB mM_manyOf) 1 = .ok (.istore_n 2, 1) := op61 (by decide +kernel)
theorem dM_manyOf_2 : decode (mB mM_manyOf) 2 = .ok (.iconst 0, 1) := op3 (by decide +kernel)
theorem dM_manyOf_3 : decode (mB mM_manyOf) 3 = .ok (.istore_n 3, 1) := op62 (by decide +kernel)
theorem dM_manyOf_4 : decode (mB mM_manyOf) 4 = .ok (.iload_n 3, 1) := op29 (by decide +kernel)
theorem dM_manyOf_5 : decode (mB mM_manyOf) 5 = .ok (.bipush 64, 2) := op16 64 (by decide +kernel)
theorem dM_manyOf_7 : decode (mB mM_manyOf) 7 = .ok (.if_icmp .ge 18, 3) := op162 0 18 (by decide +kernel)
theorem dM_manyOf_10 : decode (mB mM_manyOf) 10 = .ok (.iload_n 2, 1) := op28 (by decide +kernel)
theorem dM_manyOf_11 : decode (mB mM_manyOf) 11 = .ok (.lload_n 0, 1) := op30 (by decide +kernel)
theorem dM_manyOf_12 : decode (mB mM_manyOf) 12 = .ok (.iload_n 3, 1) := op29 (by decide +kernel)
theorem dM_manyOf_13 : decode (mB mM_manyOf) 13 = .ok (.lshr, 1) := op123 (by decide +kernel)
theorem dM_manyOf_14 : decode (mB mM_manyOf) 14 = .ok (.lconst 1, 1) := op10 (by decide +kernel)
theorem dM_manyOf_15 : decode (mB mM_manyOf) 15 = .ok (.land, 1) := op127 (by decide +kernel)
theorem dM_manyOf_16 : decode (mB mM_manyOf) 16 = .ok (.l2i, 1) := op136 (by decide +kernel)
theorem dM_manyOf_17 : decode (mB mM_manyOf) 17 = .ok (.iadd, 1) := op96 (by decide +kernel)
theorem dM_manyOf_18 : decode (mB mM_manyOf) 18 = .ok (.istore_n 2, 1) := op61 (by decide +kernel)
theorem dM_manyOf_19 : decode (mB mM_manyOf) 19 = .ok (.iinc 3 1, 3) := op132 3 1 (by decide +kernel)
theorem dM_manyOf_22 : decode (mB mM_manyOf) 22 = .ok (.goto (-18), 3) := op167 255 238 (by decide +kernel)
theorem dM_manyOf_25 : decode (mB mM_manyOf) 25 = .ok (.iload_n 2, 1) := op28 (by decide +kernel)
theorem dM_manyOf_26 : decode (mB mM_manyOf) 26 = .ok (.ireturn, 1) := op172 (by decide +kernel)

theorem vM_manyOf_0 {M : Mm} {b : Nat × Nat} {K : Int32 → Mm → Prop} {v0 : Int64}  
    (h : X mM_manyOf 4 [(0, .long v0), (2, .int 0), (3, .int 0)] [] M b (QI K)) : X mM_manyOf 0 [(0, .long v0)] [] M b (QI K) := by
  refine x_wf (fun hw => ?_)
  refine x_iconst (pc := 0) dM_manyOf_0 (v := 0) rfl ?_
  refine x_istore_n (pc := 1) dM_manyOf_1 rfl (by decide) (L' := [(2, .int 0), (0, .long v0)]) rfl ?_
  refine x_iconst (pc := 2) dM_manyOf_2 (v := 0) rfl ?_
  refine x_istore_n (pc := 3) dM_manyOf_3 rfl (by decide) (L' := [(3, .int 0), (2, .int 0), (0, .long v0)]) rfl ?_
  exact x_loc [2, 1, 0] rfl h

theorem vM_manyOf_4 {M : Mm} {b : Nat × Nat} {K : Int32 → Mm → Prop} {v0 : Int64} {v2 : Int32} {v3 : Int32}  
    (h : (64 ≤ v3 → (K v2 M)) ∧ (¬ 64 ≤ v3 → (X mM_manyOf 4 [(0, .long v0), (2, .int (v2 + (((v0 >>> ((v3).toInt64 &&& 63)) &&& 1).toInt32))), (3, .int (v3 + 1))] [] M b (QI K)))) : X mM_manyOf 4 [(0, .long v0), (2, .int v2), (3, .int v3)] [] M b (QI K) := by
  refine x_wf (fun hw => ?_)
  refine x_iload_n (pc := 4) dM_manyOf_4 rfl (q := 2) rfl ?_
  refine x_bipush (pc := 5) dM_manyOf_5 (v := 64) rfl ?_
  obtain ⟨g1_0, g1_1⟩ := h
  refine x_icmp_ge (pc := 7) dM_manyOf_7 (t := 25) rfl (fun q1 => ?_) (fun q1 => ?_)
  · refine x_iload_n (pc := 25) dM_manyOf_25 rfl (q := 1) rfl ?_
    have h := g1_0 q1
    exact x_retQI (pc := 26) dM_manyOf_26 rfl rfl h
  · refine x_iload_n (pc := 10) dM_manyOf_10 rfl (q := 1) rfl ?_
    refine x_lload_n (pc := 11) dM_manyOf_11 rfl (q := 0) rfl ?_
    refine x_iload_n (pc := 12) dM_manyOf_12 rfl (q := 2) rfl ?_
    refine x_lshr (pc := 13) dM_manyOf_13 ?_
    refine x_lconst (pc := 14) dM_manyOf_14 (v := 1) rfl ?_
    refine x_land (pc := 15) dM_manyOf_15 ?_
    refine x_l2i (pc := 16) dM_manyOf_16 ?_
    refine x_iadd (pc := 17) dM_manyOf_17 ?_
    have h := g1_1 q1
    refine x_istore_n (pc := 18) dM_manyOf_18 rfl (by decide) (L' := [(2, .int (v2 + (((v0 >>> ((v3).toInt64 &&& 63)) &&& 1).toInt32))), (0, .long v0), (3, .int v3)]) rfl ?_
    refine x_iinc (pc := 19) dM_manyOf_19 (q := 2) rfl (v := v3 + 1) rfl (by decide) (L' := [(3, .int (v3 + 1)), (2, .int (v2 + (((v0 >>> ((v3).toInt64 &&& 63)) &&& 1).toInt32))), (0, .long v0)]) rfl ?_
    refine x_goto (pc := 22) dM_manyOf_22 (t := 4) rfl ?_
    exact x_loc [2, 1, 0] rfl h

theorem dM_firstOf_0 : decode (mB mM_firstOf) 0 = .ok (.iconst 0, 1) := op3 (by decide +kernel)
theorem dM_firstOf_1 : decode (mB mM_firstOf) 1 = .ok (.istore_n 2, 1) := op61 (by decide +kernel)
theorem dM_firstOf_2 : decode (mB mM_firstOf) 2 = .ok (.iload_n 2, 1) := op28 (by decide +kernel)
theorem dM_firstOf_3 : decode (mB mM_firstOf) 3 = .ok (.bipush 64, 2) := op16 64 (by decide +kernel)
theorem dM_firstOf_5 : decode (mB mM_firstOf) 5 = .ok (.if_icmp .ge 19, 3) := op162 0 19 (by decide +kernel)
theorem dM_firstOf_8 : decode (mB mM_firstOf) 8 = .ok (.lload_n 0, 1) := op30 (by decide +kernel)
theorem dM_firstOf_9 : decode (mB mM_firstOf) 9 = .ok (.iload_n 2, 1) := op28 (by decide +kernel)
theorem dM_firstOf_10 : decode (mB mM_firstOf) 10 = .ok (.lshr, 1) := op123 (by decide +kernel)
theorem dM_firstOf_11 : decode (mB mM_firstOf) 11 = .ok (.lconst 1, 1) := op10 (by decide +kernel)
theorem dM_firstOf_12 : decode (mB mM_firstOf) 12 = .ok (.land, 1) := op127 (by decide +kernel)
theorem dM_firstOf_13 : decode (mB mM_firstOf) 13 = .ok (.lconst 0, 1) := op9 (by decide +kernel)
theorem dM_firstOf_14 : decode (mB mM_firstOf) 14 = .ok (.lcmp, 1) := op148 (by decide +kernel)
theorem dM_firstOf_15 : decode (mB mM_firstOf) 15 = .ok (.ifCond .ne 9, 3) := op154 0 9 (by decide +kernel)
theorem dM_firstOf_18 : decode (mB mM_firstOf) 18 = .ok (.iinc 2 1, 3) := op132 2 1 (by decide +kernel)
theorem dM_firstOf_21 : decode (mB mM_firstOf) 21 = .ok (.goto (-19), 3) := op167 255 237 (by decide +kernel)
theorem dM_firstOf_24 : decode (mB mM_firstOf) 24 = .ok (.iload_n 2, 1) := op28 (by decide +kernel)
theorem dM_firstOf_25 : decode (mB mM_firstOf) 25 = .ok (.bipush 64, 2) := op16 64 (by decide +kernel)
theorem dM_firstOf_27 : decode (mB mM_firstOf) 27 = .ok (.if_icmp .ge 7, 3) := op162 0 7 (by decide +kernel)
theorem dM_firstOf_30 : decode (mB mM_firstOf) 30 = .ok (.iload_n 2, 1) := op28 (by decide +kernel)
theorem dM_firstOf_31 : decode (mB mM_firstOf) 31 = .ok (.goto 5, 3) := op167 0 5 (by decide +kernel)
theorem dM_firstOf_34 : decode (mB mM_firstOf) 34 = .ok (.bipush (-4), 2) := op16 252 (by decide +kernel)
theorem dM_firstOf_36 : decode (mB mM_firstOf) 36 = .ok (.ireturn, 1) := op172 (by decide +kernel)

theorem vM_firstOf_0 {M : Mm} {b : Nat × Nat} {K : Int32 → Mm → Prop} {v0 : Int64}  
    (h : X mM_firstOf 2 [(0, .long v0), (2, .int 0)] [] M b (QI K)) : X mM_firstOf 0 [(0, .long v0)] [] M b (QI K) := by
  refine x_wf (fun hw => ?_)
  refine x_iconst (pc := 0) dM_firstOf_0 (v := 0) rfl ?_
  refine x_istore_n (pc := 1) dM_firstOf_1 rfl (by decide) (L' := [(2, .int 0), (0, .long v0)]) rfl ?_
  exact x_loc [1, 0] rfl h

theorem vM_firstOf_2 {M : Mm} {b : Nat × Nat} {K : Int32 → Mm → Prop} {v0 : Int64} {v2 : Int32}  
    (h : (((64 ≤ v2) ∨ (¬ 64 ≤ v2 ∧ ¬ ((v0 >>> ((v2).toInt64 &&& 63)) &&& 1) = 0)) → (K (if 64 ≤ v2 then (-4) else v2 : Int32) M)) ∧ ((¬ 64 ≤ v2 ∧ ((v0 >>> ((v2).toInt64 &&& 63)) &&& 1) = 0) → (X mM_firstOf 2 [(0, .long v0), (2, .int (v2 + 1))] [] M b (QI K)))) : X mM_firstOf 2 [(0, .long v0), (2, .int v2)] [] M b (QI K) := by
  refine x_wf (fun hw => ?_)
  refine x_iload_n (pc := 2) dM_firstOf_2 rfl (q := 1) rfl ?_
  refine x_bipush (pc := 3) dM_firstOf_3 (v := 64) rfl ?_
  obtain ⟨g1_0, g1_1⟩ := h
  have g1_k0 : (64 ≤ v2) ∨ (¬ 64 ≤ v2 ∧ ¬ ((v0 >>> ((v2).toInt64 &&& 63)) &&& 1) = 0) → X mM_firstOf 24 [(0, .long v0), (2, .int v2)] [] M b (QI K) := fun q => by
    have h := g1_0 q
    refine x_iload_n (pc := 24) dM_firstOf_24 rfl (q := 1) rfl ?_
    refine x_bipush (pc := 25) dM_firstOf_25 (v := 64) rfl ?_
    suffices hJ : X mM_firstOf 36 [(0, .long v0), (2, .int v2)] [.int (if 64 ≤ v2 then (-4) else v2 : Int32)] M b (QI K) by
      refine x_icmp_ge (pc := 27) dM_firstOf_27 (t := 34) rfl (fun q3 => ?_) (fun q3 => ?_)
      · refine x_bipush (pc := 34) dM_firstOf_34 (v := (-4)) rfl ?_
        first | (rw [if_pos q3] at hJ; exact hJ) | (simp only [if_pos q3] at hJ ⊢; exact hJ)
      · refine x_iload_n (pc := 30) dM_firstOf_30 rfl (q := 1) rfl ?_
        refine x_goto (pc := 31) dM_firstOf_31 (t := 36) rfl ?_
        first | (rw [if_neg q3] at hJ; exact hJ) | (simp only [if_neg q3] at hJ ⊢; exact hJ)
    exact x_retQI (pc := 36) dM_firstOf_36 rfl rfl h
  refine x_icmp_ge (pc := 5) dM_firstOf_5 (t := 24) rfl (fun q1 => ?_) (fun q1 => ?_)
  · exact g1_k0 (Or.inl q1)
  · refine x_lload_n (pc := 8) dM_firstOf_8 rfl (q := 0) rfl ?_
    refine x_iload_n (pc := 9) dM_firstOf_9 rfl (q := 1) rfl ?_
    refine x_lshr (pc := 10) dM_firstOf_10 ?_
    refine x_lconst (pc := 11) dM_firstOf_11 (v := 1) rfl ?_
    refine x_land (pc := 12) dM_firstOf_12 ?_
    refine x_lconst (pc := 13) dM_firstOf_13 (v := 0) rfl ?_
    refine x_lc_ne (pc := 14) dM_firstOf_14 dM_firstOf_15 (t := 24) rfl (fun q2 => ?_) (fun q2 => ?_)
    · exact g1_k0 (Or.inr ⟨q1, q2⟩)
    · have h := g1_1 ⟨q1, q2⟩
      refine x_iinc (pc := 18) dM_firstOf_18 (q := 1) rfl (v := v2 + 1) rfl (by decide) (L' := [(2, .int (v2 + 1)), (0, .long v0)]) rfl ?_
      refine x_goto (pc := 21) dM_firstOf_21 (t := 2) rfl ?_
      exact x_loc [1, 0] rfl h

