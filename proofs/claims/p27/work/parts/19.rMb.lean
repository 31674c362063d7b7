theorem dM_look_0 : decode (mB mM_look) 0 = .ok (.iload_n 1, 1) := op27 (by decide +kernel)
theorem dM_look_1 : decode (mB mM_look) 1 = .ok (.aload_n 0, 1) := op42 (by decide +kernel)
theorem dM_look_2 : decode (mB mM_look) 2 = .ok (.getfield 121, 3) := op180 0 121 (by decide +kernel)
theorem dM_look_5 : decode (mB mM_look) 5 = .ok (.if_icmp .ge 12, 3) := op162 0 12 (by decide +kernel)
theorem dM_look_8 : decode (mB mM_look) 8 = .ok (.aload_n 0, 1) := op42 (by decide +kernel)
theorem dM_look_9 : decode (mB mM_look) 9 = .ok (.getfield 33, 3) := op180 0 33 (by decide +kernel)
theorem dM_look_12 : decode (mB mM_look) 12 = .ok (.iload_n 1, 1) := op27 (by decide +kernel)
theorem dM_look_13 : decode (mB mM_look) 13 = .ok (.iaload, 1) := op46 (by decide +kernel)
theorem dM_look_14 : decode (mB mM_look) 14 = .ok (.goto 4, 3) := op167 0 4 (by decide +kernel)
theorem dM_look_17 : decode (mB mM_look) 17 = .ok (.iconst (-1), 1) := op2 (by decide +kernel)
theorem dM_look_18 : decode (mB mM_look) 18 = .ok (.ireturn, 1) := op172 (by decide +kernel)

theorem vM_look_0 {M : Mm} {b : Nat × Nat} {K : Int32 → Mm → Prop} {v0 : Nat} {v1 : Int32} {r1 : Nat} (kv0 : v0 % 64 = 11) (e1 : gr M v0 10 = some r1)
    (h : (¬ (gi M v0 11) ≤ v1 → vp_in v1 400) ∧ (K (if (gi M v0 11) ≤ v1 then (-1) else (gi M r1 (v1).toNatClampNeg) : Int32) M)) : X mM_look 0 [(0, .ref v0), (1, .int v1)] [] M b (QI K) := by
  refine x_wf (fun hw => ?_)
  refine x_iload_n (pc := 0) dM_look_0 rfl (q := 1) rfl ?_
  refine x_aload_n (pc := 1) dM_look_1 rfl (q := 0) rfl ?_
  refine x_getI (pc := 2) dM_look_2 kv0 flM_121 rfl ?_
  obtain ⟨s1, h⟩ := h
  suffices hJ : X mM_look 18 [(0, .ref v0), (1, .int v1)] [.int (if (gi M v0 11) ≤ v1 then (-1) else (gi M r1 (v1).toNatClampNeg) : Int32)] M b (QI K) by
    refine x_icmp_ge (pc := 5) dM_look_5 (t := 17) rfl (fun q1 => ?_) (fun q1 => ?_)
    · refine x_iconst (pc := 17) dM_look_17 (v := (-1)) rfl ?_
      first | (rw [if_pos q1] at hJ; exact hJ) | (simp only [if_pos q1] at hJ ⊢; exact hJ)
    · refine x_aload_n (pc := 8) dM_look_8 rfl (q := 0) rfl ?_
      refine x_getR (pc := 9) dM_look_9 kv0 flM_33 rfl e1 ?_
      refine x_iload_n (pc := 12) dM_look_12 rfl (q := 1) rfl ?_
      refine x_aldIj (pc := 13) (j := (v1).toNatClampNeg) (Or.inl ⟨rfl, rfl⟩) dM_look_13 (wfk hw e1 kv0) ak_22 rfl (s1 q1) ?_
      refine x_goto (pc := 14) dM_look_14 (t := 18) rfl ?_
      first | (rw [if_neg q1] at hJ; exact hJ) | (simp only [if_neg q1] at hJ ⊢; exact hJ)
  exact x_retQI (pc := 18) dM_look_18 rfl rfl h

theorem dM_wants_0 : decode (mB mM_wants) 0 = .ok (.iload_n 1, 1) := op27 (by decide +kernel)
theorem dM_wants_1 : decode (mB mM_wants) 1 = .ok (.ifCond .ne 23, 3) := op154 0 23 (by decide +kernel)
theorem dM_wants_4 : decode (mB mM_wants) 4 = .ok (.aload_n 0, 1) := op42 (by decide +kernel)
theorem dM_wants_5 : decode (mB mM_wants) 5 = .ok (.getfield 130, 3) := op180 0 130 (by decide +kernel)
theorem dM_wants_8 : decode (mB mM_wants) 8 = .ok (.ifCond .ne 16, 3) := op154 0 16 (by decide +kernel)
theorem dM_wants_11 : decode (mB mM_wants) 11 = .ok (.aload_n 0, 1) := op42 (by decide +kernel)
theorem dM_wants_12 : decode (mB mM_wants) 12 = .ok (.iload_n 2, 1) := op28 (by decide +kernel)
theorem dM_wants_13 : decode (mB mM_wants) 13 = .ok (.putfield 130, 3) := op181 0 130 (by decide +kernel)
theorem dM_wants_16 : decode (mB mM_wants) 16 = .ok (.aload_n 0, 1) := op42 (by decide +kernel)
theorem dM_wants_17 : decode (mB mM_wants) 17 = .ok (.aload_n 0, 1) := op42 (by decide +kernel)
theorem dM_wants_18 : decode (mB mM_wants) 18 = .ok (.getfield 133, 3) := op180 0 133 (by decide +kernel)
theorem dM_wants_21 : decode (mB mM_wants) 21 = .ok (.putfield 136, 3) := op181 0 136 (by decide +kernel)
theorem dM_wants_24 : decode (mB mM_wants) 24 = .ok (.return_, 1) := op177 (by decide +kernel)

theorem vM_wants_0 {M : Mm} {b : Nat × Nat} {K : Mm → Prop} {v0 : Nat} {v1 : Int32} {v2 : Int32} (kv0 : v0 % 64 = 11) 
    (h : (((¬ v1 = 0) ∨ (v1 = 0 ∧ ¬ (gi M v0 16) = 0)) → (K M)) ∧ ((v1 = 0 ∧ (gi M v0 16) = 0) → (K (si (si M v0 16 v2) v0 17 (gi (si M v0 16 v2) v0 13))))) : X mM_wants 0 [(0, .ref v0), (1, .int v1), (2, .int v2)] [] M b (QV K) := by
  refine x_wf (fun hw => ?_)
  refine x_iload_n (pc := 0) dM_wants_0 rfl (q := 1) rfl ?_
  obtain ⟨g1_0, g1_1⟩ := h
  have g1_k0 : (¬ v1 = 0) ∨ (v1 = 0 ∧ ¬ (gi M v0 16) = 0) → X mM_wants 24 [(0, .ref v0), (1, .int v1), (2, .int v2)] [] M b (QV K) := fun q => by
    have h := g1_0 q
    exact x_retQV (pc := 24) dM_wants_24 rfl h
  refine x_if_ne (pc := 1) dM_wants_1 (t := 24) rfl (fun q1 => ?_) (fun q1 => ?_)
  · exact g1_k0 (Or.inl q1)
  · refine x_aload_n (pc := 4) dM_wants_4 rfl (q := 0) rfl ?_
    refine x_getI (pc := 5) dM_wants_5 kv0 flM_130 rfl ?_
    refine x_if_ne (pc := 8) dM_wants_8 (t := 24) rfl (fun q2 => ?_) (fun q2 => ?_)
    · exact g1_k0 (Or.inr ⟨q1, q2⟩)
    · refine x_aload_n (pc := 11) dM_wants_11 rfl (q := 0) rfl ?_
      refine x_iload_n (pc := 12) dM_wants_12 rfl (q := 2) rfl ?_
      have h := g1_1 ⟨q1, q2⟩
      refine x_putI (pc := 13) dM_wants_13 kv0 flM_130 rfl rfl ?_
      refine x_aload_n (pc := 16) dM_wants_16 rfl (q := 0) rfl ?_
      refine x_aload_n (pc := 17) dM_wants_17 rfl (q := 0) rfl ?_
      refine x_getI (pc := 18) dM_wants_18 kv0 flM_133 rfl ?_
      refine x_putI (pc := 21) dM_wants_21 kv0 flM_136 rfl rfl ?_
      exact x_retQV (pc := 24) dM_wants_24 rfl h

theorem dM_readLine_0 : decode (mB mM_readLine) 0 = .ok (.aload_n 0, 1) := op42 (by decide +kernel)
theorem dM_readLine_1 : decode (mB mM_readLine) 1 = .ok (.getfield 158, 3) := op180 0 158 (by decide +kernel)
theorem dM_readLine_4 : decode (mB mM_readLine) 4 = .ok (.iconst 1, 1) := op4 (by decide +kernel)
theorem dM_readLine_5 : decode (mB mM_readLine) 5 = .ok (.if_icmp .ne 10, 3) := op160 0 10 (by decide +kernel)
theorem dM_readLine_8 : decode (mB mM_readLine) 8 = .ok (.aload_n 0, 1) := op42 (by decide +kernel)
theorem dM_readLine_9 : decode (mB mM_readLine) 9 = .ok (.invokevirtual 189, 3) := op182 0 189 (by decide +kernel)
theorem dM_readLine_12 : decode (mB mM_readLine) 12 = .ok (.goto 5, 3) := op167 0 5 (by decide +kernel)
theorem dM_readLine_15 : decode (mB mM_readLine) 15 = .ok (.bipush (-4), 2) := op16 252 (by decide +kernel)
theorem dM_readLine_17 : decode (mB mM_readLine) 17 = .ok (.istore_n 1, 1) := op60 (by decide +kernel)
theorem dM_readLine_18 : decode (mB mM_readLine) 18 = .ok (.aload_n 0, 1) := op42 (by decide +kernel)
theorem dM_readLine_19 : decode (mB mM_readLine) 19 = .ok (.iload_n 1, 1) := op27 (by decide +kernel)
theorem dM_readLine_20 : decode (mB mM_readLine) 20 = .ok (.i2l, 1) := op133 (by decide +kernel)
theorem dM_readLine_21 : decode (mB mM_readLine) 21 = .ok (.lconst 0, 1) := op9 (by decide +kernel)
theorem dM_readLine_22 : decode (mB mM_readLine) 22 = .ok (.ldc2_w 206, 3) := op20 0 206 (by decide +kernel)
theorem dM_readLine_25 : decode (mB mM_readLine) 25 = .ok (.invokestatic 126, 3) := op184 0 126 (by decide +kernel)
theorem dM_readLine_28 : decode (mB mM_readLine) 28 = .ok (.ifCond .ne 15, 3) := op154 0 15 (by decide +kernel)
theorem dM_readLine_31 : decode (mB mM_readLine) 31 = .ok (.iload_n 1, 1) := op27 (by decide +kernel)
theorem dM_readLine_32 : decode (mB mM_readLine) 32 = .ok (.bipush 10, 2) := op16 10 (by decide +kernel)
theorem dM_readLine_34 : decode (mB mM_readLine) 34 = .ok (.if_icmp .eq 9, 3) := op159 0 9 (by decide +kernel)
theorem dM_readLine_37 : decode (mB mM_readLine) 37 = .ok (.iload_n 1, 1) := op27 (by decide +kernel)
theorem dM_readLine_38 : decode (mB mM_readLine) 38 = .ok (.bipush 11, 2) := op16 11 (by decide +kernel)
theorem dM_readLine_40 : decode (mB mM_readLine) 40 = .ok (.if_icmp .ne 7, 3) := op160 0 7 (by decide +kernel)
theorem dM_readLine_43 : decode (mB mM_readLine) 43 = .ok (.iconst 1, 1) := op4 (by decide +kernel)
theorem dM_readLine_44 : decode (mB mM_readLine) 44 = .ok (.goto 4, 3) := op167 0 4 (by decide +kernel)
theorem dM_readLine_47 : decode (mB mM_readLine) 47 = .ok (.iconst 0, 1) := op3 (by decide +kernel)
theorem dM_readLine_48 : decode (mB mM_readLine) 48 = .ok (.iconst 2, 1) := op5 (by decide +kernel)
theorem dM_readLine_49 : decode (mB mM_readLine) 49 = .ok (.invokevirtual 172, 3) := op182 0 172 (by decide +kernel)
theorem dM_readLine_52 : decode (mB mM_readLine) 52 = .ok (.aload_n 0, 1) := op42 (by decide +kernel)
theorem dM_readLine_53 : decode (mB mM_readLine) 53 = .ok (.iload_n 1, 1) := op27 (by decide +kernel)
theorem dM_readLine_54 : decode (mB mM_readLine) 54 = .ok (.iconst 5, 1) := op8 (by decide +kernel)
theorem dM_readLine_55 : decode (mB mM_readLine) 55 = .ok (.if_icmp .gt 12, 3) := op163 0 12 (by decide +kernel)
theorem dM_readLine_58 : decode (mB mM_readLine) 58 = .ok (.aload_n 0, 1) := op42 (by decide +kernel)
theorem dM_readLine_59 : decode (mB mM_readLine) 59 = .ok (.getfield 106, 3) := op180 0 106 (by decide +kernel)
theorem dM_readLine_62 : decode (mB mM_readLine) 62 = .ok (.bipush 24, 2) := op16 24 (by decide +kernel)
theorem dM_readLine_64 : decode (mB mM_readLine) 64 = .ok (.if_icmp .ge 7, 3) := op162 0 7 (by decide +kernel)
theorem dM_readLine_67 : decode (mB mM_readLine) 67 = .ok (.iconst 1, 1) := op4 (by decide +kernel)
theorem dM_readLine_68 : decode (mB mM_readLine) 68 = .ok (.goto 4, 3) := op167 0 4 (by decide +kernel)
theorem dM_readLine_71 : decode (mB mM_readLine) 71 = .ok (.iconst 0, 1) := op3 (by decide +kernel)
theorem dM_readLine_72 : decode (mB mM_readLine) 72 = .ok (.iconst 5, 1) := op8 (by decide +kernel)
theorem dM_readLine_73 : decode (mB mM_readLine) 73 = .ok (.invokevirtual 172, 3) := op182 0 172 (by decide +kernel)
theorem dM_readLine_76 : decode (mB mM_readLine) 76 = .ok (.aload_n 0, 1) := op42 (by decide +kernel)
theorem dM_readLine_77 : decode (mB mM_readLine) 77 = .ok (.invokevirtual 180, 3) := op182 0 180 (by decide +kernel)
theorem dM_readLine_80 : decode (mB mM_readLine) 80 = .ok (.iload_n 1, 1) := op27 (by decide +kernel)
theorem dM_readLine_81 : decode (mB mM_readLine) 81 = .ok (.bipush 10, 2) := op16 10 (by decide +kernel)
theorem dM_readLine_83 : decode (mB mM_readLine) 83 = .ok (.if_icmp .ne 17, 3) := op160 0 17 (by decide +kernel)
theorem dM_readLine_86 : decode (mB mM_readLine) 86 = .ok (.aload_n 0, 1) := op42 (by decide +kernel)
theorem dM_readLine_87 : decode (mB mM_readLine) 87 = .ok (.aload_n 0, 1) := op42 (by decide +kernel)
theorem dM_readLine_88 : decode (mB mM_readLine) 88 = .ok (.iconst 0, 1) := op3 (by decide +kernel)
theorem dM_readLine_89 : decode (mB mM_readLine) 89 = .ok (.bipush 7, 2) := op16 7 (by decide +kernel)
theorem dM_readLine_91 : decode (mB mM_readLine) 91 = .ok (.invokevirtual 192, 3) := op182 0 192 (by decide +kernel)
theorem dM_readLine_94 : decode (mB mM_readLine) 94 = .ok (.putfield 109, 3) := op181 0 109 (by decide +kernel)
theorem dM_readLine_97 : decode (mB mM_readLine) 97 = .ok (.goto 21, 3) := op167 0 21 (by decide +kernel)
theorem dM_readLine_100 : decode (mB mM_readLine) 100 = .ok (.iload_n 1, 1) := op27 (by decide +kernel)
theorem dM_readLine_101 : decode (mB mM_readLine) 101 = .ok (.bipush 11, 2) := op16 11 (by decide +kernel)
theorem dM_readLine_103 : decode (mB mM_readLine) 103 = .ok (.if_icmp .ne 10, 3) := op160 0 10 (by decide +kernel)
theorem dM_readLine_106 : decode (mB mM_readLine) 106 = .ok (.aload_n 0, 1) := op42 (by decide +kernel)
theorem dM_readLine_107 : decode (mB mM_readLine) 107 = .ok (.invokevirtual 208, 3) := op182 0 208 (by decide +kernel)
theorem dM_readLine_110 : decode (mB mM_readLine) 110 = .ok (.goto 8, 3) := op167 0 8 (by decide +kernel)
theorem dM_readLine_113 : decode (mB mM_readLine) 113 = .ok (.aload_n 0, 1) := op42 (by decide +kernel)
theorem dM_readLine_114 : decode (mB mM_readLine) 114 = .ok (.iload_n 1, 1) := op27 (by decide +kernel)
theorem dM_readLine_115 : decode (mB mM_readLine) 115 = .ok (.invokevirtual 211, 3) := op182 0 211 (by decide +kernel)
theorem dM_readLine_118 : decode (mB mM_readLine) 118 = .ok (.aload_n 0, 1) := op42 (by decide +kernel)
theorem dM_readLine_119 : decode (mB mM_readLine) 119 = .ok (.invokevirtual 215, 3) := op182 0 215 (by decide +kernel)
theorem dM_readLine_122 : decode (mB mM_readLine) 122 = .ok (.return_, 1) := op177 (by decide +kernel)

theorem vM_readLine_0 {M : Mm} {b : Nat × Nat} {K : Mm → Prop} {v0 : Nat} (kv0 : v0 % 64 = 11) 
    (h : (¬ (gi M v0 14) = 1 → (X mM_readLine 17 [(0, .ref v0)] [.int (-4)] M b (QV K))) ∧ ((gi M v0 14) = 1 → (CI mM_nameNow [.ref v0] M (fun rv N => X mM_readLine 12 [(0, .ref v0)] [.int rv] N b (QV K))))) : X mM_readLine 0 [(0, .ref v0)] [] M b (QV K) := by
  refine x_wf (fun hw => ?_)
  refine x_aload_n (pc := 0) dM_readLine_0 rfl (q := 0) rfl ?_
  refine x_getI (pc := 1) dM_readLine_1 kv0 flM_158 rfl ?_
  refine x_iconst (pc := 4) dM_readLine_4 (v := 1) rfl ?_
  obtain ⟨g1_0, g1_1⟩ := h
  refine x_icmp_ne (pc := 5) dM_readLine_5 (t := 15) rfl (fun q1 => ?_) (fun q1 => ?_)
  · refine x_bipush (pc := 15) dM_readLine_15 (v := (-4)) rfl ?_
    have h := g1_0 q1
    exact h
  · refine x_aload_n (pc := 8) dM_readLine_8 rfl (q := 0) rfl ?_
    have h := g1_1 q1
    exact x_invV (pc := 9) dM_readLine_9 (c := 11) (S := []) (As := []) mlM_189 hM_nameNow rfl (by decide) rfl kv0 ⟨by decide, by decide⟩ ⟨Nat.zero_le _, Nat.zero_le _⟩ rfl (Nat.le_of_ble_eq_true rfl) (aftI (b' := b) ⟨Nat.le_refl _, Nat.le_refl _⟩ (fun rv N h => h) h)

theorem vM_readLine_12 {M : Mm} {b : Nat × Nat} {K : Mm → Prop} {v0 : Nat} {w0 : Int32}  
    (h : X mM_readLine 17 [(0, .ref v0)] [.int w0] M b (QV K)) : X mM_readLine 12 [(0, .ref v0)] [.int w0] M b (QV K) := by
  refine x_wf (fun hw => ?_)
  refine x_goto (pc := 12) dM_readLine_12 (t := 17) rfl ?_
  exact h

theorem vM_readLine_17 {M : Mm} {b : Nat × Nat} {K : Mm → Prop} {v0 : Nat} {w0 : Int32}  
    (h : CI mM_in [.long ((w0).toInt64), .long 0, .long 5] M (fun rv N => X mM_readLine 28 [(0, .ref v0), (1, .int w0)] [.int rv, .ref v0] N b (QV K))) : X mM_readLine 17 [(0, .ref v0)] [.int w0] M b (QV K) := by
  refine x_wf (fun hw => ?_)
  refine x_istore_n (pc := 17) dM_readLine_17 rfl (by decide) (L' := [(1, .int w0), (0, .ref v0)]) rfl ?_
  refine x_aload_n (pc := 18) dM_readLine_18 rfl (q := 1) rfl ?_
  refine x_iload_n (pc := 19) dM_readLine_19 rfl (q := 0) rfl ?_
  refine x_i2l (pc := 20) dM_readLine_20 ?_
  refine x_lconst (pc := 21) dM_readLine_21 (v := 0) rfl ?_
  refine x_ldc2 (pc := 22) dM_readLine_22 klM_206 ?_
  exact x_invS (pc := 25) dM_readLine_25 (S := [.ref v0]) (As := [.long ((w0).toInt64), .long 0, .long 5]) mlM_126 hM_in rfl ⟨by decide, by decide⟩ ⟨Nat.zero_le _, Nat.zero_le _⟩ rfl (Nat.le_of_ble_eq_true rfl) (aftI (b' := b) ⟨Nat.le_refl _, Nat.le_refl _⟩ (fun rv N h => x_loc [1, 0] rfl h) h)

theorem vM_readLine_28 {M : Mm} {b : Nat × Nat} {K : Mm → Prop} {v0 : Nat} {v1 : Int32} {w0 : Int32} {w1 : Nat}  
    (h : (((¬ w0 = 0) ∨ (w0 = 0 ∧ v1 = 10) ∨ (w0 = 0 ∧ ¬ v1 = 10 ∧ v1 = 11)) → (X mM_readLine 48 [(0, .ref v0), (1, .int v1)] [.int 1, .ref w1] M b (QV K))) ∧ ((w0 = 0 ∧ ¬ v1 = 10 ∧ ¬ v1 = 11) → (X mM_readLine 48 [(0, .ref v0), (1, .int v1)] [.int 0, .ref w1] M b (QV K)))) : X mM_readLine 28 [(0, .ref v0), (1, .int v1)] [.int w0, .ref w1] M b (QV K) := by
  refine x_wf (fun hw => ?_)
  obtain ⟨g1_0, g1_1⟩ := h
  have g1_k0 : (¬ w0 = 0) ∨ (w0 = 0 ∧ v1 = 10) ∨ (w0 = 0 ∧ ¬ v1 = 10 ∧ v1 = 11) → X mM_readLine 43 [(0, .ref v0), (1, .int v1)] [.ref w1] M b (QV K) := fun q => by
    have h := g1_0 q
    refine x_iconst (pc := 43) dM_readLine_43 (v := 1) rfl ?_
    refine x_goto (pc := 44) dM_readLine_44 (t := 48) rfl ?_
    exact h
  refine x_if_ne (pc := 28) dM_readLine_28 (t := 43) rfl (fun q1 => ?_) (fun q1 => ?_)
  · exact g1_k0 (Or.inl q1)
  · refine x_iload_n (pc := 31) dM_readLine_31 rfl (q := 1) rfl ?_
    refine x_bipush (pc := 32) dM_readLine_32 (v := 10) rfl ?_
    refine x_icmp_eq (pc := 34) dM_readLine_34 (t := 43) rfl (fun q2 => ?_) (fun q2 => ?_)
    · exact g1_k0 (Or.inr (Or.inl ⟨q1, q2⟩))
    · refine x_iload_n (pc := 37) dM_readLine_37 rfl (q := 1) rfl ?_
      refine x_bipush (pc := 38) dM_readLine_38 (v := 11) rfl ?_
      refine x_icmp_ne (pc := 40) dM_readLine_40 (t := 47) rfl (fun q3 => ?_) (fun q3 => ?_)
      · refine x_iconst (pc := 47) dM_readLine_47 (v := 0) rfl ?_
        have h := g1_1 ⟨q1, q2, q3⟩
        exact h
      · exact g1_k0 (Or.inr (Or.inr ⟨q1, q2, q3⟩))

theorem vM_readLine_48 {M : Mm} {b : Nat × Nat} {K : Mm → Prop} {v0 : Nat} {v1 : Int32} {w0 : Int32} {w1 : Nat} (kw1 : w1 % 64 = 11) 
    (h : CV mM_wants [.ref w1, .int w0, .int 2] M (fun N => X mM_readLine 52 [(0, .ref v0), (1, .int v1)] [] N b (QV K))) : X mM_readLine 48 [(0, .ref v0), (1, .int v1)] [.int w0, .ref w1] M b (QV K) := by
  refine x_wf (fun hw => ?_)
  refine x_iconst (pc := 48) dM_readLine_48 (v := 2) rfl ?_
  exact x_invV (pc := 49) dM_readLine_49 (c := 11) (S := []) (As := [.int w0, .int 2]) mlM_172 hM_wants rfl (by decide) rfl kw1 ⟨by decide, by decide⟩ ⟨Nat.zero_le _, Nat.zero_le _⟩ rfl (Nat.le_of_ble_eq_true rfl) (aftV (b' := b) ⟨Nat.le_refl _, Nat.le_refl _⟩ (fun N h => h) h)

theorem vM_readLine_52 {M : Mm} {b : Nat × Nat} {K : Mm → Prop} {v0 : Nat} {v1 : Int32} (kv0 : v0 % 64 = 11) 
    (h : (((5 < v1) ∨ (¬ 5 < v1 ∧ ¬ 24 ≤ (gi M v0 3))) → (X mM_readLine 72 [(0, .ref v0), (1, .int v1)] [.int 1, .ref v0] M b (QV K))) ∧ ((¬ 5 < v1 ∧ 24 ≤ (gi M v0 3)) → (X mM_readLine 72 [(0, .ref v0), (1, .int v1)] [.int 0, .ref v0] M b (QV K)))) : X mM_readLine 52 [(0, .ref v0), (1, .int v1)] [] M b (QV K) := by
  refine x_wf (fun hw => ?_)
  refine x_aload_n (pc := 52) dM_readLine_52 rfl (q := 0) rfl ?_
  refine x_iload_n (pc := 53) dM_readLine_53 rfl (q := 1) rfl ?_
  refine x_iconst (pc := 54) dM_readLine_54 (v := 5) rfl ?_
  obtain ⟨g1_0, g1_1⟩ := h
  have g1_k0 : (5 < v1) ∨ (¬ 5 < v1 ∧ ¬ 24 ≤ (gi M v0 3)) → X mM_readLine 67 [(0, .ref v0), (1, .int v1)] [.ref v0] M b (QV K) := fun q => by
    have h := g1_0 q
    refine x_iconst (pc := 67) dM_readLine_67 (v := 1) rfl ?_
    refine x_goto (pc := 68) dM_readLine_68 (t := 72) rfl ?_
    exact h
  refine x_icmp_gt (pc := 55) dM_readLine_55 (t := 67) rfl (fun q1 => ?_) (fun q1 => ?_)
  · exact g1_k0 (Or.inl q1)
  · refine x_aload_n (pc := 58) dM_readLine_58 rfl (q := 0) rfl ?_
    refine x_getI (pc := 59) dM_readLine_59 kv0 flM_106 rfl ?_
    refine x_bipush (pc := 62) dM_readLine_62 (v := 24) rfl ?_
    refine x_icmp_ge (pc := 64) dM_readLine_64 (t := 71) rfl (fun q2 => ?_) (fun q2 => ?_)
    · refine x_iconst (pc := 71) dM_readLine_71 (v := 0) rfl ?_
      have h := g1_1 ⟨q1, q2⟩
      exact h
    · exact g1_k0 (Or.inr ⟨q1, q2⟩)

theorem vM_readLine_72 {M : Mm} {b : Nat × Nat} {K : Mm → Prop} {v0 : Nat} {v1 : Int32} {w0 : Int32} {w1 : Nat} (kw1 : w1 % 64 = 11) 
    (h : CV mM_wants [.ref w1, .int w0, .int 5] M (fun N => X mM_readLine 76 [(0, .ref v0), (1, .int v1)] [] N b (QV K))) : X mM_readLine 72 [(0, .ref v0), (1, .int v1)] [.int w0, .ref w1] M b (QV K) := by
  refine x_wf (fun hw => ?_)
  refine x_iconst (pc := 72) dM_readLine_72 (v := 5) rfl ?_
  exact x_invV (pc := 73) dM_readLine_73 (c := 11) (S := []) (As := [.int w0, .int 5]) mlM_172 hM_wants rfl (by decide) rfl kw1 ⟨by decide, by decide⟩ ⟨Nat.zero_le _, Nat.zero_le _⟩ rfl (Nat.le_of_ble_eq_true rfl) (aftV (b' := b) ⟨Nat.le_refl _, Nat.le_refl _⟩ (fun N h => h) h)

theorem vM_readLine_76 {M : Mm} {b : Nat × Nat} {K : Mm → Prop} {v0 : Nat} {v1 : Int32} (kv0 : v0 % 64 = 11) 
    (h : CV mM_next [.ref v0] M (fun N => X mM_readLine 80 [(0, .ref v0), (1, .int v1)] [] N b (QV K))) : X mM_readLine 76 [(0, .ref v0), (1, .int v1)] [] M b (QV K) := by
  refine x_wf (fun hw => ?_)
  refine x_aload_n (pc := 76) dM_readLine_76 rfl (q := 0) rfl ?_
  exact x_invV (pc := 77) dM_readLine_77 (c := 11) (S := []) (As := []) mlM_180 hM_next rfl (by decide) rfl kv0 ⟨by decide, by decide⟩ ⟨Nat.zero_le _, Nat.zero_le _⟩ rfl (Nat.le_of_ble_eq_true rfl) (aftV (b' := b) ⟨Nat.le_refl _, Nat.le_refl _⟩ (fun N h => h) h)

theorem vM_readLine_80 {M : Mm} {b : Nat × Nat} {K : Mm → Prop} {v0 : Nat} {v1 : Int32} (kv0 : v0 % 64 = 11) 
    (h : ((¬ v1 = 10 ∧ ¬ v1 = 11) → (CV mM_readWord [.ref v0, .int v1] M (fun N => X mM_readLine 118 [(0, .ref v0)] [] N b (QV K)))) ∧ ((¬ v1 = 10 ∧ v1 = 11) → (CV mM_readCopies [.ref v0] M (fun N => X mM_readLine 110 [(0, .ref v0)] [] N b (QV K)))) ∧ (v1 = 10 → (CI mM_readNumber [.ref v0, .int 0, .int 7] M (fun rv N => X mM_readLine 94 [(0, .ref v0)] [.int rv, .ref v0] N b (QV K))))) : X mM_readLine 80 [(0, .ref v0), (1, .int v1)] [] M b (QV K) := by
  refine x_wf (fun hw => ?_)
  refine x_iload_n (pc := 80) dM_readLine_80 rfl (q := 1) rfl ?_
  refine x_bipush (pc := 81) dM_readLine_81 (v := 10) rfl ?_
  obtain ⟨g1_0, g1_1, g1_2⟩ := h
  refine x_icmp_ne (pc := 83) dM_readLine_83 (t := 100) rfl (fun q1 => ?_) (fun q1 => ?_)
  · refine x_iload_n (pc := 100) dM_readLine_100 rfl (q := 1) rfl ?_
    refine x_bipush (pc := 101) dM_readLine_101 (v := 11) rfl ?_
    refine x_icmp_ne (pc := 103) dM_readLine_103 (t := 113) rfl (fun q2 => ?_) (fun q2 => ?_)
    · refine x_aload_n (pc := 113) dM_readLine_113 rfl (q := 0) rfl ?_
      refine x_iload_n (pc := 114) dM_readLine_114 rfl (q := 1) rfl ?_
      have h := g1_0 ⟨q1, q2⟩
      exact x_invV (pc := 115) dM_readLine_115 (c := 11) (S := []) (As := [.int v1]) mlM_211 hM_readWord rfl (by decide) rfl kv0 ⟨by decide, by decide⟩ ⟨Nat.zero_le _, Nat.zero_le _⟩ rfl (Nat.le_of_ble_eq_true rfl) (aftV (b' := b) ⟨Nat.le_refl _, Nat.le_refl _⟩ (fun N h => x_loc [0] rfl h) h)
    · refine x_aload_n (pc := 106) dM_readLine_106 rfl (q := 0) rfl ?_
      have h := g1_1 ⟨q1, q2⟩
      exact x_invV (pc := 107) dM_readLine_107 (c := 11) (S := []) (As := []) mlM_208 hM_readCopies rfl (by decide) rfl kv0 ⟨by decide, by decide⟩ ⟨Nat.zero_le _, Nat.zero_le _⟩ rfl (Nat.le_of_ble_eq_true rfl) (aftV (b' := b) ⟨Nat.le_refl _, Nat.le_refl _⟩ (fun N h => x_loc [0] rfl h) h)
  · refine x_aload_n (pc := 86) dM_readLine_86 rfl (q := 0) rfl ?_
    refine x_aload_n (pc := 87) dM_readLine_87 rfl (q := 0) rfl ?_
    refine x_iconst (pc := 88) dM_readLine_88 (v := 0) rfl ?_
    refine x_bipush (pc := 89) dM_readLine_89 (v := 7) rfl ?_
    have h := g1_2 q1
    exact x_invV (pc := 91) dM_readLine_91 (c := 11) (S := [.ref v0]) (As := [.int 0, .int 7]) mlM_192 hM_readNumber rfl (by decide) rfl kv0 ⟨by decide, by decide⟩ ⟨Nat.zero_le _, Nat.zero_le _⟩ rfl (Nat.le_of_ble_eq_true rfl) (aftI (b' := b) ⟨Nat.le_refl _, Nat.le_refl _⟩ (fun rv N h => x_loc [0] rfl h) h)

theorem vM_readLine_94 {M : Mm} {b : Nat × Nat} {K : Mm → Prop} {v0 : Nat} {w0 : Int32} {w1 : Nat} (kw1 : w1 % 64 = 11) 
    (h : X mM_readLine 118 [(0, .ref v0)] [] (si M w1 8 w0) b (QV K)) : X mM_readLine 94 [(0, .ref v0)] [.int w0, .ref w1] M b (QV K) := by
  refine x_wf (fun hw => ?_)
  refine x_putI (pc := 94) dM_readLine_94 kw1 flM_109 rfl rfl ?_
  refine x_goto (pc := 97) dM_readLine_97 (t := 118) rfl ?_
  exact h

theorem vM_readLine_110 {M : Mm} {b : Nat × Nat} {K : Mm → Prop} {v0 : Nat}  
    (h : X mM_readLine 118 [(0, .ref v0)] [] M b (QV K)) : X mM_readLine 110 [(0, .ref v0)] [] M b (QV K) := by
  refine x_wf (fun hw => ?_)
  refine x_goto (pc := 110) dM_readLine_110 (t := 118) rfl ?_
  exact h

theorem vM_readLine_118 {M : Mm} {b : Nat × Nat} {K : Mm → Prop} {v0 : Nat} (kv0 : v0 % 64 = 11) 
    (h : CV mM_endLine [.ref v0] M (fun N => X mM_readLine 122 [] [] N b (QV K))) : X mM_readLine 118 [(0, .ref v0)] [] M b (QV K) := by
  refine x_wf (fun hw => ?_)
  refine x_aload_n (pc := 118) dM_readLine_118 rfl (q := 0) rfl ?_
  exact x_invV (pc := 119) dM_readLine_119 (c := 11) (S := []) (As := []) mlM_215 hM_endLine rfl (by decide) rfl kv0 ⟨by decide, by decide⟩ ⟨Nat.zero_le _, Nat.zero_le _⟩ rfl (Nat.le_of_ble_eq_true rfl) (aftV (b' := b) ⟨Nat.le_refl _, Nat.le_refl _⟩ (fun N h => x_loc [] rfl h) h)

theorem vM_readLine_122 {M : Mm} {b : Nat × Nat} {K : Mm → Prop}   
    (h : K M) : X mM_readLine 122 [] [] M b (QV K) := by
  refine x_wf (fun hw => ?_)
  exact x_retQV (pc := 122) dM_readLine_122 rfl h

theorem dM_nameNow_0 : decode (mB mM_nameNow) 0 = .ok (.aload_n 0, 1) := op42 (by decide +kernel)
theorem dM_nameNow_1 : decode (mB mM_nameNow) 1 = .ok (.iconst 4, 1) := op7 (by decide +kernel)
theorem dM_nameNow_2 : decode (mB mM_nameNow) 2 = .ok (.bipush 119, 2) := op16 119 (by decide +kernel)
theorem dM_nameNow_4 : decode (mB mM_nameNow) 4 = .ok (.bipush 111, 2) := op16 111 (by decide +kernel)
theorem dM_nameNow_6 : decode (mB mM_nameNow) 6 = .ok (.bipush 114, 2) := op16 114 (by decide +kernel)
theorem dM_nameNow_8 : decode (mB mM_nameNow) 8 = .ok (.bipush 100, 2) := op16 100 (by decide +kernel)
theorem dM_nameNow_10 : decode (mB mM_nameNow) 10 = .ok (.invokevirtual 146, 3) := op182 0 146 (by decide +kernel)
theorem dM_nameNow_13 : decode (mB mM_nameNow) 13 = .ok (.ifCond .eq 5, 3) := op153 0 5 (by decide +kernel)
theorem dM_nameNow_16 : decode (mB mM_nameNow) 16 = .ok (.iconst 0, 1) := op3 (by decide +kernel)
theorem dM_nameNow_17 : decode (mB mM_nameNow) 17 = .ok (.ireturn, 1) := op172 (by decide +kernel)
theorem dM_nameNow_18 : decode (mB mM_nameNow) 18 = .ok (.aload_n 0, 1) := op42 (by decide +kernel)
theorem dM_nameNow_19 : decode (mB mM_nameNow) 19 = .ok (.iconst 4, 1) := op7 (by decide +kernel)
theorem dM_nameNow_20 : decode (mB mM_nameNow) 20 = .ok (.bipush 99, 2) := op16 99 (by decide +kernel)
theorem dM_nameNow_22 : decode (mB mM_nameNow) 22 = .ok (.bipush 105, 2) := op16 105 (by decide +kernel)
theorem dM_nameNow_24 : decode (mB mM_nameNow) 24 = .ok (.bipush 116, 2) := op16 116 (by decide +kernel)
theorem dM_nameNow_26 : decode (mB mM_nameNow) 26 = .ok (.bipush 101, 2) := op16 101 (by decide +kernel)
theorem dM_nameNow_28 : decode (mB mM_nameNow) 28 = .ok (.invokevirtual 146, 3) := op182 0 146 (by decide +kernel)
theorem dM_nameNow_31 : decode (mB mM_nameNow) 31 = .ok (.ifCond .eq 5, 3) := op153 0 5 (by decide +kernel)
theorem dM_nameNow_34 : decode (mB mM_nameNow) 34 = .ok (.iconst 1, 1) := op4 (by decide +kernel)
theorem dM_nameNow_35 : decode (mB mM_nameNow) 35 = .ok (.ireturn, 1) := op172 (by decide +kernel)
theorem dM_nameNow_36 : decode (mB mM_nameNow) 36 = .ok (.aload_n 0, 1) := op42 (by decide +kernel)
theorem dM_nameNow_37 : decode (mB mM_nameNow) 37 = .ok (.bipush 7, 2) := op16 7 (by decide +kernel)
theorem dM_nameNow_39 : decode (mB mM_nameNow) 39 = .ok (.bipush 97, 2) := op16 97 (by decide +kernel)
theorem dM_nameNow_41 : decode (mB mM_nameNow) 41 = .ok (.bipush 103, 2) := op16 103 (by decide +kernel)
theorem dM_nameNow_43 : decode (mB mM_nameNow) 43 = .ok (.bipush 97, 2) := op16 97 (by decide +kernel)
theorem dM_nameNow_45 : decode (mB mM_nameNow) 45 = .ok (.bipush 105, 2) := op16 105 (by decide +kernel)
theorem dM_nameNow_47 : decode (mB mM_nameNow) 47 = .ok (.invokevirtual 146, 3) := op182 0 146 (by decide +kernel)
theorem dM_nameNow_50 : decode (mB mM_nameNow) 50 = .ok (.ifCond .eq 19, 3) := op153 0 19 (by decide +kernel)
theorem dM_nameNow_53 : decode (mB mM_nameNow) 53 = .ok (.aload_n 0, 1) := op42 (by decide +kernel)
theorem dM_nameNow_54 : decode (mB mM_nameNow) 54 = .ok (.iconst 4, 1) := op7 (by decide +kernel)
theorem dM_nameNow_55 : decode (mB mM_nameNow) 55 = .ok (.bipush 110, 2) := op16 110 (by decide +kernel)
theorem dM_nameNow_57 : decode (mB mM_nameNow) 57 = .ok (.bipush 115, 2) := op16 115 (by decide +kernel)
theorem dM_nameNow_59 : decode (mB mM_nameNow) 59 = .ok (.bipush 116, 2) := op16 116 (by decide +kernel)
theorem dM_nameNow_61 : decode (mB mM_nameNow) 61 = .ok (.invokevirtual 150, 3) := op182 0 150 (by decide +kernel)
theorem dM_nameNow_64 : decode (mB mM_nameNow) 64 = .ok (.ifCond .eq 5, 3) := op153 0 5 (by decide +kernel)
theorem dM_nameNow_67 : decode (mB mM_nameNow) 67 = .ok (.iconst 2, 1) := op5 (by decide +kernel)
theorem dM_nameNow_68 : decode (mB mM_nameNow) 68 = .ok (.ireturn, 1) := op172 (by decide +kernel)
theorem dM_nameNow_69 : decode (mB mM_nameNow) 69 = .ok (.aload_n 0, 1) := op42 (by decide +kernel)
theorem dM_nameNow_70 : decode (mB mM_nameNow) 70 = .ok (.iconst 4, 1) := op7 (by decide +kernel)
theorem dM_nameNow_71 : decode (mB mM_nameNow) 71 = .ok (.bipush 110, 2) := op16 110 (by decide +kernel)
theorem dM_nameNow_73 : decode (mB mM_nameNow) 73 = .ok (.bipush 111, 2) := op16 111 (by decide +kernel)
theorem dM_nameNow_75 : decode (mB mM_nameNow) 75 = .ok (.bipush 116, 2) := op16 116 (by decide +kernel)
theorem dM_nameNow_77 : decode (mB mM_nameNow) 77 = .ok (.bipush 101, 2) := op16 101 (by decide +kernel)
theorem dM_nameNow_79 : decode (mB mM_nameNow) 79 = .ok (.invokevirtual 146, 3) := op182 0 146 (by decide +kernel)
theorem dM_nameNow_82 : decode (mB mM_nameNow) 82 = .ok (.ifCond .eq 5, 3) := op153 0 5 (by decide +kernel)
theorem dM_nameNow_85 : decode (mB mM_nameNow) 85 = .ok (.iconst 3, 1) := op6 (by decide +kernel)
theorem dM_nameNow_86 : decode (mB mM_nameNow) 86 = .ok (.ireturn, 1) := op172 (by decide +kernel)
theorem dM_nameNow_87 : decode (mB mM_nameNow) 87 = .ok (.aload_n 0, 1) := op42 (by decide +kernel)
theorem dM_nameNow_88 : decode (mB mM_nameNow) 88 = .ok (.iconst 4, 1) := op7 (by decide +kernel)
theorem dM_nameNow_89 : decode (mB mM_nameNow) 89 = .ok (.bipush 108, 2) := op16 108 (by decide +kernel)
theorem dM_nameNow_91 : decode (mB mM_nameNow) 91 = .ok (.bipush 105, 2) := op16 105 (by decide +kernel)
theorem dM_nameNow_93 : decode (mB mM_nameNow) 93 = .ok (.bipush 107, 2) := op16 107 (by decide +kernel)
theorem dM_nameNow_95 : decode (mB mM_nameNow) 95 = .ok (.bipush 101, 2) := op16 101 (by decide +kernel)
theorem dM_nameNow_97 : decode (mB mM_nameNow) 97 = .ok (.invokevirtual 146, 3) := op182 0 146 (by decide +kernel)
theorem dM_nameNow_100 : decode (mB mM_nameNow) 100 = .ok (.ifCond .eq 5, 3) := op153 0 5 (by decide +kernel)
theorem dM_nameNow_103 : decode (mB mM_nameNow) 103 = .ok (.iconst 4, 1) := op7 (by decide +kernel)
theorem dM_nameNow_104 : decode (mB mM_nameNow) 104 = .ok (.ireturn, 1) := op172 (by decide +kernel)
theorem dM_nameNow_105 : decode (mB mM_nameNow) 105 = .ok (.aload_n 0, 1) := op42 (by decide +kernel)
theorem dM_nameNow_106 : decode (mB mM_nameNow) 106 = .ok (.iconst 3, 1) := op6 (by decide +kernel)
theorem dM_nameNow_107 : decode (mB mM_nameNow) 107 = .ok (.bipush 108, 2) := op16 108 (by decide +kernel)
theorem dM_nameNow_109 : decode (mB mM_nameNow) 109 = .ok (.bipush 97, 2) := op16 97 (by decide +kernel)
theorem dM_nameNow_111 : decode (mB mM_nameNow) 111 = .ok (.bipush 119, 2) := op16 119 (by decide +kernel)
theorem dM_nameNow_113 : decode (mB mM_nameNow) 113 = .ok (.iconst 0, 1) := op3 (by decide +kernel)
theorem dM_nameNow_114 : decode (mB mM_nameNow) 114 = .ok (.invokevirtual 146, 3) := op182 0 146 (by decide +kernel)
theorem dM_nameNow_117 : decode (mB mM_nameNow) 117 = .ok (.ifCond .eq 5, 3) := op153 0 5 (by decide +kernel)
theorem dM_nameNow_120 : decode (mB mM_nameNow) 120 = .ok (.iconst 5, 1) := op8 (by decide +kernel)
theorem dM_nameNow_121 : decode (mB mM_nameNow) 121 = .ok (.ireturn, 1) := op172 (by decide +kernel)
theorem dM_nameNow_122 : decode (mB mM_nameNow) 122 = .ok (.aload_n 0, 1) := op42 (by decide +kernel)
theorem dM_nameNow_123 : decode (mB mM_nameNow) 123 = .ok (.iconst 2, 1) := op5 (by decide +kernel)
theorem dM_nameNow_124 : decode (mB mM_nameNow) 124 = .ok (.bipush 105, 2) := op16 105 (by decide +kernel)
theorem dM_nameNow_126 : decode (mB mM_nameNow) 126 = .ok (.bipush 110, 2) := op16 110 (by decide +kernel)
theorem dM_nameNow_128 : decode (mB mM_nameNow) 128 = .ok (.iconst 0, 1) := op3 (by decide +kernel)
theorem dM_nameNow_129 : decode (mB mM_nameNow) 129 = .ok (.iconst 0, 1) := op3 (by decide +kernel)
theorem dM_nameNow_130 : decode (mB mM_nameNow) 130 = .ok (.invokevirtual 146, 3) := op182 0 146 (by decide +kernel)
theorem dM_nameNow_133 : decode (mB mM_nameNow) 133 = .ok (.ifCond .eq 6, 3) := op153 0 6 (by decide +kernel)
theorem dM_nameNow_136 : decode (mB mM_nameNow) 136 = .ok (.bipush 10, 2) := op16 10 (by decide +kernel)
theorem dM_nameNow_138 : decode (mB mM_nameNow) 138 = .ok (.ireturn, 1) := op172 (by decide +kernel)
theorem dM_nameNow_139 : decode (mB mM_nameNow) 139 = .ok (.aload_n 0, 1) := op42 (by decide +kernel)
theorem dM_nameNow_140 : decode (mB mM_nameNow) 140 = .ok (.bipush 6, 2) := op16 6 (by decide +kernel)
theorem dM_nameNow_142 : decode (mB mM_nameNow) 142 = .ok (.bipush 99, 2) := op16 99 (by decide +kernel)
theorem dM_nameNow_144 : decode (mB mM_nameNow) 144 = .ok (.bipush 111, 2) := op16 111 (by decide +kernel)
theorem dM_nameNow_146 : decode (mB mM_nameNow) 146 = .ok (.bipush 112, 2) := op16 112 (by decide +kernel)
theorem dM_nameNow_148 : decode (mB mM_nameNow) 148 = .ok (.bipush 105, 2) := op16 105 (by decide +kernel)
theorem dM_nameNow_150 : decode (mB mM_nameNow) 150 = .ok (.invokevirtual 146, 3) := op182 0 146 (by decide +kernel)
theorem dM_nameNow_153 : decode (mB mM_nameNow) 153 = .ok (.ifCond .eq 21, 3) := op153 0 21 (by decide +kernel)
theorem dM_nameNow_156 : decode (mB mM_nameNow) 156 = .ok (.aload_n 0, 1) := op42 (by decide +kernel)
theorem dM_nameNow_157 : decode (mB mM_nameNow) 157 = .ok (.iconst 4, 1) := op7 (by decide +kernel)
theorem dM_nameNow_158 : decode (mB mM_nameNow) 158 = .ok (.bipush 101, 2) := op16 101 (by decide +kernel)
theorem dM_nameNow_160 : decode (mB mM_nameNow) 160 = .ok (.bipush 115, 2) := op16 115 (by decide +kernel)
theorem dM_nameNow_162 : decode (mB mM_nameNow) 162 = .ok (.iconst 0, 1) := op3 (by decide +kernel)
theorem dM_nameNow_163 : decode (mB mM_nameNow) 163 = .ok (.invokevirtual 150, 3) := op182 0 150 (by decide +kernel)
theorem dM_nameNow_166 : decode (mB mM_nameNow) 166 = .ok (.ifCond .eq 8, 3) := op153 0 8 (by decide +kernel)
theorem dM_nameNow_169 : decode (mB mM_nameNow) 169 = .ok (.bipush 11, 2) := op16 11 (by decide +kernel)
theorem dM_nameNow_171 : decode (mB mM_nameNow) 171 = .ok (.goto 7, 3) := op167 0 7 (by decide +kernel)
theorem dM_nameNow_174 : decode (mB mM_nameNow) 174 = .ok (.aload_n 0, 1) := op42 (by decide +kernel)
theorem dM_nameNow_175 : decode (mB mM_nameNow) 175 = .ok (.invokevirtual 154, 3) := op182 0 154 (by decide +kernel)
theorem dM_nameNow_178 : decode (mB mM_nameNow) 178 = .ok (.ireturn, 1) := op172 (by decide +kernel)

theorem vM_nameNow_0 {M : Mm} {b : Nat × Nat} {K : Int32 → Mm → Prop} {v0 : Nat} (kv0 : v0 % 64 = 11) 
    (h : CI mM_is [.ref v0, .int 4, .int 119, .int 111, .int 114, .int 100] M (fun rv N => X mM_nameNow 13 [(0, .ref v0)] [.int rv] N b (QI K))) : X mM_nameNow 0 [(0, .ref v0)] [] M b (QI K) := by
  refine x_wf (fun hw => ?_)
  refine x_aload_n (pc := 0) dM_nameNow_0 rfl (q := 0) rfl ?_
  refine x_iconst (pc := 1) dM_nameNow_1 (v := 4) rfl ?_
  refine x_bipush (pc := 2) dM_nameNow_2 (v := 119) rfl ?_
  refine x_bipush (pc := 4) dM_nameNow_4 (v := 111) rfl ?_
  refine x_bipush (pc := 6) dM_nameNow_6 (v := 114) rfl ?_
  refine x_bipush (pc := 8) dM_nameNow_8 (v := 100) rfl ?_
  exact x_invV (pc := 10) dM_nameNow_10 (c := 11) (S := []) (As := [.int 4, .int 119, .int 111, .int 114, .int 100]) mlM_146 hM_is rfl (by decide) rfl kv0 ⟨by decide, by decide⟩ ⟨Nat.zero_le _, Nat.zero_le _⟩ rfl (Nat.le_of_ble_eq_true rfl) (aftI (b' := b) ⟨Nat.le_refl _, Nat.le_refl _⟩ (fun rv N h => h) h)

theorem vM_nameNow_13 {M : Mm} {b : Nat × Nat} {K : Int32 → Mm → Prop} {v0 : Nat} {w0 : Int32} (kv0 : v0 % 64 = 11) 
    (h : (w0 = 0 → (CI mM_is [.ref v0, .int 4, .int 99, .int 105, .int 116, .int 101] M (fun rv N => X mM_nameNow 31 [(0, .ref v0)] [.int rv] N b (QI K)))) ∧ (¬ w0 = 0 → (K 0 M))) : X mM_nameNow 13 [(0, .ref v0)] [.int w0] M b (QI K) := by
  refine x_wf (fun hw => ?_)
  obtain ⟨g1_0, g1_1⟩ := h
  refine x_if_eq (pc := 13) dM_nameNow_13 (t := 18) rfl (fun q1 => ?_) (fun q1 => ?_)
  · refine x_aload_n (pc := 18) dM_nameNow_18 rfl (q := 0) rfl ?_
    refine x_iconst (pc := 19) dM_nameNow_19 (v := 4) rfl ?_
    refine x_bipush (pc := 20) dM_nameNow_20 (v := 99) rfl ?_
    refine x_bipush (pc := 22) dM_nameNow_22 (v := 105) rfl ?_
    refine x_bipush (pc := 24) dM_nameNow_24 (v := 116) rfl ?_
    refine x_bipush (pc := 26) dM_nameNow_26 (v := 101) rfl ?_
    have h := g1_0 q1
    exact x_invV (pc := 28) dM_nameNow_28 (c := 11) (S := []) (As := [.int 4, .int 99, .int 105, .int 116, .int 101]) mlM_146 hM_is rfl (by decide) rfl kv0 ⟨by decide, by decide⟩ ⟨Nat.zero_le _, Nat.zero_le _⟩ rfl (Nat.le_of_ble_eq_true rfl) (aftI (b' := b) ⟨Nat.le_refl _, Nat.le_refl _⟩ (fun rv N h => h) h)
  · refine x_iconst (pc := 16) dM_nameNow_16 (v := 0) rfl ?_
    have h := g1_1 q1
    exact x_retQI (pc := 17) dM_nameNow_17 rfl rfl h

theorem vM_nameNow_31 {M : Mm} {b : Nat × Nat} {K : Int32 → Mm → Prop} {v0 : Nat} {w0 : Int32} (kv0 : v0 % 64 = 11) 
    (h : (w0 = 0 → (CI mM_is [.ref v0, .int 7, .int 97, .int 103, .int 97, .int 105] M (fun rv N => X mM_nameNow 50 [(0, .ref v0)] [.int rv] N b (QI K)))) ∧ (¬ w0 = 0 → (K 1 M))) : X mM_nameNow 31 [(0, .ref v0)] [.int w0] M b (QI K) := by
  refine x_wf (fun hw => ?_)
  obtain ⟨g1_0, g1_1⟩ := h
  refine x_if_eq (pc := 31) dM_nameNow_31 (t := 36) rfl (fun q1 => ?_) (fun q1 => ?_)
  · refine x_aload_n (pc := 36) dM_nameNow_36 rfl (q := 0) rfl ?_
    refine x_bipush (pc := 37) dM_nameNow_37 (v := 7) rfl ?_
    refine x_bipush (pc := 39) dM_nameNow_39 (v := 97) rfl ?_
    refine x_bipush (pc := 41) dM_nameNow_41 (v := 103) rfl ?_
    refine x_bipush (pc := 43) dM_nameNow_43 (v := 97) rfl ?_
    refine x_bipush (pc := 45) dM_nameNow_45 (v := 105) rfl ?_
    have h := g1_0 q1
    exact x_invV (pc := 47) dM_nameNow_47 (c := 11) (S := []) (As := [.int 7, .int 97, .int 103, .int 97, .int 105]) mlM_146 hM_is rfl (by decide) rfl kv0 ⟨by decide, by decide⟩ ⟨Nat.zero_le _, Nat.zero_le _⟩ rfl (Nat.le_of_ble_eq_true rfl) (aftI (b' := b) ⟨Nat.le_refl _, Nat.le_refl _⟩ (fun rv N h => h) h)
  · refine x_iconst (pc := 34) dM_nameNow_34 (v := 1) rfl ?_
    have h := g1_1 q1
    exact x_retQI (pc := 35) dM_nameNow_35 rfl rfl h

theorem vM_nameNow_50 {M : Mm} {b : Nat × Nat} {K : Int32 → Mm → Prop} {v0 : Nat} {w0 : Int32} (kv0 : v0 % 64 = 11) 
    (h : (w0 = 0 → (X mM_nameNow 69 [(0, .ref v0)] [] M b (QI K))) ∧ (¬ w0 = 0 → (CI mM_goesOn [.ref v0, .int 4, .int 110, .int 115, .int 116] M (fun rv N => X mM_nameNow 64 [(0, .ref v0)] [.int rv] N b (QI K))))) : X mM_nameNow 50 [(0, .ref v0)] [.int w0] M b (QI K) := by
  refine x_wf (fun hw => ?_)
  obtain ⟨g1_0, g1_1⟩ := h
  refine x_if_eq (pc := 50) dM_nameNow_50 (t := 69) rfl (fun q1 => ?_) (fun q1 => ?_)
  · have h := g1_0 q1
    exact h
  · refine x_aload_n (pc := 53) dM_nameNow_53 rfl (q := 0) rfl ?_
    refine x_iconst (pc := 54) dM_nameNow_54 (v := 4) rfl ?_
    refine x_bipush (pc := 55) dM_nameNow_55 (v := 110) rfl ?_
    refine x_bipush (pc := 57) dM_nameNow_57 (v := 115) rfl ?_
    refine x_bipush (pc := 59) dM_nameNow_59 (v := 116) rfl ?_
    have h := g1_1 q1
    exact x_invV (pc := 61) dM_nameNow_61 (c := 11) (S := []) (As := [.int 4, .int 110, .int 115, .int 116]) mlM_150 hM_goesOn rfl (by decide) rfl kv0 ⟨by decide, by decide⟩ ⟨Nat.zero_le _, Nat.zero_le _⟩ rfl (Nat.le_of_ble_eq_true rfl) (aftI (b' := b) ⟨Nat.le_refl _, Nat.le_refl _⟩ (fun rv N h => h) h)

theorem vM_nameNow_64 {M : Mm} {b : Nat × Nat} {K : Int32 → Mm → Prop} {v0 : Nat} {w0 : Int32}  
    (h : (w0 = 0 → (X mM_nameNow 69 [(0, .ref v0)] [] M b (QI K))) ∧ (¬ w0 = 0 → (K 2 M))) : X mM_nameNow 64 [(0, .ref v0)] [.int w0] M b (QI K) := by
  refine x_wf (fun hw => ?_)
  obtain ⟨g1_0, g1_1⟩ := h
  refine x_if_eq (pc := 64) dM_nameNow_64 (t := 69) rfl (fun q1 => ?_) (fun q1 => ?_)
  · have h := g1_0 q1
    exact h
  · refine x_iconst (pc := 67) dM_nameNow_67 (v := 2) rfl ?_
    have h := g1_1 q1
    exact x_retQI (pc := 68) dM_nameNow_68 rfl rfl h

theorem vM_nameNow_69 {M : Mm} {b : Nat × Nat} {K : Int32 → Mm → Prop} {v0 : Nat} (kv0 : v0 % 64 = 11) 
    (h : CI mM_is [.ref v0, .int 4, .int 110, .int 111, .int 116, .int 101] M (fun rv N => X mM_nameNow 82 [(0, .ref v0)] [.int rv] N b (QI K))) : X mM_nameNow 69 [(0, .ref v0)] [] M b (QI K) := by
  refine x_wf (fun hw => ?_)
  refine x_aload_n (pc := 69) dM_nameNow_69 rfl (q := 0) rfl ?_
  refine x_iconst (pc := 70) dM_nameNow_70 (v := 4) rfl ?_
  refine x_bipush (pc := 71) dM_nameNow_71 (v := 110) rfl ?_
  refine x_bipush (pc := 73) dM_nameNow_73 (v := 111) rfl ?_
  refine x_bipush (pc := 75) dM_nameNow_75 (v := 116) rfl ?_
  refine x_bipush (pc := 77) dM_nameNow_77 (v := 101) rfl ?_
  exact x_invV (pc := 79) dM_nameNow_79 (c := 11) (S := []) (As := [.int 4, .int 110, .int 111, .int 116, .int 101]) mlM_146 hM_is rfl (by decide) rfl kv0 ⟨by decide, by decide⟩ ⟨Nat.zero_le _, Nat.zero_le _⟩ rfl (Nat.le_of_ble_eq_true rfl) (aftI (b' := b) ⟨Nat.le_refl _, Nat.le_refl _⟩ (fun rv N h => h) h)

theorem vM_nameNow_82 {M : Mm} {b : Nat × Nat} {K : Int32 → Mm → Prop} {v0 : Nat} {w0 : Int32} (kv0 : v0 % 64 = 11) 
    (h : (w0 = 0 → (CI mM_is [.ref v0, .int 4, .int 108, .int 105, .int 107, .int 101] M (fun rv N => X mM_nameNow 100 [(0, .ref v0)] [.int rv] N b (QI K)))) ∧ (¬ w0 = 0 → (K 3 M))) : X mM_nameNow 82 [(0, .ref v0)] [.int w0] M b (QI K) := by
  refine x_wf (fun hw => ?_)
  obtain ⟨g1_0, g1_1⟩ := h
  refine x_if_eq (pc := 82) dM_nameNow_82 (t := 87) rfl (fun q1 => ?_) (fun q1 => ?_)
  · refine x_aload_n (pc := 87) dM_nameNow_87 rfl (q := 0) rfl ?_
    refine x_iconst (pc := 88) dM_nameNow_88 (v := 4) rfl ?_
    refine x_bipush (pc := 89) dM_nameNow_89 (v := 108) rfl ?_
    refine x_bipush (pc := 91) dM_nameNow_91 (v := 105) rfl ?_
    refine x_bipush (pc := 93) dM_nameNow_93 (v := 107) rfl ?_
    refine x_bipush (pc := 95) dM_nameNow_95 (v := 101) rfl ?_
    have h := g1_0 q1
    exact x_invV (pc := 97) dM_nameNow_97 (c := 11) (S := []) (As := [.int 4, .int 108, .int 105, .int 107, .int 101]) mlM_146 hM_is rfl (by decide) rfl kv0 ⟨by decide, by decide⟩ ⟨Nat.zero_le _, Nat.zero_le _⟩ rfl (Nat.le_of_ble_eq_true rfl) (aftI (b' := b) ⟨Nat.le_refl _, Nat.le_refl _⟩ (fun rv N h => h) h)
  · refine x_iconst (pc := 85) dM_nameNow_85 (v := 3) rfl ?_
    have h := g1_1 q1
    exact x_retQI (pc := 86) dM_nameNow_86 rfl rfl h

theorem vM_nameNow_100 {M : Mm} {b : Nat × Nat} {K : Int32 → Mm → Prop} {v0 : Nat} {w0 : Int32} (kv0 : v0 % 64 = 11) 
    (h : (w0 = 0 → (CI mM_is [.ref v0, .int 3, .int 108, .int 97, .int 119, .int 0] M (fun rv N => X mM_nameNow 117 [(0, .ref v0)] [.int rv] N b (QI K)))) ∧ (¬ w0 = 0 → (K 4 M))) : X mM_nameNow 100 [(0, .ref v0)] [.int w0] M b (QI K) := by
  refine x_wf (fun hw => ?_)
  obtain ⟨g1_0, g1_1⟩ := h
  refine x_if_eq (pc := 100) dM_nameNow_100 (t := 105) rfl (fun q1 => ?_) (fun q1 => ?_)
  · refine x_aload_n (pc := 105) dM_nameNow_105 rfl (q := 0) rfl ?_
    refine x_iconst (pc := 106) dM_nameNow_106 (v := 3) rfl ?_
    refine x_bipush (pc := 107) dM_nameNow_107 (v := 108) rfl ?_
    refine x_bipush (pc := 109) dM_nameNow_109 (v := 97) rfl ?_
    refine x_bipush (pc := 111) dM_nameNow_111 (v := 119) rfl ?_
    refine x_iconst (pc := 113) dM_nameNow_113 (v := 0) rfl ?_
    have h := g1_0 q1
    exact x_invV (pc := 114) dM_nameNow_114 (c := 11) (S := []) (As := [.int 3, .int 108, .int 97, .int 119, .int 0]) mlM_146 hM_is rfl (by decide) rfl kv0 ⟨by decide, by decide⟩ ⟨Nat.zero_le _, Nat.zero_le _⟩ rfl (Nat.le_of_ble_eq_true rfl) (aftI (b' := b) ⟨Nat.le_refl _, Nat.le_refl _⟩ (fun rv N h => h) h)
  · refine x_iconst (pc := 103) dM_nameNow_103 (v := 4) rfl ?_
    have h := g1_1 q1
    exact x_retQI (pc := 104) dM_nameNow_104 rfl rfl h

theorem vM_nameNow_117 {M : Mm} {b : Nat × Nat} {K : Int32 → Mm → Prop} {v0 : Nat} {w0 : Int32} (kv0 : v0 % 64 = 11) 
    (h : (w0 = 0 → (CI mM_is [.ref v0, .int 2, .int 105, .int 110, .int 0, .int 0] M (fun rv N => X mM_nameNow 133 [(0, .ref v0)] [.int rv] N b (QI K)))) ∧ (¬ w0 = 0 → (K 5 M))) : X mM_nameNow 117 [(0, .ref v0)] [.int w0] M b (QI K) := by
  refine x_wf (fun hw => ?_)
  obtain ⟨g1_0, g1_1⟩ := h
  refine x_if_eq (pc := 117) dM_nameNow_117 (t := 122) rfl (fun q1 => ?_) (fun q1 => ?_)
  · refine x_aload_n (pc := 122) dM_nameNow_122 rfl (q := 0) rfl ?_
    refine x_iconst (pc := 123) dM_nameNow_123 (v := 2) rfl ?_
    refine x_bipush (pc := 124) dM_nameNow_124 (v := 105) rfl ?_
    refine x_bipush (pc := 126) dM_nameNow_126 (v := 110) rfl ?_
    refine x_iconst (pc := 128) dM_nameNow_128 (v := 0) rfl ?_
    refine x_iconst (pc := 129) dM_nameNow_129 (v := 0) rfl ?_
    have h := g1_0 q1
    exact x_invV (pc := 130) dM_nameNow_130 (c := 11) (S := []) (As := [.int 2, .int 105, .int 110, .int 0, .int 0]) mlM_146 hM_is rfl (by decide) rfl kv0 ⟨by decide, by decide⟩ ⟨Nat.zero_le _, Nat.zero_le _⟩ rfl (Nat.le_of_ble_eq_true rfl) (aftI (b' := b) ⟨Nat.le_refl _, Nat.le_refl _⟩ (fun rv N h => h) h)
  · refine x_iconst (pc := 120) dM_nameNow_120 (v := 5) rfl ?_
    have h := g1_1 q1
    exact x_retQI (pc := 121) dM_nameNow_121 rfl rfl h

theorem vM_nameNow_133 {M : Mm} {b : Nat × Nat} {K : Int32 → Mm → Prop} {v0 : Nat} {w0 : Int32} (kv0 : v0 % 64 = 11) 
    (h : (w0 = 0 → (CI mM_is [.ref v0, .int 6, .int 99, .int 111, .int 112, .int 105] M (fun rv N => X mM_nameNow 153 [(0, .ref v0)] [.int rv] N b (QI K)))) ∧ (¬ w0 = 0 → (K 10 M))) : X mM_nameNow 133 [(0, .ref v0)] [.int w0] M b (QI K) := by
  refine x_wf (fun hw => ?_)
  obtain ⟨g1_0, g1_1⟩ := h
  refine x_if_eq (pc := 133) dM_nameNow_133 (t := 139) rfl (fun q1 => ?_) (fun q1 => ?_)
  · refine x_aload_n (pc := 139) dM_nameNow_139 rfl (q := 0) rfl ?_
    refine x_bipush (pc := 140) dM_nameNow_140 (v := 6) rfl ?_
    refine x_bipush (pc := 142) dM_nameNow_142 (v := 99) rfl ?_
    refine x_bipush (pc := 144) dM_nameNow_144 (v := 111) rfl ?_
    refine x_bipush (pc := 146) dM_nameNow_146 (v := 112) rfl ?_
    refine x_bipush (pc := 148) dM_nameNow_148 (v := 105) rfl ?_
    have h := g1_0 q1
    exact x_invV (pc := 150) dM_nameNow_150 (c := 11) (S := []) (As := [.int 6, .int 99, .int 111, .int 112, .int 105]) mlM_146 hM_is rfl (by decide) rfl kv0 ⟨by decide, by decide⟩ ⟨Nat.zero_le _, Nat.zero_le _⟩ rfl (Nat.le_of_ble_eq_true rfl) (aftI (b' := b) ⟨Nat.le_refl _, Nat.le_refl _⟩ (fun rv N h => h) h)
  · refine x_bipush (pc := 136) dM_nameNow_136 (v := 10) rfl ?_
    have h := g1_1 q1
    exact x_retQI (pc := 138) dM_nameNow_138 rfl rfl h

theorem vM_nameNow_153 {M : Mm} {b : Nat × Nat} {K : Int32 → Mm → Prop} {v0 : Nat} {w0 : Int32} (kv0 : v0 % 64 = 11) 
    (h : (w0 = 0 → (X mM_nameNow 174 [(0, .ref v0)] [] M b (QI K))) ∧ (¬ w0 = 0 → (CI mM_goesOn [.ref v0, .int 4, .int 101, .int 115, .int 0] M (fun rv N => X mM_nameNow 166 [(0, .ref v0)] [.int rv] N b (QI K))))) : X mM_nameNow 153 [(0, .ref v0)] [.int w0] M b (QI K) := by
  refine x_wf (fun hw => ?_)
  obtain ⟨g1_0, g1_1⟩ := h
  refine x_if_eq (pc := 153) dM_nameNow_153 (t := 174) rfl (fun q1 => ?_) (fun q1 => ?_)
  · have h := g1_0 q1
    exact h
  · refine x_aload_n (pc := 156) dM_nameNow_156 rfl (q := 0) rfl ?_
    refine x_iconst (pc := 157) dM_nameNow_157 (v := 4) rfl ?_
    refine x_bipush (pc := 158) dM_nameNow_158 (v := 101) rfl ?_
    refine x_bipush (pc := 160) dM_nameNow_160 (v := 115) rfl ?_
    refine x_iconst (pc := 162) dM_nameNow_162 (v := 0) rfl ?_
    have h := g1_1 q1
    exact x_invV (pc := 163) dM_nameNow_163 (c := 11) (S := []) (As := [.int 4, .int 101, .int 115, .int 0]) mlM_150 hM_goesOn rfl (by decide) rfl kv0 ⟨by decide, by decide⟩ ⟨Nat.zero_le _, Nat.zero_le _⟩ rfl (Nat.le_of_ble_eq_true rfl) (aftI (b' := b) ⟨Nat.le_refl _, Nat.le_refl _⟩ (fun rv N h => h) h)

theorem vM_nameNow_166 {M : Mm} {b : Nat × Nat} {K : Int32 → Mm → Prop} {v0 : Nat} {w0 : Int32}  
    (h : (w0 = 0 → (X mM_nameNow 174 [(0, .ref v0)] [] M b (QI K))) ∧ (¬ w0 = 0 → (K 11 M))) : X mM_nameNow 166 [(0, .ref v0)] [.int w0] M b (QI K) := by
  refine x_wf (fun hw => ?_)
  obtain ⟨g1_0, g1_1⟩ := h
  refine x_if_eq (pc := 166) dM_nameNow_166 (t := 174) rfl (fun q1 => ?_) (fun q1 => ?_)
  · have h := g1_0 q1
    exact h
  · refine x_bipush (pc := 169) dM_nameNow_169 (v := 11) rfl ?_
    refine x_goto (pc := 171) dM_nameNow_171 (t := 178) rfl ?_
    have h := g1_1 q1
    exact x_retQI (pc := 178) dM_nameNow_178 rfl rfl h

theorem vM_nameNow_174 {M : Mm} {b : Nat × Nat} {K : Int32 → Mm → Prop} {v0 : Nat} (kv0 : v0 % 64 = 11) 
    (h : CI mM_ruleNameNow [.ref v0] M (fun rv N => X mM_nameNow 178 [] [.int rv] N b (QI K))) : X mM_nameNow 174 [(0, .ref v0)] [] M b (QI K) := by
  refine x_wf (fun hw => ?_)
  refine x_aload_n (pc := 174) dM_nameNow_174 rfl (q := 0) rfl ?_
  exact x_invV (pc := 175) dM_nameNow_175 (c := 11) (S := []) (As := []) mlM_154 hM_ruleNameNow rfl (by decide) rfl kv0 ⟨by decide, by decide⟩ ⟨Nat.zero_le _, Nat.zero_le _⟩ rfl (Nat.le_of_ble_eq_true rfl) (aftI (b' := b) ⟨Nat.le_refl _, Nat.le_refl _⟩ (fun rv N h => x_loc [] rfl h) h)

theorem vM_nameNow_178 {M : Mm} {b : Nat × Nat} {K : Int32 → Mm → Prop} {w0 : Int32}  
    (h : K w0 M) : X mM_nameNow 178 [] [.int w0] M b (QI K) := by
  refine x_wf (fun hw => ?_)
  exact x_retQI (pc := 178) dM_nameNow_178 rfl rfl h

theorem dM_is_0 : decode (mB mM_is) 0 = .ok (.aload_n 0, 1) := op42 (by decide +kernel)
theorem dM_is_1 : decode (mB mM_is) 1 = .ok (.getfield 139, 3) := op180 0 139 (by decide +kernel)
theorem dM_is_4 : decode (mB mM_is) 4 = .ok (.aload_n 0, 1) := op42 (by decide +kernel)
theorem dM_is_5 : decode (mB mM_is) 5 = .ok (.getfield 133, 3) := op180 0 133 (by decide +kernel)
theorem dM_is_8 : decode (mB mM_is) 8 = .ok (.isub, 1) := op100 (by decide +kernel)
theorem dM_is_9 : decode (mB mM_is) 9 = .ok (.iload_n 1, 1) := op27 (by decide +kernel)
theorem dM_is_10 : decode (mB mM_is) 10 = .ok (.if_icmp .ne 73, 3) := op160 0 73 (by decide +kernel)
theorem dM_is_13 : decode (mB mM_is) 13 = .ok (.aload_n 0, 1) := op42 (by decide +kernel)
theorem dM_is_14 : decode (mB mM_is) 14 = .ok (.aload_n 0, 1) := op42 (by decide +kernel)
theorem dM_is_15 : decode (mB mM_is) 15 = .ok (.getfield 133, 3) := op180 0 133 (by decide +kernel)
theorem dM_is_18 : decode (mB mM_is) 18 = .ok (.invokevirtual 142, 3) := op182 0 142 (by decide +kernel)
theorem dM_is_21 : decode (mB mM_is) 21 = .ok (.iload_n 2, 1) := op28 (by decide +kernel)
theorem dM_is_22 : decode (mB mM_is) 22 = .ok (.if_icmp .ne 61, 3) := op160 0 61 (by decide +kernel)
theorem dM_is_25 : decode (mB mM_is) 25 = .ok (.aload_n 0, 1) := op42 (by decide +kernel)
theorem dM_is_26 : decode (mB mM_is) 26 = .ok (.aload_n 0, 1) := op42 (by decide +kernel)
theorem dM_is_27 : decode (mB mM_is) 27 = .ok (.getfield 133, 3) := op180 0 133 (by decide +kernel)
theorem dM_is_30 : decode (mB mM_is) 30 = .ok (.iconst 1, 1) := op4 (by decide +kernel)
theorem dM_is_31 : decode (mB mM_is) 31 = .ok (.iadd, 1) := op96 (by decide +kernel)
theorem dM_is_32 : decode (mB mM_is) 32 = .ok (.invokevirtual 142, 3) := op182 0 142 (by decide +kernel)
theorem dM_is_35 : decode (mB mM_is) 35 = .ok (.iload_n 3, 1) := op29 (by decide +kernel)
theorem dM_is_36 : decode (mB mM_is) 36 = .ok (.if_icmp .ne 47, 3) := op160 0 47 (by decide +kernel)
theorem dM_is_39 : decode (mB mM_is) 39 = .ok (.iload_n 1, 1) := op27 (by decide +kernel)
theorem dM_is_40 : decode (mB mM_is) 40 = .ok (.iconst 3, 1) := op6 (by decide +kernel)
theorem dM_is_41 : decode (mB mM_is) 41 = .ok (.if_icmp .lt 18, 3) := op161 0 18 (by decide +kernel)
theorem dM_is_44 : decode (mB mM_is) 44 = .ok (.aload_n 0, 1) := op42 (by decide +kernel)
theorem dM_is_45 : decode (mB mM_is) 45 = .ok (.aload_n 0, 1) := op42 (by decide +kernel)
theorem dM_is_46 : decode (mB mM_is) 46 = .ok (.getfield 133, 3) := op180 0 133 (by decide +kernel)
theorem dM_is_49 : decode (mB mM_is) 49 = .ok (.iconst 2, 1) := op5 (by decide +kernel)
theorem dM_is_50 : decode (mB mM_is) 50 = .ok (.iadd, 1) := op96 (by decide +kernel)
theorem dM_is_51 : decode (mB mM_is) 51 = .ok (.invokevirtual 142, 3) := op182 0 142 (by decide +kernel)
theorem dM_is_54 : decode (mB mM_is) 54 = .ok (.iload 4, 2) := op21 4 (by decide +kernel)
theorem dM_is_56 : decode (mB mM_is) 56 = .ok (.if_icmp .ne 27, 3) := op160 0 27 (by decide +kernel)
theorem dM_is_59 : decode (mB mM_is) 59 = .ok (.iload_n 1, 1) := op27 (by decide +kernel)
theorem dM_is_60 : decode (mB mM_is) 60 = .ok (.iconst 4, 1) := op7 (by decide +kernel)
theorem dM_is_61 : decode (mB mM_is) 61 = .ok (.if_icmp .lt 18, 3) := op161 0 18 (by decide +kernel)
theorem dM_is_64 : decode (mB mM_is) 64 = .ok (.aload_n 0, 1) := op42 (by decide +kernel)
theorem dM_is_65 : decode (mB mM_is) 65 = .ok (.aload_n 0, 1) := op42 (by decide +kernel)
theorem dM_is_66 : decode (mB mM_is) 66 = .ok (.getfield 133, 3) := op180 0 133 (by decide +kernel)
theorem dM_is_69 : decode (mB mM_is) 69 = .ok (.iconst 3, 1) := op6 (by decide +kernel)
theorem dM_is_70 : decode (mB mM_is) 70 = .ok (.iadd, 1) := op96 (by decide +kernel)
theorem dM_is_71 : decode (mB mM_is) 71 = .ok (.invokevirtual 142, 3) := op182 0 142 (by decide +kernel)
theorem dM_is_74 : decode (mB mM_is) 74 = .ok (.iload 5, 2) := op21 5 (by decide +kernel)
theorem dM_is_76 : decode (mB mM_is) 76 = .ok (.if_icmp .ne 7, 3) := op160 0 7 (by decide +kernel)
theorem dM_is_79 : decode (mB mM_is) 79 = .ok (.iconst 1, 1) := op4 (by decide +kernel)
theorem dM_is_80 : decode (mB mM_is) 80 = .ok (.goto 4, 3) := op167 0 4 (by decide +kernel)
theorem dM_is_83 : decode (mB mM_is) 83 = .ok (.iconst 0, 1) := op3 (by decide +kernel)
theorem dM_is_84 : decode (mB mM_is) 84 = .ok (.ireturn, 1) := op172 (by decide +kernel)

theorem vM_is_0 {M : Mm} {b : Nat × Nat} {K : Int32 → Mm → Prop} {v0 : Nat} {v1 : Int32} {v2 : Int32} {v3 : Int32} {v4 : Int32} {v5 : Int32} (kv0 : v0 % 64 = 11) 
    (h : (¬ ((gi M v0 12) - (gi M v0 13)) = v1 → (K 0 M)) ∧ (((gi M v0 12) - (gi M v0 13)) = v1 → (CI mM_look [.ref v0, .int (gi M v0 13)] M (fun rv N => X mM_is 21 [(0, .ref v0), (1, .int v1), (2, .int v2), (3, .int v3), (4, .int v4), (5, .int v5)] [.int rv] N b (QI K))))) : X mM_is 0 [(0, .ref v0), (1, .int v1), (2, .int v2), (3, .int v3), (4, .int v4), (5, .int v5)] [] M b (QI K) := by
  refine x_wf (fun hw => ?_)
  refine x_aload_n (pc := 0) dM_is_0 rfl (q := 0) rfl ?_
  refine x_getI (pc := 1) dM_is_1 kv0 flM_139 rfl ?_
  refine x_aload_n (pc := 4) dM_is_4 rfl (q := 0) rfl ?_
  refine x_getI (pc := 5) dM_is_5 kv0 flM_133 rfl ?_
  refine x_isub (pc := 8) dM_is_8 ?_
  refine x_iload_n (pc := 9) dM_is_9 rfl (q := 1) rfl ?_
  obtain ⟨g1_0, g1_1⟩ := h
  refine x_icmp_ne (pc := 10) dM_is_10 (t := 83) rfl (fun q1 => ?_) (fun q1 => ?_)
  · have h := g1_0 q1
    refine x_iconst (pc := 83) dM_is_83 (v := 0) rfl ?_
    exact x_retQI (pc := 84) dM_is_84 rfl (by (repeat' split) <;> rfl) h
  · refine x_aload_n (pc := 13) dM_is_13 rfl (q := 0) rfl ?_
    refine x_aload_n (pc := 14) dM_is_14 rfl (q := 0) rfl ?_
    refine x_getI (pc := 15) dM_is_15 kv0 flM_133 rfl ?_
    have h := g1_1 q1
    exact x_invV (pc := 18) dM_is_18 (c := 11) (S := []) (As := [.int (gi M v0 13)]) mlM_142 hM_look rfl (by decide) rfl kv0 ⟨by decide, by decide⟩ ⟨Nat.zero_le _, Nat.zero_le _⟩ rfl (Nat.le_of_ble_eq_true rfl) (aftI (b' := b) ⟨Nat.le_refl _, Nat.le_refl _⟩ (fun rv N h => h) h)

theorem vM_is_21 {M : Mm} {b : Nat × Nat} {K : Int32 → Mm → Prop} {v0 : Nat} {v1 : Int32} {v2 : Int32} {v3 : Int32} {v4 : Int32} {v5 : Int32} {w0 : Int32} (kv0 : v0 % 64 = 11) 
    (h : (¬ w0 = v2 → (K 0 M)) ∧ (w0 = v2 → (CI mM_look [.ref v0, .int ((gi M v0 13) + 1)] M (fun rv N => X mM_is 35 [(0, .ref v0), (1, .int v1), (3, .int v3), (4, .int v4), (5, .int v5)] [.int rv] N b (QI K))))) : X mM_is 21 [(0, .ref v0), (1, .int v1), (2, .int v2), (3, .int v3), (4, .int v4), (5, .int v5)] [.int w0] M b (QI K) := by
  refine x_wf (fun hw => ?_)
  refine x_iload_n (pc := 21) dM_is_21 rfl (q := 2) rfl ?_
  obtain ⟨g1_0, g1_1⟩ := h
  refine x_icmp_ne (pc := 22) dM_is_22 (t := 83) rfl (fun q1 => ?_) (fun q1 => ?_)
  · have h := g1_0 q1
    refine x_iconst (pc := 83) dM_is_83 (v := 0) rfl ?_
    exact x_retQI (pc := 84) dM_is_84 rfl (by (repeat' split) <;> rfl) h
  · refine x_aload_n (pc := 25) dM_is_25 rfl (q := 0) rfl ?_
    refine x_aload_n (pc := 26) dM_is_26 rfl (q := 0) rfl ?_
    refine x_getI (pc := 27) dM_is_27 kv0 flM_133 rfl ?_
    refine x_iconst (pc := 30) dM_is_30 (v := 1) rfl ?_
    refine x_iadd (pc := 31) dM_is_31 ?_
    have h := g1_1 q1
    exact x_invV (pc := 32) dM_is_32 (c := 11) (S := []) (As := [.int ((gi M v0 13) + 1)]) mlM_142 hM_look rfl (by decide) rfl kv0 ⟨by decide, by decide⟩ ⟨Nat.zero_le _, Nat.zero_le _⟩ rfl (Nat.le_of_ble_eq_true rfl) (aftI (b' := b) ⟨Nat.le_refl _, Nat.le_refl _⟩ (fun rv N h => x_loc [0, 1, 3, 4, 5] rfl h) h)

theorem vM_is_35 {M : Mm} {b : Nat × Nat} {K : Int32 → Mm → Prop} {v0 : Nat} {v1 : Int32} {v3 : Int32} {v4 : Int32} {v5 : Int32} {w0 : Int32} (kv0 : v0 % 64 = 11) 
    (h : (¬ w0 = v3 → (K 0 M)) ∧ ((w0 = v3 ∧ v1 < 3) → (X mM_is 59 [(0, .ref v0), (1, .int v1), (5, .int v5)] [] M b (QI K))) ∧ ((w0 = v3 ∧ ¬ v1 < 3) → (CI mM_look [.ref v0, .int ((gi M v0 13) + 2)] M (fun rv N => X mM_is 54 [(0, .ref v0), (1, .int v1), (4, .int v4), (5, .int v5)] [.int rv] N b (QI K))))) : X mM_is 35 [(0, .ref v0), (1, .int v1), (3, .int v3), (4, .int v4), (5, .int v5)] [.int w0] M b (QI K) := by
  refine x_wf (fun hw => ?_)
  refine x_iload_n (pc := 35) dM_is_35 rfl (q := 2) rfl ?_
  obtain ⟨g1_0, g1_1, g1_2⟩ := h
  refine x_icmp_ne (pc := 36) dM_is_36 (t := 83) rfl (fun q1 => ?_) (fun q1 => ?_)
  · have h := g1_0 q1
    refine x_iconst (pc := 83) dM_is_83 (v := 0) rfl ?_
    exact x_retQI (pc := 84) dM_is_84 rfl (by (repeat' split) <;> rfl) h
  · refine x_iload_n (pc := 39) dM_is_39 rfl (q := 1) rfl ?_
    refine x_iconst (pc := 40) dM_is_40 (v := 3) rfl ?_
    refine x_icmp_lt (pc := 41) dM_is_41 (t := 59) rfl (fun q2 => ?_) (fun q2 => ?_)
    · have h := g1_1 ⟨q1, q2⟩
      exact x_loc [0, 1, 4] rfl h
    · refine x_aload_n (pc := 44) dM_is_44 rfl (q := 0) rfl ?_
      refine x_aload_n (pc := 45) dM_is_45 rfl (q := 0) rfl ?_
      refine x_getI (pc := 46) dM_is_46 kv0 flM_133 rfl ?_
      refine x_iconst (pc := 49) dM_is_49 (v := 2) rfl ?_
      refine x_iadd (pc := 50) dM_is_50 ?_
      have h := g1_2 ⟨q1, q2⟩
      exact x_invV (pc := 51) dM_is_51 (c := 11) (S := []) (As := [.int ((gi M v0 13) + 2)]) mlM_142 hM_look rfl (by decide) rfl kv0 ⟨by decide, by decide⟩ ⟨Nat.zero_le _, Nat.zero_le _⟩ rfl (Nat.le_of_ble_eq_true rfl) (aftI (b' := b) ⟨Nat.le_refl _, Nat.le_refl _⟩ (fun rv N h => x_loc [0, 1, 3, 4] rfl h) h)

theorem vM_is_54 {M : Mm} {b : Nat × Nat} {K : Int32 → Mm → Prop} {v0 : Nat} {v1 : Int32} {v4 : Int32} {v5 : Int32} {w0 : Int32}  
    (h : (¬ w0 = v4 → (K 0 M)) ∧ (w0 = v4 → (X mM_is 59 [(0, .ref v0), (1, .int v1), (5, .int v5)] [] M b (QI K)))) : X mM_is 54 [(0, .ref v0), (1, .int v1), (4, .int v4), (5, .int v5)] [.int w0] M b (QI K) := by
  refine x_wf (fun hw => ?_)
  refine x_iload (pc := 54) dM_is_54 (q := 2) rfl ?_
  obtain ⟨g1_0, g1_1⟩ := h
  refine x_icmp_ne (pc := 56) dM_is_56 (t := 83) rfl (fun q1 => ?_) (fun q1 => ?_)
  · have h := g1_0 q1
    refine x_iconst (pc := 83) dM_is_83 (v := 0) rfl ?_
    exact x_retQI (pc := 84) dM_is_84 rfl (by (repeat' split) <;> rfl) h
  · have h := g1_1 q1
    exact x_loc [0, 1, 3] rfl h

theorem vM_is_59 {M : Mm} {b : Nat × Nat} {K : Int32 → Mm → Prop} {v0 : Nat} {v1 : Int32} {v5 : Int32} (kv0 : v0 % 64 = 11) 
    (h : (v1 < 4 → (K 1 M)) ∧ (¬ v1 < 4 → (CI mM_look [.ref v0, .int ((gi M v0 13) + 3)] M (fun rv N => X mM_is 74 [(5, .int v5)] [.int rv] N b (QI K))))) : X mM_is 59 [(0, .ref v0), (1, .int v1), (5, .int v5)] [] M b (QI K) := by
  refine x_wf (fun hw => ?_)
  refine x_iload_n (pc := 59) dM_is_59 rfl (q := 1) rfl ?_
  refine x_iconst (pc := 60) dM_is_60 (v := 4) rfl ?_
  obtain ⟨g1_0, g1_1⟩ := h
  refine x_icmp_lt (pc := 61) dM_is_61 (t := 79) rfl (fun q1 => ?_) (fun q1 => ?_)
  · have h := g1_0 q1
    refine x_iconst (pc := 79) dM_is_79 (v := 1) rfl ?_
    refine x_goto (pc := 80) dM_is_80 (t := 84) rfl ?_
    exact x_retQI (pc := 84) dM_is_84 rfl (by (repeat' split) <;> rfl) h
  · refine x_aload_n (pc := 64) dM_is_64 rfl (q := 0) rfl ?_
    refine x_aload_n (pc := 65) dM_is_65 rfl (q := 0) rfl ?_
    refine x_getI (pc := 66) dM_is_66 kv0 flM_133 rfl ?_
    refine x_iconst (pc := 69) dM_is_69 (v := 3) rfl ?_
    refine x_iadd (pc := 70) dM_is_70 ?_
    have h := g1_1 q1
    exact x_invV (pc := 71) dM_is_71 (c := 11) (S := []) (As := [.int ((gi M v0 13) + 3)]) mlM_142 hM_look rfl (by decide) rfl kv0 ⟨by decide, by decide⟩ ⟨Nat.zero_le _, Nat.zero_le _⟩ rfl (Nat.le_of_ble_eq_true rfl) (aftI (b' := b) ⟨Nat.le_refl _, Nat.le_refl _⟩ (fun rv N h => x_loc [2] rfl h) h)

theorem vM_is_74 {M : Mm} {b : Nat × Nat} {K : Int32 → Mm → Prop} {v5 : Int32} {w0 : Int32}  
    (h : (¬ w0 = v5 → (K 0 M)) ∧ (w0 = v5 → (K 1 M))) : X mM_is 74 [(5, .int v5)] [.int w0] M b (QI K) := by
  refine x_wf (fun hw => ?_)
  refine x_iload (pc := 74) dM_is_74 (q := 0) rfl ?_
  obtain ⟨g1_0, g1_1⟩ := h
  refine x_icmp_ne (pc := 76) dM_is_76 (t := 83) rfl (fun q1 => ?_) (fun q1 => ?_)
  · have h := g1_0 q1
    refine x_iconst (pc := 83) dM_is_83 (v := 0) rfl ?_
    exact x_retQI (pc := 84) dM_is_84 rfl (by (repeat' split) <;> rfl) h
  · have h := g1_1 q1
    refine x_iconst (pc := 79) dM_is_79 (v := 1) rfl ?_
    refine x_goto (pc := 80) dM_is_80 (t := 84) rfl ?_
    exact x_retQI (pc := 84) dM_is_84 rfl (by (repeat' split) <;> rfl) h

theorem dM_goesOn_0 : decode (mB mM_goesOn) 0 = .ok (.aload_n 0, 1) := op42 (by decide +kernel)
theorem dM_goesOn_1 : decode (mB mM_goesOn) 1 = .ok (.aload_n 0, 1) := op42 (by decide +kernel)
theorem dM_goesOn_2 : decode (mB mM_goesOn) 2 = .ok (.getfield 133, 3) := op180 0 133 (by decide +kernel)
theorem dM_goesOn_5 : decode (mB mM_goesOn) 5 = .ok (.iload_n 1, 1) := op27 (by decide +kernel)
theorem dM_goesOn_6 : decode (mB mM_goesOn) 6 = .ok (.iadd, 1) := op96 (by decide +kernel)
theorem dM_goesOn_7 : decode (mB mM_goesOn) 7 = .ok (.invokevirtual 142, 3) := op182 0 142 (by decide +kernel)
theorem dM_goesOn_10 : decode (mB mM_goesOn) 10 = .ok (.iload_n 2, 1) := op28 (by decide +kernel)
theorem dM_goesOn_11 : decode (mB mM_goesOn) 11 = .ok (.if_icmp .ne 49, 3) := op160 0 49 (by decide +kernel)
theorem dM_goesOn_14 : decode (mB mM_goesOn) 14 = .ok (.iload_n 3, 1) := op29 (by decide +kernel)
theorem dM_goesOn_15 : decode (mB mM_goesOn) 15 = .ok (.ifCond .eq 19, 3) := op153 0 19 (by decide +kernel)
theorem dM_goesOn_18 : decode (mB mM_goesOn) 18 = .ok (.aload_n 0, 1) := op42 (by decide +kernel)
theorem dM_goesOn_19 : decode (mB mM_goesOn) 19 = .ok (.aload_n 0, 1) := op42 (by decide +kernel)
theorem dM_goesOn_20 : decode (mB mM_goesOn) 20 = .ok (.getfield 133, 3) := op180 0 133 (by decide +kernel)
theorem dM_goesOn_23 : decode (mB mM_goesOn) 23 = .ok (.iload_n 1, 1) := op27 (by decide +kernel)
theorem dM_goesOn_24 : decode (mB mM_goesOn) 24 = .ok (.iadd, 1) := op96 (by decide +kernel)
theorem dM_goesOn_25 : decode (mB mM_goesOn) 25 = .ok (.iconst 1, 1) := op4 (by decide +kernel)
theorem dM_goesOn_26 : decode (mB mM_goesOn) 26 = .ok (.iadd, 1) := op96 (by decide +kernel)
theorem dM_goesOn_27 : decode (mB mM_goesOn) 27 = .ok (.invokevirtual 142, 3) := op182 0 142 (by decide +kernel)
theorem dM_goesOn_30 : decode (mB mM_goesOn) 30 = .ok (.iload_n 3, 1) := op29 (by decide +kernel)
theorem dM_goesOn_31 : decode (mB mM_goesOn) 31 = .ok (.if_icmp .ne 29, 3) := op160 0 29 (by decide +kernel)
theorem dM_goesOn_34 : decode (mB mM_goesOn) 34 = .ok (.iload 4, 2) := op21 4 (by decide +kernel)
theorem dM_goesOn_36 : decode (mB mM_goesOn) 36 = .ok (.ifCond .eq 20, 3) := op153 0 20 (by decide +kernel)
theorem dM_goesOn_39 : decode (mB mM_goesOn) 39 = .ok (.aload_n 0, 1) := op42 (by decide +kernel)
theorem dM_goesOn_40 : decode (mB mM_goesOn) 40 = .ok (.aload_n 0, 1) := op42 (by decide +kernel)
theorem dM_goesOn_41 : decode (mB mM_goesOn) 41 = .ok (.getfield 133, 3) := op180 0 133 (by decide +kernel)
theorem dM_goesOn_44 : decode (mB mM_goesOn) 44 = .ok (.iload_n 1, 1) := op27 (by decide +kernel)
theorem dM_goesOn_45 : decode (mB mM_goesOn) 45 = .ok (.iadd, 1) := op96 (by decide +kernel)
theorem dM_goesOn_46 : decode (mB mM_goesOn) 46 = .ok (.iconst 2, 1) := op5 (by decide +kernel)
theorem dM_goesOn_47 : decode (mB mM_goesOn) 47 = .ok (.iadd, 1) := op96 (by decide +kernel)
theorem dM_goesOn_48 : decode (mB mM_goesOn) 48 = .ok (.invokevirtual 142, 3) := op182 0 142 (by decide +kernel)
theorem dM_goesOn_51 : decode (mB mM_goesOn) 51 = .ok (.iload 4, 2) := op21 4 (by decide +kernel)
theorem dM_goesOn_53 : decode (mB mM_goesOn) 53 = .ok (.if_icmp .ne 7, 3) := op160 0 7 (by decide +kernel)
theorem dM_goesOn_56 : decode (mB mM_goesOn) 56 = .ok (.iconst 1, 1) := op4 (by decide +kernel)
theorem dM_goesOn_57 : decode (mB mM_goesOn) 57 = .ok (.goto 4, 3) := op167 0 4 (by decide +kernel)
theorem dM_goesOn_60 : decode (mB mM_goesOn) 60 = .ok (.iconst 0, 1) := op3 (by decide +kernel)
theorem dM_goesOn_61 : decode (mB mM_goesOn) 61 = .ok (.ireturn, 1) := op172 (by decide +kernel)

theorem vM_goesOn_0 {M : Mm} {b : Nat × Nat} {K : Int32 → Mm → Prop} {v0 : Nat} {v1 : Int32} {v2 : Int32} {v3 : Int32} {v4 : Int32} (kv0 : v0 % 64 = 11) 
    (h : CI mM_look [.ref v0, .int ((gi M v0 13) + v1)] M (fun rv N => X mM_goesOn 10 [(0, .ref v0), (1, .int v1), (2, .int v2), (3, .int v3), (4, .int v4)] [.int rv] N b (QI K))) : X mM_goesOn 0 [(0, .ref v0), (1, .int v1), (2, .int v2), (3, .int v3), (4, .int v4)] [] M b (QI K) := by
  refine x_wf (fun hw => ?_)
  refine x_aload_n (pc := 0) dM_goesOn_0 rfl (q := 0) rfl ?_
  refine x_aload_n (pc := 1) dM_goesOn_1 rfl (q := 0) rfl ?_
  refine x_getI (pc := 2) dM_goesOn_2 kv0 flM_133 rfl ?_
  refine x_iload_n (pc := 5) dM_goesOn_5 rfl (q := 1) rfl ?_
  refine x_iadd (pc := 6) dM_goesOn_6 ?_
  exact x_invV (pc := 7) dM_goesOn_7 (c := 11) (S := []) (As := [.int ((gi M v0 13) + v1)]) mlM_142 hM_look rfl (by decide) rfl kv0 ⟨by decide, by decide⟩ ⟨Nat.zero_le _, Nat.zero_le _⟩ rfl (Nat.le_of_ble_eq_true rfl) (aftI (b' := b) ⟨Nat.le_refl _, Nat.le_refl _⟩ (fun rv N h => h) h)

theorem vM_goesOn_10 {M : Mm} {b : Nat × Nat} {K : Int32 → Mm → Prop} {v0 : Nat} {v1 : Int32} {v2 : Int32} {v3 : Int32} {v4 : Int32} {w0 : Int32} (kv0 : v0 % 64 = 11) 
    (h : (¬ w0 = v2 → (K 0 M)) ∧ ((w0 = v2 ∧ v3 = 0) → (X mM_goesOn 34 [(0, .ref v0), (1, .int v1), (4, .int v4)] [] M b (QI K))) ∧ ((w0 = v2 ∧ ¬ v3 = 0) → (CI mM_look [.ref v0, .int (((gi M v0 13) + v1) + 1)] M (fun rv N => X mM_goesOn 30 [(0, .ref v0), (1, .int v1), (3, .int v3), (4, .int v4)] [.int rv] N b (QI K))))) : X mM_goesOn 10 [(0, .ref v0), (1, .int v1), (2, .int v2), (3, .int v3), (4, .int v4)] [.int w0] M b (QI K) := by
  refine x_wf (fun hw => ?_)
  refine x_iload_n (pc := 10) dM_goesOn_10 rfl (q := 2) rfl ?_
  obtain ⟨g1_0, g1_1, g1_2⟩ := h
  refine x_icmp_ne (pc := 11) dM_goesOn_11 (t := 60) rfl (fun q1 => ?_) (fun q1 => ?_)
  · have h := g1_0 q1
    refine x_iconst (pc := 60) dM_goesOn_60 (v := 0) rfl ?_
    exact x_retQI (pc := 61) dM_goesOn_61 rfl (by (repeat' split) <;> rfl) h
  · refine x_iload_n (pc := 14) dM_goesOn_14 rfl (q := 3) rfl ?_
    refine x_if_eq (pc := 15) dM_goesOn_15 (t := 34) rfl (fun q2 => ?_) (fun q2 => ?_)
    · have h := g1_1 ⟨q1, q2⟩
      exact x_loc [0, 1, 4] rfl h
    · refine x_aload_n (pc := 18) dM_goesOn_18 rfl (q := 0) rfl ?_
      refine x_aload_n (pc := 19) dM_goesOn_19 rfl (q := 0) rfl ?_
      refine x_getI (pc := 20) dM_goesOn_20 kv0 flM_133 rfl ?_
      refine x_iload_n (pc := 23) dM_goesOn_23 rfl (q := 1) rfl ?_
      refine x_iadd (pc := 24) dM_goesOn_24 ?_
      refine x_iconst (pc := 25) dM_goesOn_25 (v := 1) rfl ?_
      refine x_iadd (pc := 26) dM_goesOn_26 ?_
      have h := g1_2 ⟨q1, q2⟩
      exact x_invV (pc := 27) dM_goesOn_27 (c := 11) (S := []) (As := [.int (((gi M v0 13) + v1) + 1)]) mlM_142 hM_look rfl (by decide) rfl kv0 ⟨by decide, by decide⟩ ⟨Nat.zero_le _, Nat.zero_le _⟩ rfl (Nat.le_of_ble_eq_true rfl) (aftI (b' := b) ⟨Nat.le_refl _, Nat.le_refl _⟩ (fun rv N h => x_loc [0, 1, 3, 4] rfl h) h)

theorem vM_goesOn_30 {M : Mm} {b : Nat × Nat} {K : Int32 → Mm → Prop} {v0 : Nat} {v1 : Int32} {v3 : Int32} {v4 : Int32} {w0 : Int32}  
    (h : (¬ w0 = v3 → (K 0 M)) ∧ (w0 = v3 → (X mM_goesOn 34 [(0, .ref v0), (1, .int v1), (4, .int v4)] [] M b (QI K)))) : X mM_goesOn 30 [(0, .ref v0), (1, .int v1), (3, .int v3), (4, .int v4)] [.int w0] M b (QI K) := by
  refine x_wf (fun hw => ?_)
  refine x_iload_n (pc := 30) dM_goesOn_30 rfl (q := 2) rfl ?_
  obtain ⟨g1_0, g1_1⟩ := h
  refine x_icmp_ne (pc := 31) dM_goesOn_31 (t := 60) rfl (fun q1 => ?_) (fun q1 => ?_)
  · have h := g1_0 q1
    refine x_iconst (pc := 60) dM_goesOn_60 (v := 0) rfl ?_
    exact x_retQI (pc := 61) dM_goesOn_61 rfl (by (repeat' split) <;> rfl) h
  · have h := g1_1 q1
    exact x_loc [0, 1, 3] rfl h

theorem vM_goesOn_34 {M : Mm} {b : Nat × Nat} {K : Int32 → Mm → Prop} {v0 : Nat} {v1 : Int32} {v4 : Int32} (kv0 : v0 % 64 = 11) 
    (h : (v4 = 0 → (K 1 M)) ∧ (¬ v4 = 0 → (CI mM_look [.ref v0, .int (((gi M v0 13) + v1) + 2)] M (fun rv N => X mM_goesOn 51 [(4, .int v4)] [.int rv] N b (QI K))))) : X mM_goesOn 34 [(0, .ref v0), (1, .int v1), (4, .int v4)] [] M b (QI K) := by
  refine x_wf (fun hw => ?_)
  refine x_iload (pc := 34) dM_goesOn_34 (q := 2) rfl ?_
  obtain ⟨g1_0, g1_1⟩ := h
  refine x_if_eq (pc := 36) dM_goesOn_36 (t := 56) rfl (fun q1 => ?_) (fun q1 => ?_)
  · have h := g1_0 q1
    refine x_iconst (pc := 56) dM_goesOn_56 (v := 1) rfl ?_
    refine x_goto (pc := 57) dM_goesOn_57 (t := 61) rfl ?_
    exact x_retQI (pc := 61) dM_goesOn_61 rfl (by (repeat' split) <;> rfl) h
  · refine x_aload_n (pc := 39) dM_goesOn_39 rfl (q := 0) rfl ?_
    refine x_aload_n (pc := 40) dM_goesOn_40 rfl (q := 0) rfl ?_
    refine x_getI (pc := 41) dM_goesOn_41 kv0 flM_133 rfl ?_
    refine x_iload_n (pc := 44) dM_goesOn_44 rfl (q := 1) rfl ?_
    refine x_iadd (pc := 45) dM_goesOn_45 ?_
    refine x_iconst (pc := 46) dM_goesOn_46 (v := 2) rfl ?_
    refine x_iadd (pc := 47) dM_goesOn_47 ?_
    have h := g1_1 q1
    exact x_invV (pc := 48) dM_goesOn_48 (c := 11) (S := []) (As := [.int (((gi M v0 13) + v1) + 2)]) mlM_142 hM_look rfl (by decide) rfl kv0 ⟨by decide, by decide⟩ ⟨Nat.zero_le _, Nat.zero_le _⟩ rfl (Nat.le_of_ble_eq_true rfl) (aftI (b' := b) ⟨Nat.le_refl _, Nat.le_refl _⟩ (fun rv N h => x_loc [2] rfl h) h)

theorem vM_goesOn_51 {M : Mm} {b : Nat × Nat} {K : Int32 → Mm → Prop} {v4 : Int32} {w0 : Int32}  
    (h : (¬ w0 = v4 → (K 0 M)) ∧ (w0 = v4 → (K 1 M))) : X mM_goesOn 51 [(4, .int v4)] [.int w0] M b (QI K) := by
  refine x_wf (fun hw => ?_)
  refine x_iload (pc := 51) dM_goesOn_51 (q := 0) rfl ?_
  obtain ⟨g1_0, g1_1⟩ := h
  refine x_icmp_ne (pc := 53) dM_goesOn_53 (t := 60) rfl (fun q1 => ?_) (fun q1 => ?_)
  · have h := g1_0 q1
    refine x_iconst (pc := 60) dM_goesOn_60 (v := 0) rfl ?_
    exact x_retQI (pc := 61) dM_goesOn_61 rfl (by (repeat' split) <;> rfl) h
  · have h := g1_1 q1
    refine x_iconst (pc := 56) dM_goesOn_56 (v := 1) rfl ?_
    refine x_goto (pc := 57) dM_goesOn_57 (t := 61) rfl ?_
    exact x_retQI (pc := 61) dM_goesOn_61 rfl (by (repeat' split) <;> rfl) h

theorem dM_ruleNameNow_0 : decode (mB mM_ruleNameNow) 0 = .ok (.aload_n 0, 1) := op42 (by decide +kernel)
theorem dM_ruleNameNow_1 : decode (mB mM_ruleNameNow) 1 = .ok (.iconst 4, 1) := op7 (by decide +kernel)
theorem dM_ruleNameNow_2 : decode (mB mM_ruleNameNow) 2 = .ok (.bipush 109, 2) := op16 109 (by decide +kernel)
theorem dM_ruleNameNow_4 : decode (mB mM_ruleNameNow) 4 = .ok (.bipush 97, 2) := op16 97 (by decide +kernel)
theorem dM_ruleNameNow_6 : decode (mB mM_ruleNameNow) 6 = .ok (.bipush 105, 2) := op16 105 (by decide +kernel)
theorem dM_ruleNameNow_8 : decode (mB mM_ruleNameNow) 8 = .ok (.bipush 110, 2) := op16 110 (by decide +kernel)
theorem dM_ruleNameNow_10 : decode (mB mM_ruleNameNow) 10 = .ok (.invokevirtual 146, 3) := op182 0 146 (by decide +kernel)
theorem dM_ruleNameNow_13 : decode (mB mM_ruleNameNow) 13 = .ok (.ifCond .eq 6, 3) := op153 0 6 (by decide +kernel)
theorem dM_ruleNameNow_16 : decode (mB mM_ruleNameNow) 16 = .ok (.bipush 12, 2) := op16 12 (by decide +kernel)
theorem dM_ruleNameNow_18 : decode (mB mM_ruleNameNow) 18 = .ok (.ireturn, 1) := op172 (by decide +kernel)
theorem dM_ruleNameNow_19 : decode (mB mM_ruleNameNow) 19 = .ok (.aload_n 0, 1) := op42 (by decide +kernel)
theorem dM_ruleNameNow_20 : decode (mB mM_ruleNameNow) 20 = .ok (.iconst 5, 1) := op8 (by decide +kernel)
theorem dM_ruleNameNow_21 : decode (mB mM_ruleNameNow) 21 = .ok (.bipush 110, 2) := op16 110 (by decide +kernel)
theorem dM_ruleNameNow_23 : decode (mB mM_ruleNameNow) 23 = .ok (.bipush 111, 2) := op16 111 (by decide +kernel)
theorem dM_ruleNameNow_25 : decode (mB mM_ruleNameNow) 25 = .ok (.bipush 116, 2) := op16 116 (by decide +kernel)
theorem dM_ruleNameNow_27 : decode (mB mM_ruleNameNow) 27 = .ok (.bipush 101, 2) := op16 101 (by decide +kernel)
theorem dM_ruleNameNow_29 : decode (mB mM_ruleNameNow) 29 = .ok (.invokevirtual 146, 3) := op182 0 146 (by decide +kernel)
theorem dM_ruleNameNow_32 : decode (mB mM_ruleNameNow) 32 = .ok (.ifCond .eq 18, 3) := op153 0 18 (by decide +kernel)
theorem dM_ruleNameNow_35 : decode (mB mM_ruleNameNow) 35 = .ok (.aload_n 0, 1) := op42 (by decide +kernel)
theorem dM_ruleNameNow_36 : decode (mB mM_ruleNameNow) 36 = .ok (.iconst 4, 1) := op7 (by decide +kernel)
theorem dM_ruleNameNow_37 : decode (mB mM_ruleNameNow) 37 = .ok (.bipush 115, 2) := op16 115 (by decide +kernel)
theorem dM_ruleNameNow_39 : decode (mB mM_ruleNameNow) 39 = .ok (.iconst 0, 1) := op3 (by decide +kernel)
theorem dM_ruleNameNow_40 : decode (mB mM_ruleNameNow) 40 = .ok (.iconst 0, 1) := op3 (by decide +kernel)
theorem dM_ruleNameNow_41 : decode (mB mM_ruleNameNow) 41 = .ok (.invokevirtual 150, 3) := op182 0 150 (by decide +kernel)
theorem dM_ruleNameNow_44 : decode (mB mM_ruleNameNow) 44 = .ok (.ifCond .eq 6, 3) := op153 0 6 (by decide +kernel)
theorem dM_ruleNameNow_47 : decode (mB mM_ruleNameNow) 47 = .ok (.bipush 13, 2) := op16 13 (by decide +kernel)
theorem dM_ruleNameNow_49 : decode (mB mM_ruleNameNow) 49 = .ok (.ireturn, 1) := op172 (by decide +kernel)
theorem dM_ruleNameNow_50 : decode (mB mM_ruleNameNow) 50 = .ok (.aload_n 0, 1) := op42 (by decide +kernel)
theorem dM_ruleNameNow_51 : decode (mB mM_ruleNameNow) 51 = .ok (.iconst 3, 1) := op6 (by decide +kernel)
theorem dM_ruleNameNow_52 : decode (mB mM_ruleNameNow) 52 = .ok (.bipush 116, 2) := op16 116 (by decide +kernel)
theorem dM_ruleNameNow_54 : decode (mB mM_ruleNameNow) 54 = .ok (.bipush 119, 2) := op16 119 (by decide +kernel)
theorem dM_ruleNameNow_56 : decode (mB mM_ruleNameNow) 56 = .ok (.bipush 111, 2) := op16 111 (by decide +kernel)
theorem dM_ruleNameNow_58 : decode (mB mM_ruleNameNow) 58 = .ok (.iconst 0, 1) := op3 (by decide +kernel)
theorem dM_ruleNameNow_59 : decode (mB mM_ruleNameNow) 59 = .ok (.invokevirtual 146, 3) := op182 0 146 (by decide +kernel)
theorem dM_ruleNameNow_62 : decode (mB mM_ruleNameNow) 62 = .ok (.ifCond .eq 6, 3) := op153 0 6 (by decide +kernel)
theorem dM_ruleNameNow_65 : decode (mB mM_ruleNameNow) 65 = .ok (.bipush 14, 2) := op16 14 (by decide +kernel)
theorem dM_ruleNameNow_67 : decode (mB mM_ruleNameNow) 67 = .ok (.ireturn, 1) := op172 (by decide +kernel)
theorem dM_ruleNameNow_68 : decode (mB mM_ruleNameNow) 68 = .ok (.aload_n 0, 1) := op42 (by decide +kernel)
theorem dM_ruleNameNow_69 : decode (mB mM_ruleNameNow) 69 = .ok (.iconst 4, 1) := op7 (by decide +kernel)
theorem dM_ruleNameNow_70 : decode (mB mM_ruleNameNow) 70 = .ok (.bipush 104, 2) := op16 104 (by decide +kernel)
theorem dM_ruleNameNow_72 : decode (mB mM_ruleNameNow) 72 = .ok (.bipush 101, 2) := op16 101 (by decide +kernel)
theorem dM_ruleNameNow_74 : decode (mB mM_ruleNameNow) 74 = .ok (.bipush 97, 2) := op16 97 (by decide +kernel)
theorem dM_ruleNameNow_76 : decode (mB mM_ruleNameNow) 76 = .ok (.bipush 100, 2) := op16 100 (by decide +kernel)
theorem dM_ruleNameNow_78 : decode (mB mM_ruleNameNow) 78 = .ok (.invokevirtual 146, 3) := op182 0 146 (by decide +kernel)
theorem dM_ruleNameNow_81 : decode (mB mM_ruleNameNow) 81 = .ok (.ifCond .eq 6, 3) := op153 0 6 (by decide +kernel)
theorem dM_ruleNameNow_84 : decode (mB mM_ruleNameNow) 84 = .ok (.bipush 15, 2) := op16 15 (by decide +kernel)
theorem dM_ruleNameNow_86 : decode (mB mM_ruleNameNow) 86 = .ok (.ireturn, 1) := op172 (by decide +kernel)
theorem dM_ruleNameNow_87 : decode (mB mM_ruleNameNow) 87 = .ok (.aload_n 0, 1) := op42 (by decide +kernel)
theorem dM_ruleNameNow_88 : decode (mB mM_ruleNameNow) 88 = .ok (.bipush 6, 2) := op16 6 (by decide +kernel)
theorem dM_ruleNameNow_90 : decode (mB mM_ruleNameNow) 90 = .ok (.bipush 115, 2) := op16 115 (by decide +kernel)
theorem dM_ruleNameNow_92 : decode (mB mM_ruleNameNow) 92 = .ok (.bipush 105, 2) := op16 105 (by decide +kernel)
theorem dM_ruleNameNow_94 : decode (mB mM_ruleNameNow) 94 = .ok (.bipush 108, 2) := op16 108 (by decide +kernel)
theorem dM_ruleNameNow_96 : decode (mB mM_ruleNameNow) 96 = .ok (.bipush 101, 2) := op16 101 (by decide +kernel)
theorem dM_ruleNameNow_98 : decode (mB mM_ruleNameNow) 98 = .ok (.invokevirtual 146, 3) := op182 0 146 (by decide +kernel)
theorem dM_ruleNameNow_101 : decode (mB mM_ruleNameNow) 101 = .ok (.ifCond .eq 19, 3) := op153 0 19 (by decide +kernel)
theorem dM_ruleNameNow_104 : decode (mB mM_ruleNameNow) 104 = .ok (.aload_n 0, 1) := op42 (by decide +kernel)
theorem dM_ruleNameNow_105 : decode (mB mM_ruleNameNow) 105 = .ok (.iconst 4, 1) := op7 (by decide +kernel)
theorem dM_ruleNameNow_106 : decode (mB mM_ruleNameNow) 106 = .ok (.bipush 110, 2) := op16 110 (by decide +kernel)
theorem dM_ruleNameNow_108 : decode (mB mM_ruleNameNow) 108 = .ok (.bipush 116, 2) := op16 116 (by decide +kernel)
theorem dM_ruleNameNow_110 : decode (mB mM_ruleNameNow) 110 = .ok (.iconst 0, 1) := op3 (by decide +kernel)
theorem dM_ruleNameNow_111 : decode (mB mM_ruleNameNow) 111 = .ok (.invokevirtual 150, 3) := op182 0 150 (by decide +kernel)
theorem dM_ruleNameNow_114 : decode (mB mM_ruleNameNow) 114 = .ok (.ifCond .eq 6, 3) := op153 0 6 (by decide +kernel)
theorem dM_ruleNameNow_117 : decode (mB mM_ruleNameNow) 117 = .ok (.bipush 16, 2) := op16 16 (by decide +kernel)
theorem dM_ruleNameNow_119 : decode (mB mM_ruleNameNow) 119 = .ok (.ireturn, 1) := op172 (by decide +kernel)
theorem dM_ruleNameNow_120 : decode (mB mM_ruleNameNow) 120 = .ok (.aload_n 0, 1) := op42 (by decide +kernel)
theorem dM_ruleNameNow_121 : decode (mB mM_ruleNameNow) 121 = .ok (.iconst 4, 1) := op7 (by decide +kernel)
theorem dM_ruleNameNow_122 : decode (mB mM_ruleNameNow) 122 = .ok (.bipush 108, 2) := op16 108 (by decide +kernel)
theorem dM_ruleNameNow_124 : decode (mB mM_ruleNameNow) 124 = .ok (.bipush 97, 2) := op16 97 (by decide +kernel)
theorem dM_ruleNameNow_126 : decode (mB mM_ruleNameNow) 126 = .ok (.bipush 119, 2) := op16 119 (by decide +kernel)
theorem dM_ruleNameNow_128 : decode (mB mM_ruleNameNow) 128 = .ok (.bipush 115, 2) := op16 115 (by decide +kernel)
theorem dM_ruleNameNow_130 : decode (mB mM_ruleNameNow) 130 = .ok (.invokevirtual 146, 3) := op182 0 146 (by decide +kernel)
theorem dM_ruleNameNow_133 : decode (mB mM_ruleNameNow) 133 = .ok (.ifCond .eq 6, 3) := op153 0 6 (by decide +kernel)
theorem dM_ruleNameNow_136 : decode (mB mM_ruleNameNow) 136 = .ok (.bipush 17, 2) := op16 17 (by decide +kernel)
theorem dM_ruleNameNow_138 : decode (mB mM_ruleNameNow) 138 = .ok (.ireturn, 1) := op172 (by decide +kernel)
theorem dM_ruleNameNow_139 : decode (mB mM_ruleNameNow) 139 = .ok (.aload_n 0, 1) := op42 (by decide +kernel)
theorem dM_ruleNameNow_140 : decode (mB mM_ruleNameNow) 140 = .ok (.iconst 5, 1) := op8 (by decide +kernel)
theorem dM_ruleNameNow_141 : decode (mB mM_ruleNameNow) 141 = .ok (.bipush 108, 2) := op16 108 (by decide +kernel)
theorem dM_ruleNameNow_143 : decode (mB mM_ruleNameNow) 143 = .ok (.bipush 97, 2) := op16 97 (by decide +kernel)
theorem dM_ruleNameNow_145 : decode (mB mM_ruleNameNow) 145 = .ok (.bipush 116, 2) := op16 116 (by decide +kernel)
theorem dM_ruleNameNow_147 : decode (mB mM_ruleNameNow) 147 = .ok (.bipush 101, 2) := op16 101 (by decide +kernel)
theorem dM_ruleNameNow_149 : decode (mB mM_ruleNameNow) 149 = .ok (.invokevirtual 146, 3) := op182 0 146 (by decide +kernel)
theorem dM_ruleNameNow_152 : decode (mB mM_ruleNameNow) 152 = .ok (.ifCond .eq 18, 3) := op153 0 18 (by decide +kernel)
theorem dM_ruleNameNow_155 : decode (mB mM_ruleNameNow) 155 = .ok (.aload_n 0, 1) := op42 (by decide +kernel)
theorem dM_ruleNameNow_156 : decode (mB mM_ruleNameNow) 156 = .ok (.iconst 4, 1) := op7 (by decide +kernel)
theorem dM_ruleNameNow_157 : decode (mB mM_ruleNameNow) 157 = .ok (.bipush 114, 2) := op16 114 (by decide +kernel)
theorem dM_ruleNameNow_159 : decode (mB mM_ruleNameNow) 159 = .ok (.iconst 0, 1) := op3 (by decide +kernel)
theorem dM_ruleNameNow_160 : decode (mB mM_ruleNameNow) 160 = .ok (.iconst 0, 1) := op3 (by decide +kernel)
theorem dM_ruleNameNow_161 : decode (mB mM_ruleNameNow) 161 = .ok (.invokevirtual 150, 3) := op182 0 150 (by decide +kernel)
theorem dM_ruleNameNow_164 : decode (mB mM_ruleNameNow) 164 = .ok (.ifCond .eq 6, 3) := op153 0 6 (by decide +kernel)
theorem dM_ruleNameNow_167 : decode (mB mM_ruleNameNow) 167 = .ok (.bipush 18, 2) := op16 18 (by decide +kernel)
theorem dM_ruleNameNow_169 : decode (mB mM_ruleNameNow) 169 = .ok (.ireturn, 1) := op172 (by decide +kernel)
theorem dM_ruleNameNow_170 : decode (mB mM_ruleNameNow) 170 = .ok (.aload_n 0, 1) := op42 (by decide +kernel)
theorem dM_ruleNameNow_171 : decode (mB mM_ruleNameNow) 171 = .ok (.bipush 7, 2) := op16 7 (by decide +kernel)
theorem dM_ruleNameNow_173 : decode (mB mM_ruleNameNow) 173 = .ok (.bipush 115, 2) := op16 115 (by decide +kernel)
theorem dM_ruleNameNow_175 : decode (mB mM_ruleNameNow) 175 = .ok (.bipush 112, 2) := op16 112 (by decide +kernel)
theorem dM_ruleNameNow_177 : decode (mB mM_ruleNameNow) 177 = .ok (.bipush 101, 2) := op16 101 (by decide +kernel)
theorem dM_ruleNameNow_179 : decode (mB mM_ruleNameNow) 179 = .ok (.bipush 99, 2) := op16 99 (by decide +kernel)
theorem dM_ruleNameNow_181 : decode (mB mM_ruleNameNow) 181 = .ok (.invokevirtual 146, 3) := op182 0 146 (by decide +kernel)
theorem dM_ruleNameNow_184 : decode (mB mM_ruleNameNow) 184 = .ok (.ifCond .eq 20, 3) := op153 0 20 (by decide +kernel)
theorem dM_ruleNameNow_187 : decode (mB mM_ruleNameNow) 187 = .ok (.aload_n 0, 1) := op42 (by decide +kernel)
theorem dM_ruleNameNow_188 : decode (mB mM_ruleNameNow) 188 = .ok (.iconst 4, 1) := op7 (by decide +kernel)
theorem dM_ruleNameNow_189 : decode (mB mM_ruleNameNow) 189 = .ok (.bipush 105, 2) := op16 105 (by decide +kernel)
theorem dM_ruleNameNow_191 : decode (mB mM_ruleNameNow) 191 = .ok (.bipush 97, 2) := op16 97 (by decide +kernel)
theorem dM_ruleNameNow_193 : decode (mB mM_ruleNameNow) 193 = .ok (.bipush 108, 2) := op16 108 (by decide +kernel)
theorem dM_ruleNameNow_195 : decode (mB mM_ruleNameNow) 195 = .ok (.invokevirtual 150, 3) := op182 0 150 (by decide +kernel)
theorem dM_ruleNameNow_198 : decode (mB mM_ruleNameNow) 198 = .ok (.ifCond .eq 6, 3) := op153 0 6 (by decide +kernel)
theorem dM_ruleNameNow_201 : decode (mB mM_ruleNameNow) 201 = .ok (.bipush 19, 2) := op16 19 (by decide +kernel)
theorem dM_ruleNameNow_203 : decode (mB mM_ruleNameNow) 203 = .ok (.ireturn, 1) := op172 (by decide +kernel)
theorem dM_ruleNameNow_204 : decode (mB mM_ruleNameNow) 204 = .ok (.aload_n 0, 1) := op42 (by decide +kernel)
theorem dM_ruleNameNow_205 : decode (mB mM_ruleNameNow) 205 = .ok (.iconst 4, 1) := op7 (by decide +kernel)
theorem dM_ruleNameNow_206 : decode (mB mM_ruleNameNow) 206 = .ok (.bipush 110, 2) := op16 110 (by decide +kernel)
theorem dM_ruleNameNow_208 : decode (mB mM_ruleNameNow) 208 = .ok (.bipush 111, 2) := op16 111 (by decide +kernel)
theorem dM_ruleNameNow_210 : decode (mB mM_ruleNameNow) 210 = .ok (.bipush 110, 2) := op16 110 (by decide +kernel)
theorem dM_ruleNameNow_212 : decode (mB mM_ruleNameNow) 212 = .ok (.bipush 101, 2) := op16 101 (by decide +kernel)
theorem dM_ruleNameNow_214 : decode (mB mM_ruleNameNow) 214 = .ok (.invokevirtual 146, 3) := op182 0 146 (by decide +kernel)
theorem dM_ruleNameNow_217 : decode (mB mM_ruleNameNow) 217 = .ok (.ifCond .eq 6, 3) := op153 0 6 (by decide +kernel)
theorem dM_ruleNameNow_220 : decode (mB mM_ruleNameNow) 220 = .ok (.bipush 20, 2) := op16 20 (by decide +kernel)
theorem dM_ruleNameNow_222 : decode (mB mM_ruleNameNow) 222 = .ok (.ireturn, 1) := op172 (by decide +kernel)
theorem dM_ruleNameNow_223 : decode (mB mM_ruleNameNow) 223 = .ok (.aload_n 0, 1) := op42 (by decide +kernel)
theorem dM_ruleNameNow_224 : decode (mB mM_ruleNameNow) 224 = .ok (.iconst 5, 1) := op8 (by decide +kernel)
theorem dM_ruleNameNow_225 : decode (mB mM_ruleNameNow) 225 = .ok (.bipush 102, 2) := op16 102 (by decide +kernel)
theorem dM_ruleNameNow_227 : decode (mB mM_ruleNameNow) 227 = .ok (.bipush 105, 2) := op16 105 (by decide +kernel)
theorem dM_ruleNameNow_229 : decode (mB mM_ruleNameNow) 229 = .ok (.bipush 114, 2) := op16 114 (by decide +kernel)
theorem dM_ruleNameNow_231 : decode (mB mM_ruleNameNow) 231 = .ok (.bipush 115, 2) := op16 115 (by decide +kernel)
theorem dM_ruleNameNow_233 : decode (mB mM_ruleNameNow) 233 = .ok (.invokevirtual 146, 3) := op182 0 146 (by decide +kernel)
theorem dM_ruleNameNow_236 : decode (mB mM_ruleNameNow) 236 = .ok (.ifCond .eq 18, 3) := op153 0 18 (by decide +kernel)
theorem dM_ruleNameNow_239 : decode (mB mM_ruleNameNow) 239 = .ok (.aload_n 0, 1) := op42 (by decide +kernel)
theorem dM_ruleNameNow_240 : decode (mB mM_ruleNameNow) 240 = .ok (.iconst 4, 1) := op7 (by decide +kernel)
theorem dM_ruleNameNow_241 : decode (mB mM_ruleNameNow) 241 = .ok (.bipush 116, 2) := op16 116 (by decide +kernel)
theorem dM_ruleNameNow_243 : decode (mB mM_ruleNameNow) 243 = .ok (.iconst 0, 1) := op3 (by decide +kernel)
theorem dM_ruleNameNow_244 : decode (mB mM_ruleNameNow) 244 = .ok (.iconst 0, 1) := op3 (by decide +kernel)
theorem dM_ruleNameNow_245 : decode (mB mM_ruleNameNow) 245 = .ok (.invokevirtual 150, 3) := op182 0 150 (by decide +kernel)
theorem dM_ruleNameNow_248 : decode (mB mM_ruleNameNow) 248 = .ok (.ifCond .eq 6, 3) := op153 0 6 (by decide +kernel)
theorem dM_ruleNameNow_251 : decode (mB mM_ruleNameNow) 251 = .ok (.bipush 21, 2) := op16 21 (by decide +kernel)
theorem dM_ruleNameNow_253 : decode (mB mM_ruleNameNow) 253 = .ok (.ireturn, 1) := op172 (by decide +kernel)
theorem dM_ruleNameNow_254 : decode (mB mM_ruleNameNow) 254 = .ok (.aload_n 0, 1) := op42 (by decide +kernel)
theorem dM_ruleNameNow_255 : decode (mB mM_ruleNameNow) 255 = .ok (.iconst 3, 1) := op6 (by decide +kernel)
theorem dM_ruleNameNow_256 : decode (mB mM_ruleNameNow) 256 = .ok (.bipush 121, 2) := op16 121 (by decide +kernel)
theorem dM_ruleNameNow_258 : decode (mB mM_ruleNameNow) 258 = .ok (.bipush 101, 2) := op16 101 (by decide +kernel)
theorem dM_ruleNameNow_260 : decode (mB mM_ruleNameNow) 260 = .ok (.bipush 115, 2) := op16 115 (by decide +kernel)
theorem dM_ruleNameNow_262 : decode (mB mM_ruleNameNow) 262 = .ok (.iconst 0, 1) := op3 (by decide +kernel)
theorem dM_ruleNameNow_263 : decode (mB mM_ruleNameNow) 263 = .ok (.invokevirtual 146, 3) := op182 0 146 (by decide +kernel)
theorem dM_ruleNameNow_266 : decode (mB mM_ruleNameNow) 266 = .ok (.ifCond .eq 8, 3) := op153 0 8 (by decide +kernel)
theorem dM_ruleNameNow_269 : decode (mB mM_ruleNameNow) 269 = .ok (.bipush 22, 2) := op16 22 (by decide +kernel)
theorem dM_ruleNameNow_271 : decode (mB mM_ruleNameNow) 271 = .ok (.goto 45, 3) := op167 0 45 (by decide +kernel)
theorem dM_ruleNameNow_274 : decode (mB mM_ruleNameNow) 274 = .ok (.aload_n 0, 1) := op42 (by decide +kernel)
theorem dM_ruleNameNow_275 : decode (mB mM_ruleNameNow) 275 = .ok (.iconst 2, 1) := op5 (by decide +kernel)
theorem dM_ruleNameNow_276 : decode (mB mM_ruleNameNow) 276 = .ok (.bipush 110, 2) := op16 110 (by decide +kernel)
theorem dM_ruleNameNow_278 : decode (mB mM_ruleNameNow) 278 = .ok (.bipush 111, 2) := op16 111 (by decide +kernel)
theorem dM_ruleNameNow_280 : decode (mB mM_ruleNameNow) 280 = .ok (.iconst 0, 1) := op3 (by decide +kernel)
theorem dM_ruleNameNow_281 : decode (mB mM_ruleNameNow) 281 = .ok (.iconst 0, 1) := op3 (by decide +kernel)
theorem dM_ruleNameNow_282 : decode (mB mM_ruleNameNow) 282 = .ok (.invokevirtual 146, 3) := op182 0 146 (by decide +kernel)
theorem dM_ruleNameNow_285 : decode (mB mM_ruleNameNow) 285 = .ok (.ifCond .eq 8, 3) := op153 0 8 (by decide +kernel)
theorem dM_ruleNameNow_288 : decode (mB mM_ruleNameNow) 288 = .ok (.bipush 23, 2) := op16 23 (by decide +kernel)
theorem dM_ruleNameNow_290 : decode (mB mM_ruleNameNow) 290 = .ok (.goto 26, 3) := op167 0 26 (by decide +kernel)
theorem dM_ruleNameNow_293 : decode (mB mM_ruleNameNow) 293 = .ok (.aload_n 0, 1) := op42 (by decide +kernel)
theorem dM_ruleNameNow_294 : decode (mB mM_ruleNameNow) 294 = .ok (.iconst 4, 1) := op7 (by decide +kernel)
theorem dM_ruleNameNow_295 : decode (mB mM_ruleNameNow) 295 = .ok (.bipush 111, 2) := op16 111 (by decide +kernel)
theorem dM_ruleNameNow_297 : decode (mB mM_ruleNameNow) 297 = .ok (.bipush 112, 2) := op16 112 (by decide +kernel)
theorem dM_ruleNameNow_299 : decode (mB mM_ruleNameNow) 299 = .ok (.bipush 101, 2) := op16 101 (by decide +kernel)
theorem dM_ruleNameNow_301 : decode (mB mM_ruleNameNow) 301 = .ok (.bipush 110, 2) := op16 110 (by decide +kernel)
theorem dM_ruleNameNow_303 : decode (mB mM_ruleNameNow) 303 = .ok (.invokevirtual 146, 3) := op182 0 146 (by decide +kernel)
theorem dM_ruleNameNow_306 : decode (mB mM_ruleNameNow) 306 = .ok (.ifCond .eq 8, 3) := op153 0 8 (by decide +kernel)
theorem dM_ruleNameNow_309 : decode (mB mM_ruleNameNow) 309 = .ok (.bipush 24, 2) := op16 24 (by decide +kernel)
theorem dM_ruleNameNow_311 : decode (mB mM_ruleNameNow) 311 = .ok (.goto 5, 3) := op167 0 5 (by decide +kernel)
theorem dM_ruleNameNow_314 : decode (mB mM_ruleNameNow) 314 = .ok (.bipush (-4), 2) := op16 252 (by decide +kernel)
theorem dM_ruleNameNow_316 : decode (mB mM_ruleNameNow) 316 = .ok (.ireturn, 1) := op172 (by decide +kernel)

theorem vM_ruleNameNow_0 {M : Mm} {b : Nat × Nat} {K : Int32 → Mm → Prop} {v0 : Nat} (kv0 : v0 % 64 = 11) 
    (h : CI mM_is [.ref v0, .int 4, .int 109, .int 97, .int 105, .int 110] M (fun rv N => X mM_ruleNameNow 13 [(0, .ref v0)] [.int rv] N b (QI K))) : X mM_ruleNameNow 0 [(0, .ref v0)] [] M b (QI K) := by
  refine x_wf (fun hw => ?_)
  refine x_aload_n (pc := 0) dM_ruleNameNow_0 rfl (q := 0) rfl ?_
  refine x_iconst (pc := 1) dM_ruleNameNow_1 (v := 4) rfl ?_
  refine x_bipush (pc := 2) dM_ruleNameNow_2 (v := 109) rfl ?_
  refine x_bipush (pc := 4) dM_ruleNameNow_4 (v := 97) rfl ?_
  refine x_bipush (pc := 6) dM_ruleNameNow_6 (v := 105) rfl ?_
  refine x_bipush (pc := 8) dM_ruleNameNow_8 (v := 110) rfl ?_
  exact x_invV (pc := 10) dM_ruleNameNow_10 (c := 11) (S := []) (As := [.int 4, .int 109, .int 97, .int 105, .int 110]) mlM_146 hM_is rfl (by decide) rfl kv0 ⟨by decide, by decide⟩ ⟨Nat.zero_le _, Nat.zero_le _⟩ rfl (Nat.le_of_ble_eq_true rfl) (aftI (b' := b) ⟨Nat.le_refl _, Nat.le_refl _⟩ (fun rv N h => h) h)

theorem vM_ruleNameNow_13 {M : Mm} {b : Nat × Nat} {K : Int32 → Mm → Prop} {v0 : Nat} {w0 : Int32} (kv0 : v0 % 64 = 11) 
    (h : (w0 = 0 → (CI mM_is [.ref v0, .int 5, .int 110, .int 111, .int 116, .int 101] M (fun rv N => X mM_ruleNameNow 32 [(0, .ref v0)] [.int rv] N b (QI K)))) ∧ (¬ w0 = 0 → (K 12 M))) : X mM_ruleNameNow 13 [(0, .ref v0)] [.int w0] M b (QI K) := by
  refine x_wf (fun hw => ?_)
  obtain ⟨g1_0, g1_1⟩ := h
  refine x_if_eq (pc := 13) dM_ruleNameNow_13 (t := 19) rfl (fun q1 => ?_) (fun q1 => ?_)
  · refine x_aload_n (pc := 19) dM_ruleNameNow_19 rfl (q := 0) rfl ?_
    refine x_iconst (pc := 20) dM_ruleNameNow_20 (v := 5) rfl ?_
    refine x_bipush (pc := 21) dM_ruleNameNow_21 (v := 110) rfl ?_
    refine x_bipush (pc := 23) dM_ruleNameNow_23 (v := 111) rfl ?_
    refine x_bipush (pc := 25) dM_ruleNameNow_25 (v := 116) rfl ?_
    refine x_bipush (pc := 27) dM_ruleNameNow_27 (v := 101) rfl ?_
    have h := g1_0 q1
    exact x_invV (pc := 29) dM_ruleNameNow_29 (c := 11) (S := []) (As := [.int 5, .int 110, .int 111, .int 116, .int 101]) mlM_146 hM_is rfl (by decide) rfl kv0 ⟨by decide, by decide⟩ ⟨Nat.zero_le _, Nat.zero_le _⟩ rfl (Nat.le_of_ble_eq_true rfl) (aftI (b' := b) ⟨Nat.le_refl _, Nat.le_refl _⟩ (fun rv N h => h) h)
  · refine x_bipush (pc := 16) dM_ruleNameNow_16 (v := 12) rfl ?_
    have h := g1_1 q1
    exact x_retQI (pc := 18) dM_ruleNameNow_18 rfl rfl h

theorem vM_ruleNameNow_32 {M : Mm} {b : Nat × Nat} {K : Int32 → Mm → Prop} {v0 : Nat} {w0 : Int32} (kv0 : v0 % 64 = 11) 
    (h : (w0 = 0 → (X mM_ruleNameNow 50 [(0, .ref v0)] [] M b (QI K))) ∧ (¬ w0 = 0 → (CI mM_goesOn [.ref v0, .int 4, .int 115, .int 0, .int 0] M (fun rv N => X mM_ruleNameNow 44 [(0, .ref v0)] [.int rv] N b (QI K))))) : X mM_ruleNameNow 32 [(0, .ref v0)] [.int w0] M b (QI K) := by
  refine x_wf (fun hw => ?_)
  obtain ⟨g1_0, g1_1⟩ := h
  refine x_if_eq (pc := 32) dM_ruleNameNow_32 (t := 50) rfl (fun q1 => ?_) (fun q1 => ?_)
  · have h := g1_0 q1
    exact h
  · refine x_aload_n (pc := 35) dM_ruleNameNow_35 rfl (q := 0) rfl ?_
    refine x_iconst (pc := 36) dM_ruleNameNow_36 (v := 4) rfl ?_
    refine x_bipush (pc := 37) dM_ruleNameNow_37 (v := 115) rfl ?_
    refine x_iconst (pc := 39) dM_ruleNameNow_39 (v := 0) rfl ?_
    refine x_iconst (pc := 40) dM_ruleNameNow_40 (v := 0) rfl ?_
    have h := g1_1 q1
    exact x_invV (pc := 41) dM_ruleNameNow_41 (c := 11) (S := []) (As := [.int 4, .int 115, .int 0, .int 0]) mlM_150 hM_goesOn rfl (by decide) rfl kv0 ⟨by decide, by decide⟩ ⟨Nat.zero_le _, Nat.zero_le _⟩ rfl (Nat.le_of_ble_eq_true rfl) (aftI (b' := b) ⟨Nat.le_refl _, Nat.le_refl _⟩ (fun rv N h => h) h)

theorem vM_ruleNameNow_44 {M : Mm} {b : Nat × Nat} {K : Int32 → Mm → Prop} {v0 : Nat} {w0 : Int32}  
    (h : (w0 = 0 → (X mM_ruleNameNow 50 [(0, .ref v0)] [] M b (QI K))) ∧ (¬ w0 = 0 → (K 13 M))) : X mM_ruleNameNow 44 [(0, .ref v0)] [.int w0] M b (QI K) := by
  refine x_wf (fun hw => ?_)
  obtain ⟨g1_0, g1_1⟩ := h
  refine x_if_eq (pc := 44) dM_ruleNameNow_44 (t := 50) rfl (fun q1 => ?_) (fun q1 => ?_)
  · have h := g1_0 q1
    exact h
  · refine x_bipush (pc := 47) dM_ruleNameNow_47 (v := 13) rfl ?_
    have h := g1_1 q1
    exact x_retQI (pc := 49) dM_ruleNameNow_49 rfl rfl h

theorem vM_ruleNameNow_50 {M : Mm} {b : Nat × Nat} {K : Int32 → Mm → Prop} {v0 : Nat} (kv0 : v0 % 64 = 11) 
    (h : CI mM_is [.ref v0, .int 3, .int 116, .int 119, .int 111, .int 0] M (fun rv N => X mM_ruleNameNow 62 [(0, .ref v0)] [.int rv] N b (QI K))) : X mM_ruleNameNow 50 [(0, .ref v0)] [] M b (QI K) := by
  refine x_wf (fun hw => ?_)
  refine x_aload_n (pc := 50) dM_ruleNameNow_50 rfl (q := 0) rfl ?_
  refine x_iconst (pc := 51) dM_ruleNameNow_51 (v := 3) rfl ?_
  refine x_bipush (pc := 52) dM_ruleNameNow_52 (v := 116) rfl ?_
  refine x_bipush (pc := 54) dM_ruleNameNow_54 (v := 119) rfl ?_
  refine x_bipush (pc := 56) dM_ruleNameNow_56 (v := 111) rfl ?_
  refine x_iconst (pc := 58) dM_ruleNameNow_58 (v := 0) rfl ?_
  exact x_invV (pc := 59) dM_ruleNameNow_59 (c := 11) (S := []) (As := [.int 3, .int 116, .int 119, .int 111, .int 0]) mlM_146 hM_is rfl (by decide) rfl kv0 ⟨by decide, by decide⟩ ⟨Nat.zero_le _, Nat.zero_le _⟩ rfl (Nat.le_of_ble_eq_true rfl) (aftI (b' := b) ⟨Nat.le_refl _, Nat.le_refl _⟩ (fun rv N h => h) h)

theorem vM_ruleNameNow_62 {M : Mm} {b : Nat × Nat} {K : Int32 → Mm → Prop} {v0 : Nat} {w0 : Int32} (kv0 : v0 % 64 = 11) 
    (h : (w0 = 0 → (CI mM_is [.ref v0, .int 4, .int 104, .int 101, .int 97, .int 100] M (fun rv N => X mM_ruleNameNow 81 [(0, .ref v0)] [.int rv] N b (QI K)))) ∧ (¬ w0 = 0 → (K 14 M))) : X mM_ruleNameNow 62 [(0, .ref v0)] [.int w0] M b (QI K) := by
  refine x_wf (fun hw => ?_)
  obtain ⟨g1_0, g1_1⟩ := h
  refine x_if_eq (pc := 62) dM_ruleNameNow_62 (t := 68) rfl (fun q1 => ?_) (fun q1 => ?_)
  · refine x_aload_n (pc := 68) dM_ruleNameNow_68 rfl (q := 0) rfl ?_
    refine x_iconst (pc := 69) dM_ruleNameNow_69 (v := 4) rfl ?_
    refine x_bipush (pc := 70) dM_ruleNameNow_70 (v := 104) rfl ?_
    refine x_bipush (pc := 72) dM_ruleNameNow_72 (v := 101) rfl ?_
    refine x_bipush (pc := 74) dM_ruleNameNow_74 (v := 97) rfl ?_
    refine x_bipush (pc := 76) dM_ruleNameNow_76 (v := 100) rfl ?_
    have h := g1_0 q1
    exact x_invV (pc := 78) dM_ruleNameNow_78 (c := 11) (S := []) (As := [.int 4, .int 104, .int 101, .int 97, .int 100]) mlM_146 hM_is rfl (by decide) rfl kv0 ⟨by decide, by decide⟩ ⟨Nat.zero_le _, Nat.zero_le _⟩ rfl (Nat.le_of_ble_eq_true rfl) (aftI (b' := b) ⟨Nat.le_refl _, Nat.le_refl _⟩ (fun rv N h => h) h)
  · refine x_bipush (pc := 65) dM_ruleNameNow_65 (v := 14) rfl ?_
    have h := g1_1 q1
    exact x_retQI (pc := 67) dM_ruleNameNow_67 rfl rfl h

theorem vM_ruleNameNow_81 {M : Mm} {b : Nat × Nat} {K : Int32 → Mm → Prop} {v0 : Nat} {w0 : Int32} (kv0 : v0 % 64 = 11) 
    (h : (w0 = 0 → (CI mM_is [.ref v0, .int 6, .int 115, .int 105, .int 108, .int 101] M (fun rv N => X mM_ruleNameNow 101 [(0, .ref v0)] [.int rv] N b (QI K)))) ∧ (¬ w0 = 0 → (K 15 M))) : X mM_ruleNameNow 81 [(0, .ref v0)] [.int w0] M b (QI K) := by
  refine x_wf (fun hw => ?_)
  obtain ⟨g1_0, g1_1⟩ := h
  refine x_if_eq (pc := 81) dM_ruleNameNow_81 (t := 87) rfl (fun q1 => ?_) (fun q1 => ?_)
  · refine x_aload_n (pc := 87) dM_ruleNameNow_87 rfl (q := 0) rfl ?_
    refine x_bipush (pc := 88) dM_ruleNameNow_88 (v := 6) rfl ?_
    refine x_bipush (pc := 90) dM_ruleNameNow_90 (v := 115) rfl ?_
    refine x_bipush (pc := 92) dM_ruleNameNow_92 (v := 105) rfl ?_
    refine x_bipush (pc := 94) dM_ruleNameNow_94 (v := 108) rfl ?_
    refine x_bipush (pc := 96) dM_ruleNameNow_96 (v := 101) rfl ?_
    have h := g1_0 q1
    exact x_invV (pc := 98) dM_ruleNameNow_98 (c := 11) (S := []) (As := [.int 6, .int 115, .int 105, .int 108, .int 101]) mlM_146 hM_is rfl (by decide) rfl kv0 ⟨by decide, by decide⟩ ⟨Nat.zero_le _, Nat.zero_le _⟩ rfl (Nat.le_of_ble_eq_true rfl) (aftI (b' := b) ⟨Nat.le_refl _, Nat.le_refl _⟩ (fun rv N h => h) h)
  · refine x_bipush (pc := 84) dM_ruleNameNow_84 (v := 15) rfl ?_
    have h := g1_1 q1
    exact x_retQI (pc := 86) dM_ruleNameNow_86 rfl rfl h

theorem vM_ruleNameNow_101 {M : Mm} {b : Nat × Nat} {K : Int32 → Mm → Prop} {v0 : Nat} {w0 : Int32} (kv0 : v0 % 64 = 11) 
    (h : (w0 = 0 → (X mM_ruleNameNow 120 [(0, .ref v0)] [] M b (QI K))) ∧ (¬ w0 = 0 → (CI mM_goesOn [.ref v0, .int 4, .int 110, .int 116, .int 0] M (fun rv N => X mM_ruleNameNow 114 [(0, .ref v0)] [.int rv] N b (QI K))))) : X mM_ruleNameNow 101 [(0, .ref v0)] [.int w0] M b (QI K) := by
  refine x_wf (fun hw => ?_)
  obtain ⟨g1_0, g1_1⟩ := h
  refine x_if_eq (pc := 101) dM_ruleNameNow_101 (t := 120) rfl (fun q1 => ?_) (fun q1 => ?_)
  · have h := g1_0 q1
    exact h
  · refine x_aload_n (pc := 104) dM_ruleNameNow_104 rfl (q := 0) rfl ?_
    refine x_iconst (pc := 105) dM_ruleNameNow_105 (v := 4) rfl ?_
    refine x_bipush (pc := 106) dM_ruleNameNow_106 (v := 110) rfl ?_
    refine x_bipush (pc := 108) dM_ruleNameNow_108 (v := 116) rfl ?_
    refine x_iconst (pc := 110) dM_ruleNameNow_110 (v := 0) rfl ?_
    have h := g1_1 q1
    exact x_invV (pc := 111) dM_ruleNameNow_111 (c := 11) (S := []) (As := [.int 4, .int 110, .int 116, .int 0]) mlM_150 hM_goesOn rfl (by decide) rfl kv0 ⟨by decide, by decide⟩ ⟨Nat.zero_le _, Nat.zero_le _⟩ rfl (Nat.le_of_ble_eq_true rfl) (aftI (b' := b) ⟨Nat.le_refl _, Nat.le_refl _⟩ (fun rv N h => h) h)

theorem vM_ruleNameNow_114 {M : Mm} {b : Nat × Nat} {K : Int32 → Mm → Prop} {v0 : Nat} {w0 : Int32}  
    (h : (w0 = 0 → (X mM_ruleNameNow 120 [(0, .ref v0)] [] M b (QI K))) ∧ (¬ w0 = 0 → (K 16 M))) : X mM_ruleNameNow 114 [(0, .ref v0)] [.int w0] M b (QI K) := by
  refine x_wf (fun hw => ?_)
  obtain ⟨g1_0, g1_1⟩ := h
  refine x_if_eq (pc := 114) dM_ruleNameNow_114 (t := 120) rfl (fun q1 => ?_) (fun q1 => ?_)
  · have h := g1_0 q1
    exact h
  · refine x_bipush (pc := 117) dM_ruleNameNow_117 (v := 16) rfl ?_
    have h := g1_1 q1
    exact x_retQI (pc := 119) dM_ruleNameNow_119 rfl rfl h

theorem vM_ruleNameNow_120 {M : Mm} {b : Nat × Nat} {K : Int32 → Mm → Prop} {v0 : Nat} (kv0 : v0 % 64 = 11) 
    (h : CI mM_is [.ref v0, .int 4, .int 108, .int 97, .int 119, .int 115] M (fun rv N => X mM_ruleNameNow 133 [(0, .ref v0)] [.int rv] N b (QI K))) : X mM_ruleNameNow 120 [(0, .ref v0)] [] M b (QI K) := by
  refine x_wf (fun hw => ?_)
  refine x_aload_n (pc := 120) dM_ruleNameNow_120 rfl (q := 0) rfl ?_
  refine x_iconst (pc := 121) dM_ruleNameNow_121 (v := 4) rfl ?_
  refine x_bipush (pc := 122) dM_ruleNameNow_122 (v := 108) rfl ?_
  refine x_bipush (pc := 124) dM_ruleNameNow_124 (v := 97) rfl ?_
  refine x_bipush (pc := 126) dM_ruleNameNow_126 (v := 119) rfl ?_
  refine x_bipush (pc := 128) dM_ruleNameNow_128 (v := 115) rfl ?_
  exact x_invV (pc := 130) dM_ruleNameNow_130 (c := 11) (S := []) (As := [.int 4, .int 108, .int 97, .int 119, .int 115]) mlM_146 hM_is rfl (by decide) rfl kv0 ⟨by decide, by decide⟩ ⟨Nat.zero_le _, Nat.zero_le _⟩ rfl (Nat.le_of_ble_eq_true rfl) (aftI (b' := b) ⟨Nat.le_refl _, Nat.le_refl _⟩ (fun rv N h => h) h)

theorem vM_ruleNameNow_133 {M : Mm} {b : Nat × Nat} {K : Int32 → Mm → Prop} {v0 : Nat} {w0 : Int32} (kv0 : v0 % 64 = 11) 
    (h : (w0 = 0 → (CI mM_is [.ref v0, .int 5, .int 108, .int 97, .int 116, .int 101] M (fun rv N => X mM_ruleNameNow 152 [(0, .ref v0)] [.int rv] N b (QI K)))) ∧ (¬ w0 = 0 → (K 17 M))) : X mM_ruleNameNow 133 [(0, .ref v0)] [.int w0] M b (QI K) := by
  refine x_wf (fun hw => ?_)
  obtain ⟨g1_0, g1_1⟩ := h
  refine x_if_eq (pc := 133) dM_ruleNameNow_133 (t := 139) rfl (fun q1 => ?_) (fun q1 => ?_)
  · refine x_aload_n (pc := 139) dM_ruleNameNow_139 rfl (q := 0) rfl ?_
    refine x_iconst (pc := 140) dM_ruleNameNow_140 (v := 5) rfl ?_
    refine x_bipush (pc := 141) dM_ruleNameNow_141 (v := 108) rfl ?_
    refine x_bipush (pc := 143) dM_ruleNameNow_143 (v := 97) rfl ?_
    refine x_bipush (pc := 145) dM_ruleNameNow_145 (v := 116) rfl ?_
    refine x_bipush (pc := 147) dM_ruleNameNow_147 (v := 101) rfl ?_
    have h := g1_0 q1
    exact x_invV (pc := 149) dM_ruleNameNow_149 (c := 11) (S := []) (As := [.int 5, .int 108, .int 97, .int 116, .int 101]) mlM_146 hM_is rfl (by decide) rfl kv0 ⟨by decide, by decide⟩ ⟨Nat.zero_le _, Nat.zero_le _⟩ rfl (Nat.le_of_ble_eq_true rfl) (aftI (b' := b) ⟨Nat.le_refl _, Nat.le_refl _⟩ (fun rv N h => h) h)
  · refine x_bipush (pc := 136) dM_ruleNameNow_136 (v := 17) rfl ?_
    have h := g1_1 q1
    exact x_retQI (pc := 138) dM_ruleNameNow_138 rfl rfl h

theorem vM_ruleNameNow_152 {M : Mm} {b : Nat × Nat} {K : Int32 → Mm → Prop} {v0 : Nat} {w0 : Int32} (kv0 : v0 % 64 = 11) 
    (h : (w0 = 0 → (X mM_ruleNameNow 170 [(0, .ref v0)] [] M b (QI K))) ∧ (¬ w0 = 0 → (CI mM_goesOn [.ref v0, .int 4, .int 114, .int 0, .int 0] M (fun rv N => X mM_ruleNameNow 164 [(0, .ref v0)] [.int rv] N b (QI K))))) : X mM_ruleNameNow 152 [(0, .ref v0)] [.int w0] M b (QI K) := by
  refine x_wf (fun hw => ?_)
  obtain ⟨g1_0, g1_1⟩ := h
  refine x_if_eq (pc := 152) dM_ruleNameNow_152 (t := 170) rfl (fun q1 => ?_) (fun q1 => ?_)
  · have h := g1_0 q1
    exact h
  · refine x_aload_n (pc := 155) dM_ruleNameNow_155 rfl (q := 0) rfl ?_
    refine x_iconst (pc := 156) dM_ruleNameNow_156 (v := 4) rfl ?_
    refine x_bipush (pc := 157) dM_ruleNameNow_157 (v := 114) rfl ?_
    refine x_iconst (pc := 159) dM_ruleNameNow_159 (v := 0) rfl ?_
    refine x_iconst (pc := 160) dM_ruleNameNow_160 (v := 0) rfl ?_
    have h := g1_1 q1
    exact x_invV (pc := 161) dM_ruleNameNow_161 (c := 11) (S := []) (As := [.int 4, .int 114, .int 0, .int 0]) mlM_150 hM_goesOn rfl (by decide) rfl kv0 ⟨by decide, by decide⟩ ⟨Nat.zero_le _, Nat.zero_le _⟩ rfl (Nat.le_of_ble_eq_true rfl) (aftI (b' := b) ⟨Nat.le_refl _, Nat.le_refl _⟩ (fun rv N h => h) h)

theorem vM_ruleNameNow_164 {M : Mm} {b : Nat × Nat} {K : Int32 → Mm → Prop} {v0 : Nat} {w0 : Int32}  
    (h : (w0 = 0 → (X mM_ruleNameNow 170 [(0, .ref v0)] [] M b (QI K))) ∧ (¬ w0 = 0 → (K 18 M))) : X mM_ruleNameNow 164 [(0, .ref v0)] [.int w0] M b (QI K) := by
  refine x_wf (fun hw => ?_)
  obtain ⟨g1_0, g1_1⟩ := h
  refine x_if_eq (pc := 164) dM_ruleNameNow_164 (t := 170) rfl (fun q1 => ?_) (fun q1 => ?_)
  · have h := g1_0 q1
    exact h
  · refine x_bipush (pc := 167) dM_ruleNameNow_167 (v := 18) rfl ?_
    have h := g1_1 q1
    exact x_retQI (pc := 169) dM_ruleNameNow_169 rfl rfl h

theorem vM_ruleNameNow_170 {M : Mm} {b : Nat × Nat} {K : Int32 → Mm → Prop} {v0 : Nat} (kv0 : v0 % 64 = 11) 
    (h : CI mM_is [.ref v0, .int 7, .int 115, .int 112, .int 101, .int 99] M (fun rv N => X mM_ruleNameNow 184 [(0, .ref v0)] [.int rv] N b (QI K))) : X mM_ruleNameNow 170 [(0, .ref v0)] [] M b (QI K) := by
  refine x_wf (fun hw => ?_)
  refine x_aload_n (pc := 170) dM_ruleNameNow_170 rfl (q := 0) rfl ?_
  refine x_bipush (pc := 171) dM_ruleNameNow_171 (v := 7) rfl ?_
  refine x_bipush (pc := 173) dM_ruleNameNow_173 (v := 115) rfl ?_
  refine x_bipush (pc := 175) dM_ruleNameNow_175 (v := 112) rfl ?_
  refine x_bipush (pc := 177) dM_ruleNameNow_177 (v := 101) rfl ?_
  refine x_bipush (pc := 179) dM_ruleNameNow_179 (v := 99) rfl ?_
  exact x_invV (pc := 181) dM_ruleNameNow_181 (c := 11) (S := []) (As := [.int 7, .int 115, .int 112, .int 101, .int 99]) mlM_146 hM_is rfl (by decide) rfl kv0 ⟨by decide, by decide⟩ ⟨Nat.zero_le _, Nat.zero_le _⟩ rfl (Nat.le_of_ble_eq_true rfl) (aftI (b' := b) ⟨Nat.le_refl _, Nat.le_refl _⟩ (fun rv N h => h) h)

theorem vM_ruleNameNow_184 {M : Mm} {b : Nat × Nat} {K : Int32 → Mm → Prop} {v0 : Nat} {w0 : Int32} (kv0 : v0 % 64 = 11) 
    (h : (w0 = 0 → (X mM_ruleNameNow 204 [(0, .ref v0)] [] M b (QI K))) ∧ (¬ w0 = 0 → (CI mM_goesOn [.ref v0, .int 4, .int 105, .int 97, .int 108] M (fun rv N => X mM_ruleNameNow 198 [(0, .ref v0)] [.int rv] N b (QI K))))) : X mM_ruleNameNow 184 [(0, .ref v0)] [.int w0] M b (QI K) := by
  refine x_wf (fun hw => ?_)
  obtain ⟨g1_0, g1_1⟩ := h
  refine x_if_eq (pc := 184) dM_ruleNameNow_184 (t := 204) rfl (fun q1 => ?_) (fun q1 => ?_)
  · have h := g1_0 q1
    exact h
  · refine x_aload_n (pc := 187) dM_ruleNameNow_187 rfl (q := 0) rfl ?_
    refine x_iconst (pc := 188) dM_ruleNameNow_188 (v := 4) rfl ?_
    refine x_bipush (pc := 189) dM_ruleNameNow_189 (v := 105) rfl ?_
    refine x_bipush (pc := 191) dM_ruleNameNow_191 (v := 97) rfl ?_
    refine x_bipush (pc := 193) dM_ruleNameNow_193 (v := 108) rfl ?_
    have h := g1_1 q1
    exact x_invV (pc := 195) dM_ruleNameNow_195 (c := 11) (S := []) (As := [.int 4, .int 105, .int 97, .int 108]) mlM_150 hM_goesOn rfl (by decide) rfl kv0 ⟨by decide, by decide⟩ ⟨Nat.zero_le _, Nat.zero_le _⟩ rfl (Nat.le_of_ble_eq_true rfl) (aftI (b' := b) ⟨Nat.le_refl _, Nat.le_refl _⟩ (fun rv N h => h) h)

theorem vM_ruleNameNow_198 {M : Mm} {b : Nat × Nat} {K : Int32 → Mm → Prop} {v0 : Nat} {w0 : Int32}  
    (h : (w0 = 0 → (X mM_ruleNameNow 204 [(0, .ref v0)] [] M b (QI K))) ∧ (¬ w0 = 0 → (K 19 M))) : X mM_ruleNameNow 198 [(0, .ref v0)] [.int w0] M b (QI K) := by
  refine x_wf (fun hw => ?_)
  obtain ⟨g1_0, g1_1⟩ := h
  refine x_if_eq (pc := 198) dM_ruleNameNow_198 (t := 204) rfl (fun q1 => ?_) (fun q1 => ?_)
  · have h := g1_0 q1
    exact h
  · refine x_bipush (pc := 201) dM_ruleNameNow_201 (v := 19) rfl ?_
    have h := g1_1 q1
    exact x_retQI (pc := 203) dM_ruleNameNow_203 rfl rfl h

theorem vM_ruleNameNow_204 {M : Mm} {b : Nat × Nat} {K : Int32 → Mm → Prop} {v0 : Nat} (kv0 : v0 % 64 = 11) 
    (h : CI mM_is [.ref v0, .int 4, .int 110, .int 111, .int 110, .int 101] M (fun rv N => X mM_ruleNameNow 217 [(0, .ref v0)] [.int rv] N b (QI K))) : X mM_ruleNameNow 204 [(0, .ref v0)] [] M b (QI K) := by
  refine x_wf (fun hw => ?_)
  refine x_aload_n (pc := 204) dM_ruleNameNow_204 rfl (q := 0) rfl ?_
  refine x_iconst (pc := 205) dM_ruleNameNow_205 (v := 4) rfl ?_
  refine x_bipush (pc := 206) dM_ruleNameNow_206 (v := 110) rfl ?_
  refine x_bipush (pc := 208) dM_ruleNameNow_208 (v := 111) rfl ?_
  refine x_bipush (pc := 210) dM_ruleNameNow_210 (v := 110) rfl ?_
  refine x_bipush (pc := 212) dM_ruleNameNow_212 (v := 101) rfl ?_
  exact x_invV (pc := 214) dM_ruleNameNow_214 (c := 11) (S := []) (As := [.int 4, .int 110, .int 111, .int 110, .int 101]) mlM_146 hM_is rfl (by decide) rfl kv0 ⟨by decide, by decide⟩ ⟨Nat.zero_le _, Nat.zero_le _⟩ rfl (Nat.le_of_ble_eq_true rfl) (aftI (b' := b) ⟨Nat.le_refl _, Nat.le_refl _⟩ (fun rv N h => h) h)

theorem vM_ruleNameNow_217 {M : Mm} {b : Nat × Nat} {K : Int32 → Mm → Prop} {v0 : Nat} {w0 : Int32} (kv0 : v0 % 64 = 11) 
    (h : (w0 = 0 → (CI mM_is [.ref v0, .int 5, .int 102, .int 105, .int 114, .int 115] M (fun rv N => X mM_ruleNameNow 236 [(0, .ref v0)] [.int rv] N b (QI K)))) ∧ (¬ w0 = 0 → (K 20 M))) : X mM_ruleNameNow 217 [(0, .ref v0)] [.int w0] M b (QI K) := by
  refine x_wf (fun hw => ?_)
  obtain ⟨g1_0, g1_1⟩ := h
  refine x_if_eq (pc := 217) dM_ruleNameNow_217 (t := 223) rfl (fun q1 => ?_) (fun q1 => ?_)
  · refine x_aload_n (pc := 223) dM_ruleNameNow_223 rfl (q := 0) rfl ?_
    refine x_iconst (pc := 224) dM_ruleNameNow_224 (v := 5) rfl ?_
    refine x_bipush (pc := 225) dM_ruleNameNow_225 (v := 102) rfl ?_
    refine x_bipush (pc := 227) dM_ruleNameNow_227 (v := 105) rfl ?_
    refine x_bipush (pc := 229) dM_ruleNameNow_229 (v := 114) rfl ?_
    refine x_bipush (pc := 231) dM_ruleNameNow_231 (v := 115) rfl ?_
    have h := g1_0 q1
    exact x_invV (pc := 233) dM_ruleNameNow_233 (c := 11) (S := []) (As := [.int 5, .int 102, .int 105, .int 114, .int 115]) mlM_146 hM_is rfl (by decide) rfl kv0 ⟨by decide, by decide⟩ ⟨Nat.zero_le _, Nat.zero_le _⟩ rfl (Nat.le_of_ble_eq_true rfl) (aftI (b' := b) ⟨Nat.le_refl _, Nat.le_refl _⟩ (fun rv N h => h) h)
  · refine x_bipush (pc := 220) dM_ruleNameNow_220 (v := 20) rfl ?_
    have h := g1_1 q1
    exact x_retQI (pc := 222) dM_ruleNameNow_222 rfl rfl h

theorem vM_ruleNameNow_236 {M : Mm} {b : Nat × Nat} {K : Int32 → Mm → Prop} {v0 : Nat} {w0 : Int32} (kv0 : v0 % 64 = 11) 
    (h : (w0 = 0 → (X mM_ruleNameNow 254 [(0, .ref v0)] [] M b (QI K))) ∧ (¬ w0 = 0 → (CI mM_goesOn [.ref v0, .int 4, .int 116, .int 0, .int 0] M (fun rv N => X mM_ruleNameNow 248 [(0, .ref v0)] [.int rv] N b (QI K))))) : X mM_ruleNameNow 236 [(0, .ref v0)] [.int w0] M b (QI K) := by
  refine x_wf (fun hw => ?_)
  obtain ⟨g1_0, g1_1⟩ := h
  refine x_if_eq (pc := 236) dM_ruleNameNow_236 (t := 254) rfl (fun q1 => ?_) (fun q1 => ?_)
  · have h := g1_0 q1
    exact h
  · refine x_aload_n (pc := 239) dM_ruleNameNow_239 rfl (q := 0) rfl ?_
    refine x_iconst (pc := 240) dM_ruleNameNow_240 (v := 4) rfl ?_
    refine x_bipush (pc := 241) dM_ruleNameNow_241 (v := 116) rfl ?_
    refine x_iconst (pc := 243) dM_ruleNameNow_243 (v := 0) rfl ?_
    refine x_iconst (pc := 244) dM_ruleNameNow_244 (v := 0) rfl ?_
    have h := g1_1 q1
    exact x_invV (pc := 245) dM_ruleNameNow_245 (c := 11) (S := []) (As := [.int 4, .int 116, .int 0, .int 0]) mlM_150 hM_goesOn rfl (by decide) rfl kv0 ⟨by decide, by decide⟩ ⟨Nat.zero_le _, Nat.zero_le _⟩ rfl (Nat.le_of_ble_eq_true rfl) (aftI (b' := b) ⟨Nat.le_refl _, Nat.le_refl _⟩ (fun rv N h => h) h)

theorem vM_ruleNameNow_248 {M : Mm} {b : Nat × Nat} {K : Int32 → Mm → Prop} {v0 : Nat} {w0 : Int32}  
    (h : (w0 = 0 → (X mM_ruleNameNow 254 [(0, .ref v0)] [] M b (QI K))) ∧ (¬ w0 = 0 → (K 21 M))) : X mM_ruleNameNow 248 [(0, .ref v0)] [.int w0] M b (QI K) := by
  refine x_wf (fun hw => ?_)
  obtain ⟨g1_0, g1_1⟩ := h
  refine x_if_eq (pc := 248) dM_ruleNameNow_248 (t := 254) rfl (fun q1 => ?_) (fun q1 => ?_)
  · have h := g1_0 q1
    exact h
  · refine x_bipush (pc := 251) dM_ruleNameNow_251 (v := 21) rfl ?_
    have h := g1_1 q1
    exact x_retQI (pc := 253) dM_ruleNameNow_253 rfl rfl h

theorem vM_ruleNameNow_254 {M : Mm} {b : Nat × Nat} {K : Int32 → Mm → Prop} {v0 : Nat} (kv0 : v0 % 64 = 11) 
    (h : CI mM_is [.ref v0, .int 3, .int 121, .int 101, .int 115, .int 0] M (fun rv N => X mM_ruleNameNow 266 [(0, .ref v0)] [.int rv] N b (QI K))) : X mM_ruleNameNow 254 [(0, .ref v0)] [] M b (QI K) := by
  refine x_wf (fun hw => ?_)
  refine x_aload_n (pc := 254) dM_ruleNameNow_254 rfl (q := 0) rfl ?_
  refine x_iconst (pc := 255) dM_ruleNameNow_255 (v := 3) rfl ?_
  refine x_bipush (pc := 256) dM_ruleNameNow_256 (v := 121) rfl ?_
  refine x_bipush (pc := 258) dM_ruleNameNow_258 (v := 101) rfl ?_
  refine x_bipush (pc := 260) dM_ruleNameNow_260 (v := 115) rfl ?_
  refine x_iconst (pc := 262) dM_ruleNameNow_262 (v := 0) rfl ?_
  exact x_invV (pc := 263) dM_ruleNameNow_263 (c := 11) (S := []) (As := [.int 3, .int 121, .int 101, .int 115, .int 0]) mlM_146 hM_is rfl (by decide) rfl kv0 ⟨by decide, by decide⟩ ⟨Nat.zero_le _, Nat.zero_le _⟩ rfl (Nat.le_of_ble_eq_true rfl) (aftI (b' := b) ⟨Nat.le_refl _, Nat.le_refl _⟩ (fun rv N h => h) h)

theorem vM_ruleNameNow_266 {M : Mm} {b : Nat × Nat} {K : Int32 → Mm → Prop} {v0 : Nat} {w0 : Int32} (kv0 : v0 % 64 = 11) 
    (h : (w0 = 0 → (CI mM_is [.ref v0, .int 2, .int 110, .int 111, .int 0, .int 0] M (fun rv N => X mM_ruleNameNow 285 [(0, .ref v0)] [.int rv] N b (QI K)))) ∧ (¬ w0 = 0 → (K 22 M))) : X mM_ruleNameNow 266 [(0, .ref v0)] [.int w0] M b (QI K) := by
  refine x_wf (fun hw => ?_)
  obtain ⟨g1_0, g1_1⟩ := h
  refine x_if_eq (pc := 266) dM_ruleNameNow_266 (t := 274) rfl (fun q1 => ?_) (fun q1 => ?_)
  · refine x_aload_n (pc := 274) dM_ruleNameNow_274 rfl (q := 0) rfl ?_
    refine x_iconst (pc := 275) dM_ruleNameNow_275 (v := 2) rfl ?_
    refine x_bipush (pc := 276) dM_ruleNameNow_276 (v := 110) rfl ?_
    refine x_bipush (pc := 278) dM_ruleNameNow_278 (v := 111) rfl ?_
    refine x_iconst (pc := 280) dM_ruleNameNow_280 (v := 0) rfl ?_
    refine x_iconst (pc := 281) dM_ruleNameNow_281 (v := 0) rfl ?_
    have h := g1_0 q1
    exact x_invV (pc := 282) dM_ruleNameNow_282 (c := 11) (S := []) (As := [.int 2, .int 110, .int 111, .int 0, .int 0]) mlM_146 hM_is rfl (by decide) rfl kv0 ⟨by decide, by decide⟩ ⟨Nat.zero_le _, Nat.zero_le _⟩ rfl (Nat.le_of_ble_eq_true rfl) (aftI (b' := b) ⟨Nat.le_refl _, Nat.le_refl _⟩ (fun rv N h => h) h)
  · refine x_bipush (pc := 269) dM_ruleNameNow_269 (v := 22) rfl ?_
    refine x_goto (pc := 271) dM_ruleNameNow_271 (t := 316) rfl ?_
    have h := g1_1 q1
    exact x_retQI (pc := 316) dM_ruleNameNow_316 rfl rfl h

theorem vM_ruleNameNow_285 {M : Mm} {b : Nat × Nat} {K : Int32 → Mm → Prop} {v0 : Nat} {w0 : Int32} (kv0 : v0 % 64 = 11) 
    (h : (w0 = 0 → (CI mM_is [.ref v0, .int 4, .int 111, .int 112, .int 101, .int 110] M (fun rv N => X mM_ruleNameNow 306 [] [.int rv] N b (QI K)))) ∧ (¬ w0 = 0 → (K 23 M))) : X mM_ruleNameNow 285 [(0, .ref v0)] [.int w0] M b (QI K) := by
  refine x_wf (fun hw => ?_)
  obtain ⟨g1_0, g1_1⟩ := h
  refine x_if_eq (pc := 285) dM_ruleNameNow_285 (t := 293) rfl (fun q1 => ?_) (fun q1 => ?_)
  · refine x_aload_n (pc := 293) dM_ruleNameNow_293 rfl (q := 0) rfl ?_
    refine x_iconst (pc := 294) dM_ruleNameNow_294 (v := 4) rfl ?_
    refine x_bipush (pc := 295) dM_ruleNameNow_295 (v := 111) rfl ?_
    refine x_bipush (pc := 297) dM_ruleNameNow_297 (v := 112) rfl ?_
    refine x_bipush (pc := 299) dM_ruleNameNow_299 (v := 101) rfl ?_
    refine x_bipush (pc := 301) dM_ruleNameNow_301 (v := 110) rfl ?_
    have h := g1_0 q1
    exact x_invV (pc := 303) dM_ruleNameNow_303 (c := 11) (S := []) (As := [.int 4, .int 111, .int 112, .int 101, .int 110]) mlM_146 hM_is rfl (by decide) rfl kv0 ⟨by decide, by decide⟩ ⟨Nat.zero_le _, Nat.zero_le _⟩ rfl (Nat.le_of_ble_eq_true rfl) (aftI (b' := b) ⟨Nat.le_refl _, Nat.le_refl _⟩ (fun rv N h => x_loc [] rfl h) h)
  · refine x_bipush (pc := 288) dM_ruleNameNow_288 (v := 23) rfl ?_
    refine x_goto (pc := 290) dM_ruleNameNow_290 (t := 316) rfl ?_
    have h := g1_1 q1
    exact x_retQI (pc := 316) dM_ruleNameNow_316 rfl rfl h

theorem vM_ruleNameNow_306 {M : Mm} {b : Nat × Nat} {K : Int32 → Mm → Prop} {w0 : Int32}  
    (h : K (if w0 = 0 then (-4) else 24 : Int32) M) : X mM_ruleNameNow 306 [] [.int w0] M b (QI K) := by
  refine x_wf (fun hw => ?_)
  suffices hJ : X mM_ruleNameNow 316 [] [.int (if w0 = 0 then (-4) else 24 : Int32)] M b (QI K) by
    refine x_if_eq (pc := 306) dM_ruleNameNow_306 (t := 314) rfl (fun q1 => ?_) (fun q1 => ?_)
    · refine x_bipush (pc := 314) dM_ruleNameNow_314 (v := (-4)) rfl ?_
      first | (rw [if_pos q1] at hJ; exact hJ) | (simp only [if_pos q1] at hJ ⊢; exact hJ)
    · refine x_bipush (pc := 309) dM_ruleNameNow_309 (v := 24) rfl ?_
      refine x_goto (pc := 311) dM_ruleNameNow_311 (t := 316) rfl ?_
      first | (rw [if_neg q1] at hJ; exact hJ) | (simp only [if_neg q1] at hJ ⊢; exact hJ)
  exact x_retQI (pc := 316) dM_ruleNameNow_316 rfl rfl h

theorem dM_readNumber_0 : decode (mB mM_readNumber) 0 = .ok (.aload_n 0, 1) := op42 (by decide +kernel)
theorem dM_readNumber_1 : decode (mB mM_readNumber) 1 = .ok (.iload_n 1, 1) := op27 (by decide +kernel)
theorem dM_readNumber_2 : decode (mB mM_readNumber) 2 = .ok (.iload_n 2, 1) := op28 (by decide +kernel)
theorem dM_readNumber_3 : decode (mB mM_readNumber) 3 = .ok (.invokevirtual 176, 3) := op182 0 176 (by decide +kernel)
theorem dM_readNumber_6 : decode (mB mM_readNumber) 6 = .ok (.aload_n 0, 1) := op42 (by decide +kernel)
theorem dM_readNumber_7 : decode (mB mM_readNumber) 7 = .ok (.getfield 169, 3) := op180 0 169 (by decide +kernel)
theorem dM_readNumber_10 : decode (mB mM_readNumber) 10 = .ok (.istore_n 3, 1) := op62 (by decide +kernel)
theorem dM_readNumber_11 : decode (mB mM_readNumber) 11 = .ok (.aload_n 0, 1) := op42 (by decide +kernel)
theorem dM_readNumber_12 : decode (mB mM_readNumber) 12 = .ok (.invokevirtual 180, 3) := op182 0 180 (by decide +kernel)
theorem dM_readNumber_15 : decode (mB mM_readNumber) 15 = .ok (.iload_n 3, 1) := op29 (by decide +kernel)
theorem dM_readNumber_16 : decode (mB mM_readNumber) 16 = .ok (.ireturn, 1) := op172 (by decide +kernel)

theorem vM_readNumber_0 {M : Mm} {b : Nat × Nat} {K : Int32 → Mm → Prop} {v0 : Nat} {v1 : Int32} {v2 : Int32} (kv0 : v0 % 64 = 11) 
    (h : CV mM_isNumber [.ref v0, .int v1, .int v2] M (fun N => X mM_readNumber 6 [(0, .ref v0)] [] N b (QI K))) : X mM_readNumber 0 [(0, .ref v0), (1, .int v1), (2, .int v2)] [] M b (QI K) := by
  refine x_wf (fun hw => ?_)
  refine x_aload_n (pc := 0) dM_readNumber_0 rfl (q := 0) rfl ?_
  refine x_iload_n (pc := 1) dM_readNumber_1 rfl (q := 1) rfl ?_
  refine x_iload_n (pc := 2) dM_readNumber_2 rfl (q := 2) rfl ?_
  exact x_invV (pc := 3) dM_readNumber_3 (c := 11) (S := []) (As := [.int v1, .int v2]) mlM_176 hM_isNumber rfl (by decide) rfl kv0 ⟨by decide, by decide⟩ ⟨Nat.zero_le _, Nat.zero_le _⟩ rfl (Nat.le_of_ble_eq_true rfl) (aftV (b' := b) ⟨Nat.le_refl _, Nat.le_refl _⟩ (fun N h => x_loc [0] rfl h) h)

theorem vM_readNumber_6 {M : Mm} {b : Nat × Nat} {K : Int32 → Mm → Prop} {v0 : Nat} (kv0 : v0 % 64 = 11) 
    (h : CV mM_next [.ref v0] M (fun N => X mM_readNumber 15 [(3, .int (gi M v0 15))] [] N b (QI K))) : X mM_readNumber 6 [(0, .ref v0)] [] M b (QI K) := by
  refine x_wf (fun hw => ?_)
  refine x_aload_n (pc := 6) dM_readNumber_6 rfl (q := 0) rfl ?_
  refine x_getI (pc := 7) dM_readNumber_7 kv0 flM_169 rfl ?_
  refine x_istore_n (pc := 10) dM_readNumber_10 rfl (by decide) (L' := [(3, .int (gi M v0 15)), (0, .ref v0)]) rfl ?_
  refine x_aload_n (pc := 11) dM_readNumber_11 rfl (q := 1) rfl ?_
  exact x_invV (pc := 12) dM_readNumber_12 (c := 11) (S := []) (As := []) mlM_180 hM_next rfl (by decide) rfl kv0 ⟨by decide, by decide⟩ ⟨Nat.zero_le _, Nat.zero_le _⟩ rfl (Nat.le_of_ble_eq_true rfl) (aftV (b' := b) ⟨Nat.le_refl _, Nat.le_refl _⟩ (fun N h => x_loc [0] rfl h) h)

theorem vM_readNumber_15 {M : Mm} {b : Nat × Nat} {K : Int32 → Mm → Prop} {v3 : Int32}  
    (h : K v3 M) : X mM_readNumber 15 [(3, .int v3)] [] M b (QI K) := by
  refine x_wf (fun hw => ?_)
  refine x_iload_n (pc := 15) dM_readNumber_15 rfl (q := 0) rfl ?_
  exact x_retQI (pc := 16) dM_readNumber_16 rfl rfl h

theorem dM_isNumber_0 : decode (mB mM_isNumber) 0 = .ok (.aload_n 0, 1) := op42 (by decide +kernel)
theorem dM_isNumber_1 : decode (mB mM_isNumber) 1 = .ok (.getfield 130, 3) := op180 0 130 (by decide +kernel)
theorem dM_isNumber_4 : decode (mB mM_isNumber) 4 = .ok (.ifCond .ne 21, 3) := op154 0 21 (by decide +kernel)
theorem dM_isNumber_7 : decode (mB mM_isNumber) 7 = .ok (.aload_n 0, 1) := op42 (by decide +kernel)
theorem dM_isNumber_8 : decode (mB mM_isNumber) 8 = .ok (.aload_n 0, 1) := op42 (by decide +kernel)
theorem dM_isNumber_9 : decode (mB mM_isNumber) 9 = .ok (.getfield 158, 3) := op180 0 158 (by decide +kernel)
theorem dM_isNumber_12 : decode (mB mM_isNumber) 12 = .ok (.iconst 2, 1) := op5 (by decide +kernel)
theorem dM_isNumber_13 : decode (mB mM_isNumber) 13 = .ok (.if_icmp .ne 7, 3) := op160 0 7 (by decide +kernel)
theorem dM_isNumber_16 : decode (mB mM_isNumber) 16 = .ok (.iconst 1, 1) := op4 (by decide +kernel)
theorem dM_isNumber_17 : decode (mB mM_isNumber) 17 = .ok (.goto 4, 3) := op167 0 4 (by decide +kernel)
theorem dM_isNumber_20 : decode (mB mM_isNumber) 20 = .ok (.iconst 0, 1) := op3 (by decide +kernel)
theorem dM_isNumber_21 : decode (mB mM_isNumber) 21 = .ok (.iconst 2, 1) := op5 (by decide +kernel)
theorem dM_isNumber_22 : decode (mB mM_isNumber) 22 = .ok (.invokevirtual 172, 3) := op182 0 172 (by decide +kernel)
theorem dM_isNumber_25 : decode (mB mM_isNumber) 25 = .ok (.aload_n 0, 1) := op42 (by decide +kernel)
theorem dM_isNumber_26 : decode (mB mM_isNumber) 26 = .ok (.getfield 130, 3) := op180 0 130 (by decide +kernel)
theorem dM_isNumber_29 : decode (mB mM_isNumber) 29 = .ok (.ifCond .ne 20, 3) := op154 0 20 (by decide +kernel)
theorem dM_isNumber_32 : decode (mB mM_isNumber) 32 = .ok (.aload_n 0, 1) := op42 (by decide +kernel)
theorem dM_isNumber_33 : decode (mB mM_isNumber) 33 = .ok (.aload_n 0, 1) := op42 (by decide +kernel)
theorem dM_isNumber_34 : decode (mB mM_isNumber) 34 = .ok (.getfield 169, 3) := op180 0 169 (by decide +kernel)
theorem dM_isNumber_37 : decode (mB mM_isNumber) 37 = .ok (.i2l, 1) := op133 (by decide +kernel)
theorem dM_isNumber_38 : decode (mB mM_isNumber) 38 = .ok (.iload_n 1, 1) := op27 (by decide +kernel)
theorem dM_isNumber_39 : decode (mB mM_isNumber) 39 = .ok (.i2l, 1) := op133 (by decide +kernel)
theorem dM_isNumber_40 : decode (mB mM_isNumber) 40 = .ok (.iload_n 2, 1) := op28 (by decide +kernel)
theorem dM_isNumber_41 : decode (mB mM_isNumber) 41 = .ok (.i2l, 1) := op133 (by decide +kernel)
theorem dM_isNumber_42 : decode (mB mM_isNumber) 42 = .ok (.invokestatic 126, 3) := op184 0 126 (by decide +kernel)
theorem dM_isNumber_45 : decode (mB mM_isNumber) 45 = .ok (.iconst 3, 1) := op6 (by decide +kernel)
theorem dM_isNumber_46 : decode (mB mM_isNumber) 46 = .ok (.invokevirtual 172, 3) := op182 0 172 (by decide +kernel)
theorem dM_isNumber_49 : decode (mB mM_isNumber) 49 = .ok (.return_, 1) := op177 (by decide +kernel)

theorem vM_isNumber_0 {M : Mm} {b : Nat × Nat} {K : Mm → Prop} {v0 : Nat} {v1 : Int32} {v2 : Int32} (kv0 : v0 % 64 = 11) 
    (h : (¬ (gi M v0 16) = 0 → (X mM_isNumber 25 [(0, .ref v0), (1, .int v1), (2, .int v2)] [] M b (QV K))) ∧ (((gi M v0 16) = 0 ∧ ¬ (gi M v0 14) = 2) → (X mM_isNumber 21 [(0, .ref v0), (1, .int v1), (2, .int v2)] [.int 0, .ref v0] M b (QV K))) ∧ (((gi M v0 16) = 0 ∧ (gi M v0 14) = 2) → (X mM_isNumber 21 [(0, .ref v0), (1, .int v1), (2, .int v2)] [.int 1, .ref v0] M b (QV K)))) : X mM_isNumber 0 [(0, .ref v0), (1, .int v1), (2, .int v2)] [] M b (QV K) := by
  refine x_wf (fun hw => ?_)
  refine x_aload_n (pc := 0) dM_isNumber_0 rfl (q := 0) rfl ?_
  refine x_getI (pc := 1) dM_isNumber_1 kv0 flM_130 rfl ?_
  obtain ⟨g1_0, g1_1, g1_2⟩ := h
  refine x_if_ne (pc := 4) dM_isNumber_4 (t := 25) rfl (fun q1 => ?_) (fun q1 => ?_)
  · have h := g1_0 q1
    exact h
  · refine x_aload_n (pc := 7) dM_isNumber_7 rfl (q := 0) rfl ?_
    refine x_aload_n (pc := 8) dM_isNumber_8 rfl (q := 0) rfl ?_
    refine x_getI (pc := 9) dM_isNumber_9 kv0 flM_158 rfl ?_
    refine x_iconst (pc := 12) dM_isNumber_12 (v := 2) rfl ?_
    refine x_icmp_ne (pc := 13) dM_isNumber_13 (t := 20) rfl (fun q2 => ?_) (fun q2 => ?_)
    · refine x_iconst (pc := 20) dM_isNumber_20 (v := 0) rfl ?_
      have h := g1_1 ⟨q1, q2⟩
      exact h
    · refine x_iconst (pc := 16) dM_isNumber_16 (v := 1) rfl ?_
      refine x_goto (pc := 17) dM_isNumber_17 (t := 21) rfl ?_
      have h := g1_2 ⟨q1, q2⟩
      exact h

theorem vM_isNumber_21 {M : Mm} {b : Nat × Nat} {K : Mm → Prop} {v0 : Nat} {v1 : Int32} {v2 : Int32} {w0 : Int32} {w1 : Nat} (kw1 : w1 % 64 = 11) 
    (h : CV mM_wants [.ref w1, .int w0, .int 2] M (fun N => X mM_isNumber 25 [(0, .ref v0), (1, .int v1), (2, .int v2)] [] N b (QV K))) : X mM_isNumber 21 [(0, .ref v0), (1, .int v1), (2, .int v2)] [.int w0, .ref w1] M b (QV K) := by
  refine x_wf (fun hw => ?_)
  refine x_iconst (pc := 21) dM_isNumber_21 (v := 2) rfl ?_
  exact x_invV (pc := 22) dM_isNumber_22 (c := 11) (S := []) (As := [.int w0, .int 2]) mlM_172 hM_wants rfl (by decide) rfl kw1 ⟨by decide, by decide⟩ ⟨Nat.zero_le _, Nat.zero_le _⟩ rfl (Nat.le_of_ble_eq_true rfl) (aftV (b' := b) ⟨Nat.le_refl _, Nat.le_refl _⟩ (fun N h => h) h)

theorem vM_isNumber_25 {M : Mm} {b : Nat × Nat} {K : Mm → Prop} {v0 : Nat} {v1 : Int32} {v2 : Int32} (kv0 : v0 % 64 = 11) 
    (h : (¬ (gi M v0 16) = 0 → (K M)) ∧ ((gi M v0 16) = 0 → (CI mM_in [.long ((gi M v0 15).toInt64), .long ((v1).toInt64), .long ((v2).toInt64)] M (fun rv N => X mM_isNumber 45 [] [.int rv, .ref v0] N b (QV K))))) : X mM_isNumber 25 [(0, .ref v0), (1, .int v1), (2, .int v2)] [] M b (QV K) := by
  refine x_wf (fun hw => ?_)
  refine x_aload_n (pc := 25) dM_isNumber_25 rfl (q := 0) rfl ?_
  refine x_getI (pc := 26) dM_isNumber_26 kv0 flM_130 rfl ?_
  obtain ⟨g1_0, g1_1⟩ := h
  refine x_if_ne (pc := 29) dM_isNumber_29 (t := 49) rfl (fun q1 => ?_) (fun q1 => ?_)
  · have h := g1_0 q1
    exact x_retQV (pc := 49) dM_isNumber_49 rfl h
  · refine x_aload_n (pc := 32) dM_isNumber_32 rfl (q := 0) rfl ?_
    refine x_aload_n (pc := 33) dM_isNumber_33 rfl (q := 0) rfl ?_
    refine x_getI (pc := 34) dM_isNumber_34 kv0 flM_169 rfl ?_
    refine x_i2l (pc := 37) dM_isNumber_37 ?_
    refine x_iload_n (pc := 38) dM_isNumber_38 rfl (q := 1) rfl ?_
    refine x_i2l (pc := 39) dM_isNumber_39 ?_
    refine x_iload_n (pc := 40) dM_isNumber_40 rfl (q := 2) rfl ?_
    refine x_i2l (pc := 41) dM_isNumber_41 ?_
    have h := g1_1 q1
    exact x_invS (pc := 42) dM_isNumber_42 (S := [.ref v0]) (As := [.long ((gi M v0 15).toInt64), .long ((v1).toInt64), .long ((v2).toInt64)]) mlM_126 hM_in rfl ⟨by decide, by decide⟩ ⟨Nat.zero_le _, Nat.zero_le _⟩ rfl (Nat.le_of_ble_eq_true rfl) (aftI (b' := b) ⟨Nat.le_refl _, Nat.le_refl _⟩ (fun rv N h => x_loc [] rfl h) h)

theorem vM_isNumber_45 {M : Mm} {b : Nat × Nat} {K : Mm → Prop} {w0 : Int32} {w1 : Nat} (kw1 : w1 % 64 = 11) 
    (h : CV mM_wants [.ref w1, .int w0, .int 3] M (fun N => X mM_isNumber 49 [] [] N b (QV K))) : X mM_isNumber 45 [] [.int w0, .ref w1] M b (QV K) := by
  refine x_wf (fun hw => ?_)
  refine x_iconst (pc := 45) dM_isNumber_45 (v := 3) rfl ?_
  exact x_invV (pc := 46) dM_isNumber_46 (c := 11) (S := []) (As := [.int w0, .int 3]) mlM_172 hM_wants rfl (by decide) rfl kw1 ⟨by decide, by decide⟩ ⟨Nat.zero_le _, Nat.zero_le _⟩ rfl (Nat.le_of_ble_eq_true rfl) (aftV (b' := b) ⟨Nat.le_refl _, Nat.le_refl _⟩ (fun N h => h) h)

theorem vM_isNumber_49 {M : Mm} {b : Nat × Nat} {K : Mm → Prop}   
    (h : K M) : X mM_isNumber 49 [] [] M b (QV K) := by
  refine x_wf (fun hw => ?_)
  exact x_retQV (pc := 49) dM_isNumber_49 rfl h

theorem dM_readCopies_0 : decode (mB mM_readCopies) 0 = .ok (.aload_n 0, 1) := op42 (by decide +kernel)
theorem dM_readCopies_1 : decode (mB mM_readCopies) 1 = .ok (.iconst 0, 1) := op3 (by decide +kernel)
theorem dM_readCopies_2 : decode (mB mM_readCopies) 2 = .ok (.bipush 7, 2) := op16 7 (by decide +kernel)
theorem dM_readCopies_4 : decode (mB mM_readCopies) 4 = .ok (.invokevirtual 176, 3) := op182 0 176 (by decide +kernel)
theorem dM_readCopies_7 : decode (mB mM_readCopies) 7 = .ok (.aload_n 0, 1) := op42 (by decide +kernel)
theorem dM_readCopies_8 : decode (mB mM_readCopies) 8 = .ok (.getfield 169, 3) := op180 0 169 (by decide +kernel)
theorem dM_readCopies_11 : decode (mB mM_readCopies) 11 = .ok (.istore_n 1, 1) := op60 (by decide +kernel)
theorem dM_readCopies_12 : decode (mB mM_readCopies) 12 = .ok (.aload_n 0, 1) := op42 (by decide +kernel)
theorem dM_readCopies_13 : decode (mB mM_readCopies) 13 = .ok (.getfield 130, 3) := op180 0 130 (by decide +kernel)
theorem dM_readCopies_16 : decode (mB mM_readCopies) 16 = .ok (.ifCond .ne 22, 3) := op154 0 22 (by decide +kernel)
theorem dM_readCopies_19 : decode (mB mM_readCopies) 19 = .ok (.aload_n 0, 1) := op42 (by decide +kernel)
theorem dM_readCopies_20 : decode (mB mM_readCopies) 20 = .ok (.aload_n 0, 1) := op42 (by decide +kernel)
theorem dM_readCopies_21 : decode (mB mM_readCopies) 21 = .ok (.getfield 22, 3) := op180 0 22 (by decide +kernel)
theorem dM_readCopies_24 : decode (mB mM_readCopies) 24 = .ok (.iload_n 1, 1) := op27 (by decide +kernel)
theorem dM_readCopies_25 : decode (mB mM_readCopies) 25 = .ok (.baload, 1) := op51 (by decide +kernel)
theorem dM_readCopies_26 : decode (mB mM_readCopies) 26 = .ok (.ifCond .ne 7, 3) := op154 0 7 (by decide +kernel)
theorem dM_readCopies_29 : decode (mB mM_readCopies) 29 = .ok (.iconst 1, 1) := op4 (by decide +kernel)
theorem dM_readCopies_30 : decode (mB mM_readCopies) 30 = .ok (.goto 4, 3) := op167 0 4 (by decide +kernel)
theorem dM_readCopies_33 : decode (mB mM_readCopies) 33 = .ok (.iconst 0, 1) := op3 (by decide +kernel)
theorem dM_readCopies_34 : decode (mB mM_readCopies) 34 = .ok (.iconst 4, 1) := op7 (by decide +kernel)
theorem dM_readCopies_35 : decode (mB mM_readCopies) 35 = .ok (.invokevirtual 172, 3) := op182 0 172 (by decide +kernel)
theorem dM_readCopies_38 : decode (mB mM_readCopies) 38 = .ok (.aload_n 0, 1) := op42 (by decide +kernel)
theorem dM_readCopies_39 : decode (mB mM_readCopies) 39 = .ok (.invokevirtual 180, 3) := op182 0 180 (by decide +kernel)
theorem dM_readCopies_42 : decode (mB mM_readCopies) 42 = .ok (.aload_n 0, 1) := op42 (by decide +kernel)
theorem dM_readCopies_43 : decode (mB mM_readCopies) 43 = .ok (.iconst 0, 1) := op3 (by decide +kernel)
theorem dM_readCopies_44 : decode (mB mM_readCopies) 44 = .ok (.bipush 9, 2) := op16 9 (by decide +kernel)
theorem dM_readCopies_46 : decode (mB mM_readCopies) 46 = .ok (.invokevirtual 192, 3) := op182 0 192 (by decide +kernel)
theorem dM_readCopies_49 : decode (mB mM_readCopies) 49 = .ok (.istore_n 2, 1) := op61 (by decide +kernel)
theorem dM_readCopies_50 : decode (mB mM_readCopies) 50 = .ok (.aload_n 0, 1) := op42 (by decide +kernel)
theorem dM_readCopies_51 : decode (mB mM_readCopies) 51 = .ok (.getfield 130, 3) := op180 0 130 (by decide +kernel)
theorem dM_readCopies_54 : decode (mB mM_readCopies) 54 = .ok (.ifCond .ne 17, 3) := op154 0 17 (by decide +kernel)
theorem dM_readCopies_57 : decode (mB mM_readCopies) 57 = .ok (.aload_n 0, 1) := op42 (by decide +kernel)
theorem dM_readCopies_58 : decode (mB mM_readCopies) 58 = .ok (.getfield 22, 3) := op180 0 22 (by decide +kernel)
theorem dM_readCopies_61 : decode (mB mM_readCopies) 61 = .ok (.iload_n 1, 1) := op27 (by decide +kernel)
theorem dM_readCopies_62 : decode (mB mM_readCopies) 62 = .ok (.iconst 1, 1) := op4 (by decide +kernel)
theorem dM_readCopies_63 : decode (mB mM_readCopies) 63 = .ok (.bastore, 1) := op84 (by decide +kernel)
theorem dM_readCopies_64 : decode (mB mM_readCopies) 64 = .ok (.aload_n 0, 1) := op42 (by decide +kernel)
theorem dM_readCopies_65 : decode (mB mM_readCopies) 65 = .ok (.getfield 19, 3) := op180 0 19 (by decide +kernel)
theorem dM_readCopies_68 : decode (mB mM_readCopies) 68 = .ok (.iload_n 1, 1) := op27 (by decide +kernel)
theorem dM_readCopies_69 : decode (mB mM_readCopies) 69 = .ok (.iload_n 2, 1) := op28 (by decide +kernel)
theorem dM_readCopies_70 : decode (mB mM_readCopies) 70 = .ok (.iastore, 1) := op79 (by decide +kernel)
theorem dM_readCopies_71 : decode (mB mM_readCopies) 71 = .ok (.return_, 1) := op177 (by decide +kernel)

theorem vM_readCopies_0 {M : Mm} {b : Nat × Nat} {K : Mm → Prop} {v0 : Nat} (kv0 : v0 % 64 = 11) 
    (h : CV mM_isNumber [.ref v0, .int 0, .int 7] M (fun N => X mM_readCopies 7 [(0, .ref v0)] [] N b (QV K))) : X mM_readCopies 0 [(0, .ref v0)] [] M b (QV K) := by
  refine x_wf (fun hw => ?_)
  refine x_aload_n (pc := 0) dM_readCopies_0 rfl (q := 0) rfl ?_
  refine x_iconst (pc := 1) dM_readCopies_1 (v := 0) rfl ?_
  refine x_bipush (pc := 2) dM_readCopies_2 (v := 7) rfl ?_
  exact x_invV (pc := 4) dM_readCopies_4 (c := 11) (S := []) (As := [.int 0, .int 7]) mlM_176 hM_isNumber rfl (by decide) rfl kv0 ⟨by decide, by decide⟩ ⟨Nat.zero_le _, Nat.zero_le _⟩ rfl (Nat.le_of_ble_eq_true rfl) (aftV (b' := b) ⟨Nat.le_refl _, Nat.le_refl _⟩ (fun N h => h) h)

theorem vM_readCopies_7 {M : Mm} {b : Nat × Nat} {K : Mm → Prop} {v0 : Nat} {r1 : Nat} (kv0 : v0 % 64 = 11) (e1 : gr M v0 6 = some r1)
    (h : ((gi M v0 16) = 0 → vp_in (gi M v0 15) 8) ∧ (¬ (gi M v0 16) = 0 → (X mM_readCopies 38 [(0, .ref v0), (1, .int (gi M v0 15))] [] M b (QV K))) ∧ (((gi M v0 16) = 0 ∧ ¬ (gi M r1 (gi M v0 15).toNatClampNeg) = 0) → (X mM_readCopies 34 [(0, .ref v0), (1, .int (gi M v0 15))] [.int 0, .ref v0] M b (QV K))) ∧ (((gi M v0 16) = 0 ∧ (gi M r1 (gi M v0 15).toNatClampNeg) = 0) → (X mM_readCopies 34 [(0, .ref v0), (1, .int (gi M v0 15))] [.int 1, .ref v0] M b (QV K)))) : X mM_readCopies 7 [(0, .ref v0)] [] M b (QV K) := by
  refine x_wf (fun hw => ?_)
  refine x_aload_n (pc := 7) dM_readCopies_7 rfl (q := 0) rfl ?_
  refine x_getI (pc := 8) dM_readCopies_8 kv0 flM_169 rfl ?_
  refine x_istore_n (pc := 11) dM_readCopies_11 rfl (by decide) (L' := [(1, .int (gi M v0 15)), (0, .ref v0)]) rfl ?_
  refine x_aload_n (pc := 12) dM_readCopies_12 rfl (q := 1) rfl ?_
  refine x_getI (pc := 13) dM_readCopies_13 kv0 flM_130 rfl ?_
  obtain ⟨s1, g1_0, g1_1, g1_2⟩ := h
  refine x_if_ne (pc := 16) dM_readCopies_16 (t := 38) rfl (fun q1 => ?_) (fun q1 => ?_)
  · have h := g1_0 q1
    exact x_loc [1, 0] rfl h
  · refine x_aload_n (pc := 19) dM_readCopies_19 rfl (q := 1) rfl ?_
    refine x_aload_n (pc := 20) dM_readCopies_20 rfl (q := 1) rfl ?_
    refine x_getR (pc := 21) dM_readCopies_21 kv0 flM_22 rfl e1 ?_
    refine x_iload_n (pc := 24) dM_readCopies_24 rfl (q := 0) rfl ?_
    refine x_aldIj (pc := 25) (j := (gi M v0 15).toNatClampNeg) (Or.inr (Or.inr ⟨rfl, rfl⟩)) dM_readCopies_25 (wfk hw e1 kv0) ak_24 rfl (s1 q1) ?_
    refine x_if_ne (pc := 26) dM_readCopies_26 (t := 33) rfl (fun q2 => ?_) (fun q2 => ?_)
    · refine x_iconst (pc := 33) dM_readCopies_33 (v := 0) rfl ?_
      have h := g1_1 ⟨q1, q2⟩
      exact x_loc [1, 0] rfl h
    · refine x_iconst (pc := 29) dM_readCopies_29 (v := 1) rfl ?_
      refine x_goto (pc := 30) dM_readCopies_30 (t := 34) rfl ?_
      have h := g1_2 ⟨q1, q2⟩
      exact x_loc [1, 0] rfl h

theorem vM_readCopies_34 {M : Mm} {b : Nat × Nat} {K : Mm → Prop} {v0 : Nat} {v1 : Int32} {w0 : Int32} {w1 : Nat} (kw1 : w1 % 64 = 11) 
    (h : CV mM_wants [.ref w1, .int w0, .int 4] M (fun N => X mM_readCopies 38 [(0, .ref v0), (1, .int v1)] [] N b (QV K))) : X mM_readCopies 34 [(0, .ref v0), (1, .int v1)] [.int w0, .ref w1] M b (QV K) := by
  refine x_wf (fun hw => ?_)
  refine x_iconst (pc := 34) dM_readCopies_34 (v := 4) rfl ?_
  exact x_invV (pc := 35) dM_readCopies_35 (c := 11) (S := []) (As := [.int w0, .int 4]) mlM_172 hM_wants rfl (by decide) rfl kw1 ⟨by decide, by decide⟩ ⟨Nat.zero_le _, Nat.zero_le _⟩ rfl (Nat.le_of_ble_eq_true rfl) (aftV (b' := b) ⟨Nat.le_refl _, Nat.le_refl _⟩ (fun N h => h) h)

theorem vM_readCopies_38 {M : Mm} {b : Nat × Nat} {K : Mm → Prop} {v0 : Nat} {v1 : Int32} (kv0 : v0 % 64 = 11) 
    (h : CV mM_next [.ref v0] M (fun N => X mM_readCopies 42 [(0, .ref v0), (1, .int v1)] [] N b (QV K))) : X mM_readCopies 38 [(0, .ref v0), (1, .int v1)] [] M b (QV K) := by
  refine x_wf (fun hw => ?_)
  refine x_aload_n (pc := 38) dM_readCopies_38 rfl (q := 0) rfl ?_
  exact x_invV (pc := 39) dM_readCopies_39 (c := 11) (S := []) (As := []) mlM_180 hM_next rfl (by decide) rfl kv0 ⟨by decide, by decide⟩ ⟨Nat.zero_le _, Nat.zero_le _⟩ rfl (Nat.le_of_ble_eq_true rfl) (aftV (b' := b) ⟨Nat.le_refl _, Nat.le_refl _⟩ (fun N h => h) h)

theorem vM_readCopies_42 {M : Mm} {b : Nat × Nat} {K : Mm → Prop} {v0 : Nat} {v1 : Int32} (kv0 : v0 % 64 = 11) 
    (h : CI mM_readNumber [.ref v0, .int 0, .int 9] M (fun rv N => X mM_readCopies 49 [(0, .ref v0), (1, .int v1)] [.int rv] N b (QV K))) : X mM_readCopies 42 [(0, .ref v0), (1, .int v1)] [] M b (QV K) := by
  refine x_wf (fun hw => ?_)
  refine x_aload_n (pc := 42) dM_readCopies_42 rfl (q := 0) rfl ?_
  refine x_iconst (pc := 43) dM_readCopies_43 (v := 0) rfl ?_
  refine x_bipush (pc := 44) dM_readCopies_44 (v := 9) rfl ?_
  exact x_invV (pc := 46) dM_readCopies_46 (c := 11) (S := []) (As := [.int 0, .int 9]) mlM_192 hM_readNumber rfl (by decide) rfl kv0 ⟨by decide, by decide⟩ ⟨Nat.zero_le _, Nat.zero_le _⟩ rfl (Nat.le_of_ble_eq_true rfl) (aftI (b' := b) ⟨Nat.le_refl _, Nat.le_refl _⟩ (fun rv N h => h) h)

theorem vM_readCopies_49 {M : Mm} {b : Nat × Nat} {K : Mm → Prop} {v0 : Nat} {v1 : Int32} {w0 : Int32} {r1 : Nat} {r2 : Nat} (kv0 : v0 % 64 = 11) (e1 : gr M v0 6 = some r1) (e2 : gr M v0 5 = some r2)
    (h : (¬ (gi M v0 16) = 0 → (K M)) ∧ ((gi M v0 16) = 0 → (vp_in v1 8 ∧ (vp_in v1 8 ∧ (K (si (si M r1 (v1).toNatClampNeg (vp_nar .boolean 1)) r2 (v1).toNatClampNeg w0)))))) : X mM_readCopies 49 [(0, .ref v0), (1, .int v1)] [.int w0] M b (QV K) := by
  refine x_wf (fun hw => ?_)
  refine x_istore_n (pc := 49) dM_readCopies_49 rfl (by decide) (L' := [(2, .int w0), (0, .ref v0), (1, .int v1)]) rfl ?_
  refine x_aload_n (pc := 50) dM_readCopies_50 rfl (q := 1) rfl ?_
  refine x_getI (pc := 51) dM_readCopies_51 kv0 flM_130 rfl ?_
  obtain ⟨g1_0, g1_1⟩ := h
  refine x_if_ne (pc := 54) dM_readCopies_54 (t := 71) rfl (fun q1 => ?_) (fun q1 => ?_)
  · have h := g1_0 q1
    exact x_retQV (pc := 71) dM_readCopies_71 rfl h
  · refine x_aload_n (pc := 57) dM_readCopies_57 rfl (q := 1) rfl ?_
    refine x_getR (pc := 58) dM_readCopies_58 kv0 flM_22 rfl e1 ?_
    refine x_iload_n (pc := 61) dM_readCopies_61 rfl (q := 2) rfl ?_
    refine x_iconst (pc := 62) dM_readCopies_62 (v := 1) rfl ?_
    have h := g1_1 q1
    obtain ⟨s501, h⟩ := h
    refine x_astIj (pc := 63) (j := (v1).toNatClampNeg) (v := vp_nar .boolean 1) (Or.inr (Or.inr ⟨rfl, rfl, rfl⟩)) dM_readCopies_63 (wfk hw e1 kv0) ak_24 rfl s501 ?_
    refine x_aload_n (pc := 64) dM_readCopies_64 rfl (q := 1) rfl ?_
    refine x_getR (pc := 65) dM_readCopies_65 kv0 flM_19 rfl e2 ?_
    refine x_iload_n (pc := 68) dM_readCopies_68 rfl (q := 2) rfl ?_
    refine x_iload_n (pc := 69) dM_readCopies_69 rfl (q := 0) rfl ?_
    obtain ⟨s502, h⟩ := h
    refine x_astIj (pc := 70) (j := (v1).toNatClampNeg) (v := w0) (Or.inl ⟨rfl, rfl, rfl⟩) dM_readCopies_70 (wfk hw e2 kv0) ak_13 rfl s502 ?_
    exact x_retQV (pc := 71) dM_readCopies_71 rfl h

theorem dM_readWord_0 : decode (mB mM_readWord) 0 = .ok (.bipush 10, 2) := op16 10 (by decide +kernel)
theorem dM_readWord_2 : decode (mB mM_readWord) 2 = .ok (.aload_n 0, 1) := op42 (by decide +kernel)
theorem dM_readWord_3 : decode (mB mM_readWord) 3 = .ok (.getfield 106, 3) := op180 0 106 (by decide +kernel)
theorem dM_readWord_6 : decode (mB mM_readWord) 6 = .ok (.imul, 1) := op104 (by decide +kernel)
theorem dM_readWord_7 : decode (mB mM_readWord) 7 = .ok (.istore_n 2, 1) := op61 (by decide +kernel)
theorem dM_readWord_8 : decode (mB mM_readWord) 8 = .ok (.iload_n 1, 1) := op27 (by decide +kernel)
theorem dM_readWord_9 : decode (mB mM_readWord) 9 = .ok (.iconst 5, 1) := op8 (by decide +kernel)
theorem dM_readWord_10 : decode (mB mM_readWord) 10 = .ok (.if_icmp .ne 14, 3) := op160 0 14 (by decide +kernel)
theorem dM_readWord_13 : decode (mB mM_readWord) 13 = .ok (.aload_n 0, 1) := op42 (by decide +kernel)
theorem dM_readWord_14 : decode (mB mM_readWord) 14 = .ok (.iconst 0, 1) := op3 (by decide +kernel)
theorem dM_readWord_15 : decode (mB mM_readWord) 15 = .ok (.sipush 999, 3) := op17 3 231 (by decide +kernel)
theorem dM_readWord_18 : decode (mB mM_readWord) 18 = .ok (.invokevirtual 192, 3) := op182 0 192 (by decide +kernel)
theorem dM_readWord_21 : decode (mB mM_readWord) 21 = .ok (.goto 5, 3) := op167 0 5 (by decide +kernel)
theorem dM_readWord_24 : decode (mB mM_readWord) 24 = .ok (.bipush (-4), 2) := op16 252 (by decide +kernel)
theorem dM_readWord_26 : decode (mB mM_readWord) 26 = .ok (.istore_n 3, 1) := op62 (by decide +kernel)
theorem dM_readWord_27 : decode (mB mM_readWord) 27 = .ok (.iload_n 1, 1) := op27 (by decide +kernel)
theorem dM_readWord_28 : decode (mB mM_readWord) 28 = .ok (.iconst 5, 1) := op8 (by decide +kernel)
theorem dM_readWord_29 : decode (mB mM_readWord) 29 = .ok (.if_icmp .ne 8, 3) := op160 0 8 (by decide +kernel)
theorem dM_readWord_32 : decode (mB mM_readWord) 32 = .ok (.bipush (-4), 2) := op16 252 (by decide +kernel)
theorem dM_readWord_34 : decode (mB mM_readWord) 34 = .ok (.goto 7, 3) := op167 0 7 (by decide +kernel)
theorem dM_readWord_37 : decode (mB mM_readWord) 37 = .ok (.aload_n 0, 1) := op42 (by decide +kernel)
theorem dM_readWord_38 : decode (mB mM_readWord) 38 = .ok (.invokevirtual 195, 3) := op182 0 195 (by decide +kernel)
theorem dM_readWord_41 : decode (mB mM_readWord) 41 = .ok (.istore 4, 2) := op54 4 (by decide +kernel)
theorem dM_readWord_43 : decode (mB mM_readWord) 43 = .ok (.iload_n 1, 1) := op27 (by decide +kernel)
theorem dM_readWord_44 : decode (mB mM_readWord) 44 = .ok (.ifCond .eq 13, 3) := op153 0 13 (by decide +kernel)
theorem dM_readWord_47 : decode (mB mM_readWord) 47 = .ok (.iload_n 1, 1) := op27 (by decide +kernel)
theorem dM_readWord_48 : decode (mB mM_readWord) 48 = .ok (.iconst 5, 1) := op8 (by decide +kernel)
theorem dM_readWord_49 : decode (mB mM_readWord) 49 = .ok (.if_icmp .eq 8, 3) := op159 0 8 (by decide +kernel)
theorem dM_readWord_52 : decode (mB mM_readWord) 52 = .ok (.iload_n 1, 1) := op27 (by decide +kernel)
theorem dM_readWord_53 : decode (mB mM_readWord) 53 = .ok (.iconst 4, 1) := op7 (by decide +kernel)
theorem dM_readWord_54 : decode (mB mM_readWord) 54 = .ok (.if_icmp .ne 11, 3) := op160 0 11 (by decide +kernel)
theorem dM_readWord_57 : decode (mB mM_readWord) 57 = .ok (.aload_n 0, 1) := op42 (by decide +kernel)
theorem dM_readWord_58 : decode (mB mM_readWord) 58 = .ok (.iconst 0, 1) := op3 (by decide +kernel)
theorem dM_readWord_59 : decode (mB mM_readWord) 59 = .ok (.invokevirtual 198, 3) := op182 0 198 (by decide +kernel)
theorem dM_readWord_62 : decode (mB mM_readWord) 62 = .ok (.goto 4, 3) := op167 0 4 (by decide +kernel)
theorem dM_readWord_65 : decode (mB mM_readWord) 65 = .ok (.iconst 0, 1) := op3 (by decide +kernel)
theorem dM_readWord_66 : decode (mB mM_readWord) 66 = .ok (.istore 5, 2) := op54 5 (by decide +kernel)
theorem dM_readWord_68 : decode (mB mM_readWord) 68 = .ok (.iload_n 1, 1) := op27 (by decide +kernel)
theorem dM_readWord_69 : decode (mB mM_readWord) 69 = .ok (.ifCond .eq 8, 3) := op153 0 8 (by decide +kernel)
theorem dM_readWord_72 : decode (mB mM_readWord) 72 = .ok (.iload_n 1, 1) := op27 (by decide +kernel)
theorem dM_readWord_73 : decode (mB mM_readWord) 73 = .ok (.iconst 5, 1) := op8 (by decide +kernel)
theorem dM_readWord_74 : decode (mB mM_readWord) 74 = .ok (.if_icmp .ne 12, 3) := op160 0 12 (by decide +kernel)
theorem dM_readWord_77 : decode (mB mM_readWord) 77 = .ok (.aload_n 0, 1) := op42 (by decide +kernel)
theorem dM_readWord_78 : decode (mB mM_readWord) 78 = .ok (.iload 5, 2) := op21 5 (by decide +kernel)
theorem dM_readWord_80 : decode (mB mM_readWord) 80 = .ok (.invokevirtual 198, 3) := op182 0 198 (by decide +kernel)
theorem dM_readWord_83 : decode (mB mM_readWord) 83 = .ok (.goto 4, 3) := op167 0 4 (by decide +kernel)
theorem dM_readWord_86 : decode (mB mM_readWord) 86 = .ok (.iconst 0, 1) := op3 (by decide +kernel)
theorem dM_readWord_87 : decode (mB mM_readWord) 87 = .ok (.istore 6, 2) := op54 6 (by decide +kernel)
theorem dM_readWord_89 : decode (mB mM_readWord) 89 = .ok (.iload_n 1, 1) := op27 (by decide +kernel)
theorem dM_readWord_90 : decode (mB mM_readWord) 90 = .ok (.ifCond .eq 8, 3) := op153 0 8 (by decide +kernel)
theorem dM_readWord_93 : decode (mB mM_readWord) 93 = .ok (.iload_n 1, 1) := op27 (by decide +kernel)
theorem dM_readWord_94 : decode (mB mM_readWord) 94 = .ok (.iconst 5, 1) := op8 (by decide +kernel)
theorem dM_readWord_95 : decode (mB mM_readWord) 95 = .ok (.if_icmp .ne 10, 3) := op160 0 10 (by decide +kernel)
theorem dM_readWord_98 : decode (mB mM_readWord) 98 = .ok (.aload_n 0, 1) := op42 (by decide +kernel)
theorem dM_readWord_99 : decode (mB mM_readWord) 99 = .ok (.invokevirtual 201, 3) := op182 0 201 (by decide +kernel)
theorem dM_readWord_102 : decode (mB mM_readWord) 102 = .ok (.goto 5, 3) := op167 0 5 (by decide +kernel)
theorem dM_readWord_105 : decode (mB mM_readWord) 105 = .ok (.bipush (-4), 2) := op16 252 (by decide +kernel)
theorem dM_readWord_107 : decode (mB mM_readWord) 107 = .ok (.istore 7, 2) := op54 7 (by decide +kernel)
theorem dM_readWord_109 : decode (mB mM_readWord) 109 = .ok (.bipush (-4), 2) := op16 252 (by decide +kernel)
theorem dM_readWord_111 : decode (mB mM_readWord) 111 = .ok (.istore 8, 2) := op54 8 (by decide +kernel)
theorem dM_readWord_113 : decode (mB mM_readWord) 113 = .ok (.iload_n 1, 1) := op27 (by decide +kernel)
theorem dM_readWord_114 : decode (mB mM_readWord) 114 = .ok (.i2l, 1) := op133 (by decide +kernel)
theorem dM_readWord_115 : decode (mB mM_readWord) 115 = .ok (.lconst 1, 1) := op10 (by decide +kernel)
theorem dM_readWord_116 : decode (mB mM_readWord) 116 = .ok (.ldc2_w 204, 3) := op20 0 204 (by decide +kernel)
theorem dM_readWord_119 : decode (mB mM_readWord) 119 = .ok (.invokestatic 126, 3) := op184 0 126 (by decide +kernel)
theorem dM_readWord_122 : decode (mB mM_readWord) 122 = .ok (.ifCond .eq 25, 3) := op153 0 25 (by decide +kernel)
theorem dM_readWord_125 : decode (mB mM_readWord) 125 = .ok (.aload_n 0, 1) := op42 (by decide +kernel)
theorem dM_readWord_126 : decode (mB mM_readWord) 126 = .ok (.getfield 26, 3) := op180 0 26 (by decide +kernel)
theorem dM_readWord_129 : decode (mB mM_readWord) 129 = .ok (.aload_n 0, 1) := op42 (by decide +kernel)
theorem dM_readWord_130 : decode (mB mM_readWord) 130 = .ok (.getfield 106, 3) := op180 0 106 (by decide +kernel)
theorem dM_readWord_133 : decode (mB mM_readWord) 133 = .ok (.aload_n 0, 1) := op42 (by decide +kernel)
theorem dM_readWord_134 : decode (mB mM_readWord) 134 = .ok (.getfield 133, 3) := op180 0 133 (by decide +kernel)
theorem dM_readWord_137 : decode (mB mM_readWord) 137 = .ok (.iastore, 1) := op79 (by decide +kernel)
theorem dM_readWord_138 : decode (mB mM_readWord) 138 = .ok (.aload_n 0, 1) := op42 (by decide +kernel)
theorem dM_readWord_139 : decode (mB mM_readWord) 139 = .ok (.iconst 0, 1) := op3 (by decide +kernel)
theorem dM_readWord_140 : decode (mB mM_readWord) 140 = .ok (.bipush 23, 2) := op16 23 (by decide +kernel)
theorem dM_readWord_142 : decode (mB mM_readWord) 142 = .ok (.invokevirtual 192, 3) := op182 0 192 (by decide +kernel)
theorem dM_readWord_145 : decode (mB mM_readWord) 145 = .ok (.istore 8, 2) := op54 8 (by decide +kernel)
theorem dM_readWord_147 : decode (mB mM_readWord) 147 = .ok (.aload_n 0, 1) := op42 (by decide +kernel)
theorem dM_readWord_148 : decode (mB mM_readWord) 148 = .ok (.getfield 130, 3) := op180 0 130 (by decide +kernel)
theorem dM_readWord_151 : decode (mB mM_readWord) 151 = .ok (.ifCond .ne 93, 3) := op154 0 93 (by decide +kernel)
theorem dM_readWord_154 : decode (mB mM_readWord) 154 = .ok (.aload_n 0, 1) := op42 (by decide +kernel)
theorem dM_readWord_155 : decode (mB mM_readWord) 155 = .ok (.getfield 16, 3) := op180 0 16 (by decide +kernel)
theorem dM_readWord_158 : decode (mB mM_readWord) 158 = .ok (.iload_n 2, 1) := op28 (by decide +kernel)
theorem dM_readWord_159 : decode (mB mM_readWord) 159 = .ok (.iload_n 1, 1) := op27 (by decide +kernel)
theorem dM_readWord_160 : decode (mB mM_readWord) 160 = .ok (.iastore, 1) := op79 (by decide +kernel)
theorem dM_readWord_161 : decode (mB mM_readWord) 161 = .ok (.aload_n 0, 1) := op42 (by decide +kernel)
theorem dM_readWord_162 : decode (mB mM_readWord) 162 = .ok (.getfield 16, 3) := op180 0 16 (by decide +kernel)
theorem dM_readWord_165 : decode (mB mM_readWord) 165 = .ok (.iload_n 2, 1) := op28 (by decide +kernel)
theorem dM_readWord_166 : decode (mB mM_readWord) 166 = .ok (.iconst 1, 1) := op4 (by decide +kernel)
theorem dM_readWord_167 : decode (mB mM_readWord) 167 = .ok (.iadd, 1) := op96 (by decide +kernel)
theorem dM_readWord_168 : decode (mB mM_readWord) 168 = .ok (.iload 4, 2) := op21 4 (by decide +kernel)
theorem dM_readWord_170 : decode (mB mM_readWord) 170 = .ok (.iastore, 1) := op79 (by decide +kernel)
theorem dM_readWord_171 : decode (mB mM_readWord) 171 = .ok (.aload_n 0, 1) := op42 (by decide +kernel)
theorem dM_readWord_172 : decode (mB mM_readWord) 172 = .ok (.getfield 16, 3) := op180 0 16 (by decide +kernel)
theorem dM_readWord_175 : decode (mB mM_readWord) 175 = .ok (.iload_n 2, 1) := op28 (by decide +kernel)
theorem dM_readWord_176 : decode (mB mM_readWord) 176 = .ok (.iconst 2, 1) := op5 (by decide +kernel)
theorem dM_readWord_177 : decode (mB mM_readWord) 177 = .ok (.iadd, 1) := op96 (by decide +kernel)
theorem dM_readWord_178 : decode (mB mM_readWord) 178 = .ok (.aload_n 0, 1) := op42 (by decide +kernel)
theorem dM_readWord_179 : decode (mB mM_readWord) 179 = .ok (.getfield 109, 3) := op180 0 109 (by decide +kernel)
theorem dM_readWord_182 : decode (mB mM_readWord) 182 = .ok (.iastore, 1) := op79 (by decide +kernel)
theorem dM_readWord_183 : decode (mB mM_readWord) 183 = .ok (.aload_n 0, 1) := op42 (by decide +kernel)
theorem dM_readWord_184 : decode (mB mM_readWord) 184 = .ok (.getfield 16, 3) := op180 0 16 (by decide +kernel)
theorem dM_readWord_187 : decode (mB mM_readWord) 187 = .ok (.iload_n 2, 1) := op28 (by decide +kernel)
theorem dM_readWord_188 : decode (mB mM_readWord) 188 = .ok (.iconst 3, 1) := op6 (by decide +kernel)
theorem dM_readWord_189 : decode (mB mM_readWord) 189 = .ok (.iadd, 1) := op96 (by decide +kernel)
theorem dM_readWord_190 : decode (mB mM_readWord) 190 = .ok (.iload 5, 2) := op21 5 (by decide +kernel)
theorem dM_readWord_192 : decode (mB mM_readWord) 192 = .ok (.iastore, 1) := op79 (by decide +kernel)
theorem dM_readWord_193 : decode (mB mM_readWord) 193 = .ok (.aload_n 0, 1) := op42 (by decide +kernel)
theorem dM_readWord_194 : decode (mB mM_readWord) 194 = .ok (.getfield 16, 3) := op180 0 16 (by decide +kernel)
theorem dM_readWord_197 : decode (mB mM_readWord) 197 = .ok (.iload_n 2, 1) := op28 (by decide +kernel)
theorem dM_readWord_198 : decode (mB mM_readWord) 198 = .ok (.iconst 4, 1) := op7 (by decide +kernel)
theorem dM_readWord_199 : decode (mB mM_readWord) 199 = .ok (.iadd, 1) := op96 (by decide +kernel)
theorem dM_readWord_200 : decode (mB mM_readWord) 200 = .ok (.iload 6, 2) := op21 6 (by decide +kernel)
theorem dM_readWord_202 : decode (mB mM_readWord) 202 = .ok (.iastore, 1) := op79 (by decide +kernel)
theorem dM_readWord_203 : decode (mB mM_readWord) 203 = .ok (.aload_n 0, 1) := op42 (by decide +kernel)
theorem dM_readWord_204 : decode (mB mM_readWord) 204 = .ok (.getfield 16, 3) := op180 0 16 (by decide +kernel)
theorem dM_readWord_207 : decode (mB mM_readWord) 207 = .ok (.iload_n 2, 1) := op28 (by decide +kernel)
theorem dM_readWord_208 : decode (mB mM_readWord) 208 = .ok (.iconst 5, 1) := op8 (by decide +kernel)
theorem dM_readWord_209 : decode (mB mM_readWord) 209 = .ok (.iadd, 1) := op96 (by decide +kernel)
theorem dM_readWord_210 : decode (mB mM_readWord) 210 = .ok (.iload 7, 2) := op21 7 (by decide +kernel)
theorem dM_readWord_212 : decode (mB mM_readWord) 212 = .ok (.iastore, 1) := op79 (by decide +kernel)
theorem dM_readWord_213 : decode (mB mM_readWord) 213 = .ok (.aload_n 0, 1) := op42 (by decide +kernel)
theorem dM_readWord_214 : decode (mB mM_readWord) 214 = .ok (.getfield 16, 3) := op180 0 16 (by decide +kernel)
theorem dM_readWord_217 : decode (mB mM_readWord) 217 = .ok (.iload_n 2, 1) := op28 (by decide +kernel)
theorem dM_readWord_218 : decode (mB mM_readWord) 218 = .ok (.bipush 6, 2) := op16 6 (by decide +kernel)
theorem dM_readWord_220 : decode (mB mM_readWord) 220 = .ok (.iadd, 1) := op96 (by decide +kernel)
theorem dM_readWord_221 : decode (mB mM_readWord) 221 = .ok (.iload 8, 2) := op21 8 (by decide +kernel)
theorem dM_readWord_223 : decode (mB mM_readWord) 223 = .ok (.iastore, 1) := op79 (by decide +kernel)
theorem dM_readWord_224 : decode (mB mM_readWord) 224 = .ok (.aload_n 0, 1) := op42 (by decide +kernel)
theorem dM_readWord_225 : decode (mB mM_readWord) 225 = .ok (.getfield 16, 3) := op180 0 16 (by decide +kernel)
theorem dM_readWord_228 : decode (mB mM_readWord) 228 = .ok (.iload_n 2, 1) := op28 (by decide +kernel)
theorem dM_readWord_229 : decode (mB mM_readWord) 229 = .ok (.bipush 7, 2) := op16 7 (by decide +kernel)
theorem dM_readWord_231 : decode (mB mM_readWord) 231 = .ok (.iadd, 1) := op96 (by decide +kernel)
theorem dM_readWord_232 : decode (mB mM_readWord) 232 = .ok (.iload_n 3, 1) := op29 (by decide +kernel)
theorem dM_readWord_233 : decode (mB mM_readWord) 233 = .ok (.iastore, 1) := op79 (by decide +kernel)
theorem dM_readWord_234 : decode (mB mM_readWord) 234 = .ok (.aload_n 0, 1) := op42 (by decide +kernel)
theorem dM_readWord_235 : decode (mB mM_readWord) 235 = .ok (.dup, 1) := op89 (by decide +kernel)
theorem dM_readWord_236 : decode (mB mM_readWord) 236 = .ok (.getfield 106, 3) := op180 0 106 (by decide +kernel)
theorem dM_readWord_239 : decode (mB mM_readWord) 239 = .ok (.iconst 1, 1) := op4 (by decide +kernel)
theorem dM_readWord_240 : decode (mB mM_readWord) 240 = .ok (.iadd, 1) := op96 (by decide +kernel)
theorem dM_readWord_241 : decode (mB mM_readWord) 241 = .ok (.putfield 106, 3) := op181 0 106 (by decide +kernel)
theorem dM_readWord_244 : decode (mB mM_readWord) 244 = .ok (.return_, 1) := op177 (by decide +kernel)

theorem vM_readWord_0 {M : Mm} {b : Nat × Nat} {K : Mm → Prop} {v0 : Nat} {v1 : Int32} (kv0 : v0 % 64 = 11) 
    (h : (¬ v1 = 5 → (X mM_readWord 26 [(0, .ref v0), (1, .int v1), (2, .int (10 * (gi M v0 3)))] [.int (-4)] M b (QV K))) ∧ (v1 = 5 → (CI mM_readNumber [.ref v0, .int 0, .int 999] M (fun rv N => X mM_readWord 21 [(0, .ref v0), (1, .int v1), (2, .int (10 * (gi M v0 3)))] [.int rv] N b (QV K))))) : X mM_readWord 0 [(0, .ref v0), (1, .int v1)] [] M b (QV K) := by
  refine x_wf (fun hw => ?_)
  refine x_bipush (pc := 0) dM_readWord_0 (v := 10) rfl ?_
  refine x_aload_n (pc := 2) dM_readWord_2 rfl (q := 0) rfl ?_
  refine x_getI (pc := 3) dM_readWord_3 kv0 flM_106 rfl ?_
  refine x_imul (pc := 6) dM_readWord_6 ?_
  refine x_istore_n (pc := 7) dM_readWord_7 rfl (by decide) (L' := [(2, .int (10 * (gi M v0 3))), (0, .ref v0), (1, .int v1)]) rfl ?_
  refine x_iload_n (pc := 8) dM_readWord_8 rfl (q := 2) rfl ?_
  refine x_iconst (pc := 9) dM_readWord_9 (v := 5) rfl ?_
  obtain ⟨g1_0, g1_1⟩ := h
  refine x_icmp_ne (pc := 10) dM_readWord_10 (t := 24) rfl (fun q1 => ?_) (fun q1 => ?_)
  · refine x_bipush (pc := 24) dM_readWord_24 (v := (-4)) rfl ?_
    have h := g1_0 q1
    exact x_loc [1, 2, 0] rfl h
  · refine x_aload_n (pc := 13) dM_readWord_13 rfl (q := 1) rfl ?_
    refine x_iconst (pc := 14) dM_readWord_14 (v := 0) rfl ?_
    refine x_sipush (pc := 15) dM_readWord_15 (v := 999) rfl ?_
    have h := g1_1 q1
    exact x_invV (pc := 18) dM_readWord_18 (c := 11) (S := []) (As := [.int 0, .int 999]) mlM_192 hM_readNumber rfl (by decide) rfl kv0 ⟨by decide, by decide⟩ ⟨Nat.zero_le _, Nat.zero_le _⟩ rfl (Nat.le_of_ble_eq_true rfl) (aftI (b' := b) ⟨Nat.le_refl _, Nat.le_refl _⟩ (fun rv N h => x_loc [1, 2, 0] rfl h) h)

theorem vM_readWord_21 {M : Mm} {b : Nat × Nat} {K : Mm → Prop} {v0 : Nat} {v1 : Int32} {v2 : Int32} {w0 : Int32}  
    (h : X mM_readWord 26 [(0, .ref v0), (1, .int v1), (2, .int v2)] [.int w0] M b (QV K)) : X mM_readWord 21 [(0, .ref v0), (1, .int v1), (2, .int v2)] [.int w0] M b (QV K) := by
  refine x_wf (fun hw => ?_)
  refine x_goto (pc := 21) dM_readWord_21 (t := 26) rfl ?_
  exact h

theorem vM_readWord_26 {M : Mm} {b : Nat × Nat} {K : Mm → Prop} {v0 : Nat} {v1 : Int32} {v2 : Int32} {w0 : Int32} (kv0 : v0 % 64 = 11) 
    (h : (¬ v1 = 5 → (CI mM_readDoctor [.ref v0] M (fun rv N => X mM_readWord 41 [(0, .ref v0), (1, .int v1), (2, .int v2), (3, .int w0)] [.int rv] N b (QV K)))) ∧ (v1 = 5 → (X mM_readWord 41 [(0, .ref v0), (1, .int v1), (2, .int v2), (3, .int w0)] [.int (-4)] M b (QV K)))) : X mM_readWord 26 [(0, .ref v0), (1, .int v1), (2, .int v2)] [.int w0] M b (QV K) := by
  refine x_wf (fun hw => ?_)
  refine x_istore_n (pc := 26) dM_readWord_26 rfl (by decide) (L' := [(3, .int w0), (0, .ref v0), (1, .int v1), (2, .int v2)]) rfl ?_
  refine x_iload_n (pc := 27) dM_readWord_27 rfl (q := 2) rfl ?_
  refine x_iconst (pc := 28) dM_readWord_28 (v := 5) rfl ?_
  obtain ⟨g1_0, g1_1⟩ := h
  refine x_icmp_ne (pc := 29) dM_readWord_29 (t := 37) rfl (fun q1 => ?_) (fun q1 => ?_)
  · refine x_aload_n (pc := 37) dM_readWord_37 rfl (q := 1) rfl ?_
    have h := g1_0 q1
    exact x_invV (pc := 38) dM_readWord_38 (c := 11) (S := []) (As := []) mlM_195 hM_readDoctor rfl (by decide) rfl kv0 ⟨by decide, by decide⟩ ⟨Nat.zero_le _, Nat.zero_le _⟩ rfl (Nat.le_of_ble_eq_true rfl) (aftI (b' := b) ⟨Nat.le_refl _, Nat.le_refl _⟩ (fun rv N h => x_loc [1, 2, 3, 0] rfl h) h)
  · refine x_bipush (pc := 32) dM_readWord_32 (v := (-4)) rfl ?_
    refine x_goto (pc := 34) dM_readWord_34 (t := 41) rfl ?_
    have h := g1_1 q1
    exact x_loc [1, 2, 3, 0] rfl h

theorem vM_readWord_41 {M : Mm} {b : Nat × Nat} {K : Mm → Prop} {v0 : Nat} {v1 : Int32} {v2 : Int32} {v3 : Int32} {w0 : Int32} (kv0 : v0 % 64 = 11) 
    (h : (((v1 = 0) ∨ (¬ v1 = 0 ∧ v1 = 5) ∨ (¬ v1 = 0 ∧ ¬ v1 = 5 ∧ v1 = 4)) → (CI mM_readMarks [.ref v0, .int 0] M (fun rv N => X mM_readWord 62 [(0, .ref v0), (1, .int v1), (2, .int v2), (3, .int v3), (4, .int w0)] [.int rv] N b (QV K)))) ∧ ((¬ v1 = 0 ∧ ¬ v1 = 5 ∧ ¬ v1 = 4) → (X mM_readWord 66 [(0, .ref v0), (1, .int v1), (2, .int v2), (3, .int v3), (4, .int w0)] [.int 0] M b (QV K)))) : X mM_readWord 41 [(0, .ref v0), (1, .int v1), (2, .int v2), (3, .int v3)] [.int w0] M b (QV K) := by
  refine x_wf (fun hw => ?_)
  refine x_istore (pc := 41) dM_readWord_41 (by decide) (L' := [(4, .int w0), (0, .ref v0), (1, .int v1), (2, .int v2), (3, .int v3)]) rfl ?_
  refine x_iload_n (pc := 43) dM_readWord_43 rfl (q := 2) rfl ?_
  obtain ⟨g1_0, g1_1⟩ := h
  have g1_k0 : (v1 = 0) ∨ (¬ v1 = 0 ∧ v1 = 5) ∨ (¬ v1 = 0 ∧ ¬ v1 = 5 ∧ v1 = 4) → X mM_readWord 57 [(4, .int w0), (0, .ref v0), (1, .int v1), (2, .int v2), (3, .int v3)] [] M b (QV K) := fun q => by
    have h := g1_0 q
    refine x_aload_n (pc := 57) dM_readWord_57 rfl (q := 1) rfl ?_
    refine x_iconst (pc := 58) dM_readWord_58 (v := 0) rfl ?_
    exact x_invV (pc := 59) dM_readWord_59 (c := 11) (S := []) (As := [.int 0]) mlM_198 hM_readMarks rfl (by decide) rfl kv0 ⟨by decide, by decide⟩ ⟨Nat.zero_le _, Nat.zero_le _⟩ rfl (Nat.le_of_ble_eq_true rfl) (aftI (b' := b) ⟨Nat.le_refl _, Nat.le_refl _⟩ (fun rv N h => x_loc [1, 2, 3, 4, 0] rfl h) h)
  refine x_if_eq (pc := 44) dM_readWord_44 (t := 57) rfl (fun q1 => ?_) (fun q1 => ?_)
  · exact g1_k0 (Or.inl q1)
  · refine x_iload_n (pc := 47) dM_readWord_47 rfl (q := 2) rfl ?_
    refine x_iconst (pc := 48) dM_readWord_48 (v := 5) rfl ?_
    refine x_icmp_eq (pc := 49) dM_readWord_49 (t := 57) rfl (fun q2 => ?_) (fun q2 => ?_)
    · exact g1_k0 (Or.inr (Or.inl ⟨q1, q2⟩))
    · refine x_iload_n (pc := 52) dM_readWord_52 rfl (q := 2) rfl ?_
      refine x_iconst (pc := 53) dM_readWord_53 (v := 4) rfl ?_
      refine x_icmp_ne (pc := 54) dM_readWord_54 (t := 65) rfl (fun q3 => ?_) (fun q3 => ?_)
      · refine x_iconst (pc := 65) dM_readWord_65 (v := 0) rfl ?_
        have h := g1_1 ⟨q1, q2, q3⟩
        exact x_loc [1, 2, 3, 4, 0] rfl h
      · exact g1_k0 (Or.inr (Or.inr ⟨q1, q2, q3⟩))

theorem vM_readWord_62 {M : Mm} {b : Nat × Nat} {K : Mm → Prop} {v0 : Nat} {v1 : Int32} {v2 : Int32} {v3 : Int32} {v4 : Int32} {w0 : Int32}  
    (h : X mM_readWord 66 [(0, .ref v0), (1, .int v1), (2, .int v2), (3, .int v3), (4, .int v4)] [.int w0] M b (QV K)) : X mM_readWord 62 [(0, .ref v0), (1, .int v1), (2, .int v2), (3, .int v3), (4, .int v4)] [.int w0] M b (QV K) := by
  refine x_wf (fun hw => ?_)
  refine x_goto (pc := 62) dM_readWord_62 (t := 66) rfl ?_
  exact h

theorem vM_readWord_66 {M : Mm} {b : Nat × Nat} {K : Mm → Prop} {v0 : Nat} {v1 : Int32} {v2 : Int32} {v3 : Int32} {v4 : Int32} {w0 : Int32} (kv0 : v0 % 64 = 11) 
    (h : (((v1 = 0) ∨ (¬ v1 = 0 ∧ v1 = 5)) → (CI mM_readMarks [.ref v0, .int w0] M (fun rv N => X mM_readWord 83 [(0, .ref v0), (1, .int v1), (2, .int v2), (3, .int v3), (4, .int v4), (5, .int w0)] [.int rv] N b (QV K)))) ∧ ((¬ v1 = 0 ∧ ¬ v1 = 5) → (X mM_readWord 87 [(0, .ref v0), (1, .int v1), (2, .int v2), (3, .int v3), (4, .int v4), (5, .int w0)] [.int 0] M b (QV K)))) : X mM_readWord 66 [(0, .ref v0), (1, .int v1), (2, .int v2), (3, .int v3), (4, .int v4)] [.int w0] M b (QV K) := by
  refine x_wf (fun hw => ?_)
  refine x_istore (pc := 66) dM_readWord_66 (by decide) (L' := [(5, .int w0), (0, .ref v0), (1, .int v1), (2, .int v2), (3, .int v3), (4, .int v4)]) rfl ?_
  refine x_iload_n (pc := 68) dM_readWord_68 rfl (q := 2) rfl ?_
  obtain ⟨g1_0, g1_1⟩ := h
  have g1_k0 : (v1 = 0) ∨ (¬ v1 = 0 ∧ v1 = 5) → X mM_readWord 77 [(5, .int w0), (0, .ref v0), (1, .int v1), (2, .int v2), (3, .int v3), (4, .int v4)] [] M b (QV K) := fun q => by
    have h := g1_0 q
    refine x_aload_n (pc := 77) dM_readWord_77 rfl (q := 1) rfl ?_
    refine x_iload (pc := 78) dM_readWord_78 (q := 0) rfl ?_
    exact x_invV (pc := 80) dM_readWord_80 (c := 11) (S := []) (As := [.int w0]) mlM_198 hM_readMarks rfl (by decide) rfl kv0 ⟨by decide, by decide⟩ ⟨Nat.zero_le _, Nat.zero_le _⟩ rfl (Nat.le_of_ble_eq_true rfl) (aftI (b' := b) ⟨Nat.le_refl _, Nat.le_refl _⟩ (fun rv N h => x_loc [1, 2, 3, 4, 5, 0] rfl h) h)
  refine x_if_eq (pc := 69) dM_readWord_69 (t := 77) rfl (fun q1 => ?_) (fun q1 => ?_)
  · exact g1_k0 (Or.inl q1)
  · refine x_iload_n (pc := 72) dM_readWord_72 rfl (q := 2) rfl ?_
    refine x_iconst (pc := 73) dM_readWord_73 (v := 5) rfl ?_
    refine x_icmp_ne (pc := 74) dM_readWord_74 (t := 86) rfl (fun q2 => ?_) (fun q2 => ?_)
    · refine x_iconst (pc := 86) dM_readWord_86 (v := 0) rfl ?_
      have h := g1_1 ⟨q1, q2⟩
      exact x_loc [1, 2, 3, 4, 5, 0] rfl h
    · exact g1_k0 (Or.inr ⟨q1, q2⟩)

theorem vM_readWord_83 {M : Mm} {b : Nat × Nat} {K : Mm → Prop} {v0 : Nat} {v1 : Int32} {v2 : Int32} {v3 : Int32} {v4 : Int32} {v5 : Int32} {w0 : Int32}  
    (h : X mM_readWord 87 [(0, .ref v0), (1, .int v1), (2, .int v2), (3, .int v3), (4, .int v4), (5, .int v5)] [.int w0] M b (QV K)) : X mM_readWord 83 [(0, .ref v0), (1, .int v1), (2, .int v2), (3, .int v3), (4, .int v4), (5, .int v5)] [.int w0] M b (QV K) := by
  refine x_wf (fun hw => ?_)
  refine x_goto (pc := 83) dM_readWord_83 (t := 87) rfl ?_
  exact h

theorem vM_readWord_87 {M : Mm} {b : Nat × Nat} {K : Mm → Prop} {v0 : Nat} {v1 : Int32} {v2 : Int32} {v3 : Int32} {v4 : Int32} {v5 : Int32} {w0 : Int32} (kv0 : v0 % 64 = 11) 
    (h : (((v1 = 0) ∨ (¬ v1 = 0 ∧ v1 = 5)) → (CI mM_readAnswer [.ref v0] M (fun rv N => X mM_readWord 102 [(0, .ref v0), (1, .int v1), (2, .int v2), (3, .int v3), (4, .int v4), (5, .int v5), (6, .int w0)] [.int rv] N b (QV K)))) ∧ ((¬ v1 = 0 ∧ ¬ v1 = 5) → (X mM_readWord 107 [(0, .ref v0), (1, .int v1), (2, .int v2), (3, .int v3), (4, .int v4), (5, .int v5), (6, .int w0)] [.int (-4)] M b (QV K)))) : X mM_readWord 87 [(0, .ref v0), (1, .int v1), (2, .int v2), (3, .int v3), (4, .int v4), (5, .int v5)] [.int w0] M b (QV K) := by
  refine x_wf (fun hw => ?_)
  refine x_istore (pc := 87) dM_readWord_87 (by decide) (L' := [(6, .int w0), (0, .ref v0), (1, .int v1), (2, .int v2), (3, .int v3), (4, .int v4), (5, .int v5)]) rfl ?_
  refine x_iload_n (pc := 89) dM_readWord_89 rfl (q := 2) rfl ?_
  obtain ⟨g1_0, g1_1⟩ := h
  have g1_k0 : (v1 = 0) ∨ (¬ v1 = 0 ∧ v1 = 5) → X mM_readWord 98 [(6, .int w0), (0, .ref v0), (1, .int v1), (2, .int v2), (3, .int v3), (4, .int v4), (5, .int v5)] [] M b (QV K) := fun q => by
    have h := g1_0 q
    refine x_aload_n (pc := 98) dM_readWord_98 rfl (q := 1) rfl ?_
    exact x_invV (pc := 99) dM_readWord_99 (c := 11) (S := []) (As := []) mlM_201 hM_readAnswer rfl (by decide) rfl kv0 ⟨by decide, by decide⟩ ⟨Nat.zero_le _, Nat.zero_le _⟩ rfl (Nat.le_of_ble_eq_true rfl) (aftI (b' := b) ⟨Nat.le_refl _, Nat.le_refl _⟩ (fun rv N h => x_loc [1, 2, 3, 4, 5, 6, 0] rfl h) h)
  refine x_if_eq (pc := 90) dM_readWord_90 (t := 98) rfl (fun q1 => ?_) (fun q1 => ?_)
  · exact g1_k0 (Or.inl q1)
  · refine x_iload_n (pc := 93) dM_readWord_93 rfl (q := 2) rfl ?_
    refine x_iconst (pc := 94) dM_readWord_94 (v := 5) rfl ?_
    refine x_icmp_ne (pc := 95) dM_readWord_95 (t := 105) rfl (fun q2 => ?_) (fun q2 => ?_)
    · refine x_bipush (pc := 105) dM_readWord_105 (v := (-4)) rfl ?_
      have h := g1_1 ⟨q1, q2⟩
      exact x_loc [1, 2, 3, 4, 5, 6, 0] rfl h
    · exact g1_k0 (Or.inr ⟨q1, q2⟩)

theorem vM_readWord_102 {M : Mm} {b : Nat × Nat} {K : Mm → Prop} {v0 : Nat} {v1 : Int32} {v2 : Int32} {v3 : Int32} {v4 : Int32} {v5 : Int32} {v6 : Int32} {w0 : Int32}  
    (h : X mM_readWord 107 [(0, .ref v0), (1, .int v1), (2, .int v2), (3, .int v3), (4, .int v4), (5, .int v5), (6, .int v6)] [.int w0] M b (QV K)) : X mM_readWord 102 [(0, .ref v0), (1, .int v1), (2, .int v2), (3, .int v3), (4, .int v4), (5, .int v5), (6, .int v6)] [.int w0] M b (QV K) := by
  refine x_wf (fun hw => ?_)
  refine x_goto (pc := 102) dM_readWord_102 (t := 107) rfl ?_
  exact h

theorem vM_readWord_107 {M : Mm} {b : Nat × Nat} {K : Mm → Prop} {v0 : Nat} {v1 : Int32} {v2 : Int32} {v3 : Int32} {v4 : Int32} {v5 : Int32} {v6 : Int32} {w0 : Int32}  
    (h : CI mM_in [.long ((v1).toInt64), .long 1, .long 3] M (fun rv N => X mM_readWord 122 [(0, .ref v0), (1, .int v1), (2, .int v2), (3, .int v3), (4, .int v4), (5, .int v5), (6, .int v6), (7, .int w0), (8, .int (-4))] [.int rv] N b (QV K))) : X mM_readWord 107 [(0, .ref v0), (1, .int v1), (2, .int v2), (3, .int v3), (4, .int v4), (5, .int v5), (6, .int v6)] [.int w0] M b (QV K) := by
  refine x_wf (fun hw => ?_)
  refine x_istore (pc := 107) dM_readWord_107 (by decide) (L' := [(7, .int w0), (0, .ref v0), (1, .int v1), (2, .int v2), (3, .int v3), (4, .int v4), (5, .int v5), (6, .int v6)]) rfl ?_
  refine x_bipush (pc := 109) dM_readWord_109 (v := (-4)) rfl ?_
  refine x_istore (pc := 111) dM_readWord_111 (by decide) (L' := [(8, .int (-4)), (7, .int w0), (0, .ref v0), (1, .int v1), (2, .int v2), (3, .int v3), (4, .int v4), (5, .int v5), (6, .int v6)]) rfl ?_
  refine x_iload_n (pc := 113) dM_readWord_113 rfl (q := 3) rfl ?_
  refine x_i2l (pc := 114) dM_readWord_114 ?_
  refine x_lconst (pc := 115) dM_readWord_115 (v := 1) rfl ?_
  refine x_ldc2 (pc := 116) dM_readWord_116 klM_204 ?_
  exact x_invS (pc := 119) dM_readWord_119 (S := []) (As := [.long ((v1).toInt64), .long 1, .long 3]) mlM_126 hM_in rfl ⟨by decide, by decide⟩ ⟨Nat.zero_le _, Nat.zero_le _⟩ rfl (Nat.le_of_ble_eq_true rfl) (aftI (b' := b) ⟨Nat.le_refl _, Nat.le_refl _⟩ (fun rv N h => x_loc [2, 3, 4, 5, 6, 7, 8, 1, 0] rfl h) h)

theorem vM_readWord_122 {M : Mm} {b : Nat × Nat} {K : Mm → Prop} {v0 : Nat} {v1 : Int32} {v2 : Int32} {v3 : Int32} {v4 : Int32} {v5 : Int32} {v6 : Int32} {v7 : Int32} {v8 : Int32} {w0 : Int32} {r1 : Nat} (kv0 : v0 % 64 = 11) (e1 : gr M v0 7 = some r1)
    (h : (w0 = 0 → (X mM_readWord 147 [(0, .ref v0), (1, .int v1), (2, .int v2), (3, .int v3), (4, .int v4), (5, .int v5), (6, .int v6), (7, .int v7), (8, .int v8)] [] M b (QV K))) ∧ (¬ w0 = 0 → (vp_in (gi M v0 3) 25 ∧ (CI mM_readNumber [.ref v0, .int 0, .int 23] (si M r1 (gi M v0 3).toNatClampNeg (gi M v0 13)) (fun rv N => X mM_readWord 145 [(0, .ref v0), (1, .int v1), (2, .int v2), (3, .int v3), (4, .int v4), (5, .int v5), (6, .int v6), (7, .int v7)] [.int rv] N b (QV K)))))) : X mM_readWord 122 [(0, .ref v0), (1, .int v1), (2, .int v2), (3, .int v3), (4, .int v4), (5, .int v5), (6, .int v6), (7, .int v7), (8, .int v8)] [.int w0] M b (QV K) := by
  refine x_wf (fun hw => ?_)
  obtain ⟨g1_0, g1_1⟩ := h
  refine x_if_eq (pc := 122) dM_readWord_122 (t := 147) rfl (fun q1 => ?_) (fun q1 => ?_)
  · have h := g1_0 q1
    exact h
  · refine x_aload_n (pc := 125) dM_readWord_125 rfl (q := 0) rfl ?_
    refine x_getR (pc := 126) dM_readWord_126 kv0 flM_26 rfl e1 ?_
    refine x_aload_n (pc := 129) dM_readWord_129 rfl (q := 0) rfl ?_
    refine x_getI (pc := 130) dM_readWord_130 kv0 flM_106 rfl ?_
    refine x_aload_n (pc := 133) dM_readWord_133 rfl (q := 0) rfl ?_
    refine x_getI (pc := 134) dM_readWord_134 kv0 flM_133 rfl ?_
    have h := g1_1 q1
    obtain ⟨s501, h⟩ := h
    refine x_astIj (pc := 137) (j := (gi M v0 3).toNatClampNeg) (v := gi M v0 13) (Or.inl ⟨rfl, rfl, rfl⟩) dM_readWord_137 (wfk hw e1 kv0) ak_23 rfl s501 ?_
    refine x_aload_n (pc := 138) dM_readWord_138 rfl (q := 0) rfl ?_
    refine x_iconst (pc := 139) dM_readWord_139 (v := 0) rfl ?_
    refine x_bipush (pc := 140) dM_readWord_140 (v := 23) rfl ?_
    exact x_invV (pc := 142) dM_readWord_142 (c := 11) (S := []) (As := [.int 0, .int 23]) mlM_192 hM_readNumber rfl (by decide) rfl kv0 ⟨by decide, by decide⟩ ⟨Nat.zero_le _, Nat.zero_le _⟩ rfl (Nat.le_of_ble_eq_true rfl) (aftI (b' := b) ⟨Nat.le_refl _, Nat.le_refl _⟩ (fun rv N h => x_loc [0, 1, 2, 3, 4, 5, 6, 7] rfl h) h)

theorem vM_readWord_145 {M : Mm} {b : Nat × Nat} {K : Mm → Prop} {v0 : Nat} {v1 : Int32} {v2 : Int32} {v3 : Int32} {v4 : Int32} {v5 : Int32} {v6 : Int32} {v7 : Int32} {w0 : Int32}  
    (h : X mM_readWord 147 [(0, .ref v0), (1, .int v1), (2, .int v2), (3, .int v3), (4, .int v4), (5, .int v5), (6, .int v6), (7, .int v7), (8, .int w0)] [] M b (QV K)) : X mM_readWord 145 [(0, .ref v0), (1, .int v1), (2, .int v2), (3, .int v3), (4, .int v4), (5, .int v5), (6, .int v6), (7, .int v7)] [.int w0] M b (QV K) := by
  refine x_wf (fun hw => ?_)
  refine x_istore (pc := 145) dM_readWord_145 (by decide) (L' := [(8, .int w0), (0, .ref v0), (1, .int v1), (2, .int v2), (3, .int v3), (4, .int v4), (5, .int v5), (6, .int v6), (7, .int v7)]) rfl ?_
  exact x_loc [1, 2, 3, 4, 5, 6, 7, 8, 0] rfl h

theorem vM_readWord_147 {M : Mm} {b : Nat × Nat} {K : Mm → Prop} {v0 : Nat} {v1 : Int32} {v2 : Int32} {v3 : Int32} {v4 : Int32} {v5 : Int32} {v6 : Int32} {v7 : Int32} {v8 : Int32} {r1 : Nat} (kv0 : v0 % 64 = 11) (e1 : gr M v0 4 = some r1)
    (h : (¬ (gi M v0 16) = 0 → (K M)) ∧ ((gi M v0 16) = 0 → (vp_in v2 250 ∧ (vp_in (v2 + 1) 250 ∧ (vp_in (v2 + 2) 250 ∧ (vp_in (v2 + 3) 250 ∧ (vp_in (v2 + 4) 250 ∧ (vp_in (v2 + 5) 250 ∧ (vp_in (v2 + 6) 250 ∧ (vp_in (v2 + 7) 250 ∧ (K (si (si (si (si (si (si (si (si (si M r1 (v2).toNatClampNeg v1) r1 (v2 + 1).toNatClampNeg v4) r1 (v2 + 2).toNatClampNeg (gi (si (si M r1 (v2).toNatClampNeg v1) r1 (v2 + 1).toNatClampNeg v4) v0 8)) r1 (v2 + 3).toNatClampNeg v5) r1 (v2 + 4).toNatClampNeg v6) r1 (v2 + 5).toNatClampNeg v7) r1 (v2 + 6).toNatClampNeg v8) r1 (v2 + 7).toNatClampNeg v3) v0 3 ((gi (si (si (si (si (si (si (si (si M r1 (v2).toNatClampNeg v1) r1 (v2 + 1).toNatClampNeg v4) r1 (v2 + 2).toNatClampNeg (gi (si (si M r1 (v2).toNatClampNeg v1) r1 (v2 + 1).toNatClampNeg v4) v0 8)) r1 (v2 + 3).toNatClampNeg v5) r1 (v2 + 4).toNatClampNeg v6) r1 (v2 + 5).toNatClampNeg v7) r1 (v2 + 6).toNatClampNeg v8) r1 (v2 + 7).toNatClampNeg v3) v0 3) + 1))))))))))))) : X mM_readWord 147 [(0, .ref v0), (1, .int v1), (2, .int v2), (3, .int v3), (4, .int v4), (5, .int v5), (6, .int v6), (7, .int v7), (8, .int v8)] [] M b (QV K) := by
  refine x_wf (fun hw => ?_)
  refine x_aload_n (pc := 147) dM_readWord_147 rfl (q := 0) rfl ?_
  refine x_getI (pc := 148) dM_readWord_148 kv0 flM_130 rfl ?_
  obtain ⟨g1_0, g1_1⟩ := h
  refine x_if_ne (pc := 151) dM_readWord_151 (t := 244) rfl (fun q1 => ?_) (fun q1 => ?_)
  · have h := g1_0 q1
    exact x_retQV (pc := 244) dM_readWord_244 rfl h
  · refine x_aload_n (pc := 154) dM_readWord_154 rfl (q := 0) rfl ?_
    refine x_getR (pc := 155) dM_readWord_155 kv0 flM_16 rfl e1 ?_
    refine x_iload_n (pc := 158) dM_readWord_158 rfl (q := 2) rfl ?_
    refine x_iload_n (pc := 159) dM_readWord_159 rfl (q := 1) rfl ?_
    have h := g1_1 q1
    obtain ⟨s501, h⟩ := h
    refine x_astIj (pc := 160) (j := (v2).toNatClampNeg) (v := v1) (Or.inl ⟨rfl, rfl, rfl⟩) dM_readWord_160 (wfk hw e1 kv0) ak_21 rfl s501 ?_
    refine x_aload_n (pc := 161) dM_readWord_161 rfl (q := 0) rfl ?_
    refine x_getR (pc := 162) dM_readWord_162 kv0 flM_16 rfl e1 ?_
    refine x_iload_n (pc := 165) dM_readWord_165 rfl (q := 2) rfl ?_
    refine x_iconst (pc := 166) dM_readWord_166 (v := 1) rfl ?_
    refine x_iadd (pc := 167) dM_readWord_167 ?_
    refine x_iload (pc := 168) dM_readWord_168 (q := 4) rfl ?_
    obtain ⟨s502, h⟩ := h
    refine x_astIj (pc := 170) (j := (v2 + 1).toNatClampNeg) (v := v4) (Or.inl ⟨rfl, rfl, rfl⟩) dM_readWord_170 (wfk hw e1 kv0) ak_21 rfl s502 ?_
    refine x_aload_n (pc := 171) dM_readWord_171 rfl (q := 0) rfl ?_
    refine x_getR (pc := 172) dM_readWord_172 kv0 flM_16 rfl e1 ?_
    refine x_iload_n (pc := 175) dM_readWord_175 rfl (q := 2) rfl ?_
    refine x_iconst (pc := 176) dM_readWord_176 (v := 2) rfl ?_
    refine x_iadd (pc := 177) dM_readWord_177 ?_
    refine x_aload_n (pc := 178) dM_readWord_178 rfl (q := 0) rfl ?_
    refine x_getI (pc := 179) dM_readWord_179 kv0 flM_109 rfl ?_
    obtain ⟨s503, h⟩ := h
    refine x_astIj (pc := 182) (j := (v2 + 2).toNatClampNeg) (v := gi (si (si M r1 (v2).toNatClampNeg v1) r1 (v2 + 1).toNatClampNeg v4) v0 8) (Or.inl ⟨rfl, rfl, rfl⟩) dM_readWord_182 (wfk hw e1 kv0) ak_21 rfl s503 ?_
    refine x_aload_n (pc := 183) dM_readWord_183 rfl (q := 0) rfl ?_
    refine x_getR (pc := 184) dM_readWord_184 kv0 flM_16 rfl e1 ?_
    refine x_iload_n (pc := 187) dM_readWord_187 rfl (q := 2) rfl ?_
    refine x_iconst (pc := 188) dM_readWord_188 (v := 3) rfl ?_
    refine x_iadd (pc := 189) dM_readWord_189 ?_
    refine x_iload (pc := 190) dM_readWord_190 (q := 5) rfl ?_
    obtain ⟨s504, h⟩ := h
    refine x_astIj (pc := 192) (j := (v2 + 3).toNatClampNeg) (v := v5) (Or.inl ⟨rfl, rfl, rfl⟩) dM_readWord_192 (wfk hw e1 kv0) ak_21 rfl s504 ?_
    refine x_aload_n (pc := 193) dM_readWord_193 rfl (q := 0) rfl ?_
    refine x_getR (pc := 194) dM_readWord_194 kv0 flM_16 rfl e1 ?_
    refine x_iload_n (pc := 197) dM_readWord_197 rfl (q := 2) rfl ?_
    refine x_iconst (pc := 198) dM_readWord_198 (v := 4) rfl ?_
    refine x_iadd (pc := 199) dM_readWord_199 ?_
    refine x_iload (pc := 200) dM_readWord_200 (q := 6) rfl ?_
    obtain ⟨s505, h⟩ := h
    refine x_astIj (pc := 202) (j := (v2 + 4).toNatClampNeg) (v := v6) (Or.inl ⟨rfl, rfl, rfl⟩) dM_readWord_202 (wfk hw e1 kv0) ak_21 rfl s505 ?_
    refine x_aload_n (pc := 203) dM_readWord_203 rfl (q := 0) rfl ?_
    refine x_getR (pc := 204) dM_readWord_204 kv0 flM_16 rfl e1 ?_
    refine x_iload_n (pc := 207) dM_readWord_207 rfl (q := 2) rfl ?_
    refine x_iconst (pc := 208) dM_readWord_208 (v := 5) rfl ?_
    refine x_iadd (pc := 209) dM_readWord_209 ?_
    refine x_iload (pc := 210) dM_readWord_210 (q := 7) rfl ?_
    obtain ⟨s506, h⟩ := h
    refine x_astIj (pc := 212) (j := (v2 + 5).toNatClampNeg) (v := v7) (Or.inl ⟨rfl, rfl, rfl⟩) dM_readWord_212 (wfk hw e1 kv0) ak_21 rfl s506 ?_
    refine x_aload_n (pc := 213) dM_readWord_213 rfl (q := 0) rfl ?_
    refine x_getR (pc := 214) dM_readWord_214 kv0 flM_16 rfl e1 ?_
    refine x_iload_n (pc := 217) dM_readWord_217 rfl (q := 2) rfl ?_
    refine x_bipush (pc := 218) dM_readWord_218 (v := 6) rfl ?_
    refine x_iadd (pc := 220) dM_readWord_220 ?_
    refine x_iload (pc := 221) dM_readWord_221 (q := 8) rfl ?_
    obtain ⟨s507, h⟩ := h
    refine x_astIj (pc := 223) (j := (v2 + 6).toNatClampNeg) (v := v8) (Or.inl ⟨rfl, rfl, rfl⟩) dM_readWord_223 (wfk hw e1 kv0) ak_21 rfl s507 ?_
    refine x_aload_n (pc := 224) dM_readWord_224 rfl (q := 0) rfl ?_
    refine x_getR (pc := 225) dM_readWord_225 kv0 flM_16 rfl e1 ?_
    refine x_iload_n (pc := 228) dM_readWord_228 rfl (q := 2) rfl ?_
    refine x_bipush (pc := 229) dM_readWord_229 (v := 7) rfl ?_
    refine x_iadd (pc := 231) dM_readWord_231 ?_
    refine x_iload_n (pc := 232) dM_readWord_232 rfl (q := 3) rfl ?_
    obtain ⟨s508, h⟩ := h
    refine x_astIj (pc := 233) (j := (v2 + 7).toNatClampNeg) (v := v3) (Or.inl ⟨rfl, rfl, rfl⟩) dM_readWord_233 (wfk hw e1 kv0) ak_21 rfl s508 ?_
    refine x_aload_n (pc := 234) dM_readWord_234 rfl (q := 0) rfl ?_
    refine x_dup (pc := 235) dM_readWord_235 rfl ?_
    refine x_getI (pc := 236) dM_readWord_236 kv0 flM_106 rfl ?_
    refine x_iconst (pc := 239) dM_readWord_239 (v := 1) rfl ?_
    refine x_iadd (pc := 240) dM_readWord_240 ?_
    refine x_putI (pc := 241) dM_readWord_241 kv0 flM_106 rfl rfl ?_
    exact x_retQV (pc := 244) dM_readWord_244 rfl h

theorem dM_readDoctor_0 : decode (mB mM_readDoctor) 0 = .ok (.aload_n 0, 1) := op42 (by decide +kernel)
theorem dM_readDoctor_1 : decode (mB mM_readDoctor) 1 = .ok (.getfield 130, 3) := op180 0 130 (by decide +kernel)
theorem dM_readDoctor_4 : decode (mB mM_readDoctor) 4 = .ok (.ifCond .ne 21, 3) := op154 0 21 (by decide +kernel)
theorem dM_readDoctor_7 : decode (mB mM_readDoctor) 7 = .ok (.aload_n 0, 1) := op42 (by decide +kernel)
theorem dM_readDoctor_8 : decode (mB mM_readDoctor) 8 = .ok (.aload_n 0, 1) := op42 (by decide +kernel)
theorem dM_readDoctor_9 : decode (mB mM_readDoctor) 9 = .ok (.getfield 158, 3) := op180 0 158 (by decide +kernel)
theorem dM_readDoctor_12 : decode (mB mM_readDoctor) 12 = .ok (.iconst 1, 1) := op4 (by decide +kernel)
theorem dM_readDoctor_13 : decode (mB mM_readDoctor) 13 = .ok (.if_icmp .ne 7, 3) := op160 0 7 (by decide +kernel)
theorem dM_readDoctor_16 : decode (mB mM_readDoctor) 16 = .ok (.iconst 1, 1) := op4 (by decide +kernel)
theorem dM_readDoctor_17 : decode (mB mM_readDoctor) 17 = .ok (.goto 4, 3) := op167 0 4 (by decide +kernel)
theorem dM_readDoctor_20 : decode (mB mM_readDoctor) 20 = .ok (.iconst 0, 1) := op3 (by decide +kernel)
theorem dM_readDoctor_21 : decode (mB mM_readDoctor) 21 = .ok (.iconst 2, 1) := op5 (by decide +kernel)
theorem dM_readDoctor_22 : decode (mB mM_readDoctor) 22 = .ok (.invokevirtual 172, 3) := op182 0 172 (by decide +kernel)
theorem dM_readDoctor_25 : decode (mB mM_readDoctor) 25 = .ok (.aload_n 0, 1) := op42 (by decide +kernel)
theorem dM_readDoctor_26 : decode (mB mM_readDoctor) 26 = .ok (.aload_n 0, 1) := op42 (by decide +kernel)
theorem dM_readDoctor_27 : decode (mB mM_readDoctor) 27 = .ok (.getfield 133, 3) := op180 0 133 (by decide +kernel)
theorem dM_readDoctor_30 : decode (mB mM_readDoctor) 30 = .ok (.invokevirtual 142, 3) := op182 0 142 (by decide +kernel)
theorem dM_readDoctor_33 : decode (mB mM_readDoctor) 33 = .ok (.bipush 97, 2) := op16 97 (by decide +kernel)
theorem dM_readDoctor_35 : decode (mB mM_readDoctor) 35 = .ok (.isub, 1) := op100 (by decide +kernel)
theorem dM_readDoctor_36 : decode (mB mM_readDoctor) 36 = .ok (.istore_n 1, 1) := op60 (by decide +kernel)
theorem dM_readDoctor_37 : decode (mB mM_readDoctor) 37 = .ok (.aload_n 0, 1) := op42 (by decide +kernel)
theorem dM_readDoctor_38 : decode (mB mM_readDoctor) 38 = .ok (.getfield 130, 3) := op180 0 130 (by decide +kernel)
theorem dM_readDoctor_41 : decode (mB mM_readDoctor) 41 = .ok (.ifCond .ne 38, 3) := op154 0 38 (by decide +kernel)
theorem dM_readDoctor_44 : decode (mB mM_readDoctor) 44 = .ok (.aload_n 0, 1) := op42 (by decide +kernel)
theorem dM_readDoctor_45 : decode (mB mM_readDoctor) 45 = .ok (.aload_n 0, 1) := op42 (by decide +kernel)
theorem dM_readDoctor_46 : decode (mB mM_readDoctor) 46 = .ok (.getfield 139, 3) := op180 0 139 (by decide +kernel)
theorem dM_readDoctor_49 : decode (mB mM_readDoctor) 49 = .ok (.aload_n 0, 1) := op42 (by decide +kernel)
theorem dM_readDoctor_50 : decode (mB mM_readDoctor) 50 = .ok (.getfield 133, 3) := op180 0 133 (by decide +kernel)
theorem dM_readDoctor_53 : decode (mB mM_readDoctor) 53 = .ok (.isub, 1) := op100 (by decide +kernel)
theorem dM_readDoctor_54 : decode (mB mM_readDoctor) 54 = .ok (.iconst 1, 1) := op4 (by decide +kernel)
theorem dM_readDoctor_55 : decode (mB mM_readDoctor) 55 = .ok (.if_icmp .ne 19, 3) := op160 0 19 (by decide +kernel)
theorem dM_readDoctor_58 : decode (mB mM_readDoctor) 58 = .ok (.iload_n 1, 1) := op27 (by decide +kernel)
theorem dM_readDoctor_59 : decode (mB mM_readDoctor) 59 = .ok (.i2l, 1) := op133 (by decide +kernel)
theorem dM_readDoctor_60 : decode (mB mM_readDoctor) 60 = .ok (.lconst 0, 1) := op9 (by decide +kernel)
theorem dM_readDoctor_61 : decode (mB mM_readDoctor) 61 = .ok (.ldc2_w 183, 3) := op20 0 183 (by decide +kernel)
theorem dM_readDoctor_64 : decode (mB mM_readDoctor) 64 = .ok (.invokestatic 126, 3) := op184 0 126 (by decide +kernel)
theorem dM_readDoctor_67 : decode (mB mM_readDoctor) 67 = .ok (.ifCond .eq 7, 3) := op153 0 7 (by decide +kernel)
theorem dM_readDoctor_70 : decode (mB mM_readDoctor) 70 = .ok (.iconst 1, 1) := op4 (by decide +kernel)
theorem dM_readDoctor_71 : decode (mB mM_readDoctor) 71 = .ok (.goto 4, 3) := op167 0 4 (by decide +kernel)
theorem dM_readDoctor_74 : decode (mB mM_readDoctor) 74 = .ok (.iconst 0, 1) := op3 (by decide +kernel)
theorem dM_readDoctor_75 : decode (mB mM_readDoctor) 75 = .ok (.iconst 3, 1) := op6 (by decide +kernel)
theorem dM_readDoctor_76 : decode (mB mM_readDoctor) 76 = .ok (.invokevirtual 172, 3) := op182 0 172 (by decide +kernel)
theorem dM_readDoctor_79 : decode (mB mM_readDoctor) 79 = .ok (.aload_n 0, 1) := op42 (by decide +kernel)
theorem dM_readDoctor_80 : decode (mB mM_readDoctor) 80 = .ok (.invokevirtual 180, 3) := op182 0 180 (by decide +kernel)
theorem dM_readDoctor_83 : decode (mB mM_readDoctor) 83 = .ok (.iload_n 1, 1) := op27 (by decide +kernel)
theorem dM_readDoctor_84 : decode (mB mM_readDoctor) 84 = .ok (.ireturn, 1) := op172 (by decide +kernel)

theorem vM_readDoctor_0 {M : Mm} {b : Nat × Nat} {K : Int32 → Mm → Prop} {v0 : Nat} (kv0 : v0 % 64 = 11) 
    (h : (¬ (gi M v0 16) = 0 → (X mM_readDoctor 25 [(0, .ref v0)] [] M b (QI K))) ∧ (((gi M v0 16) = 0 ∧ ¬ (gi M v0 14) = 1) → (X mM_readDoctor 21 [(0, .ref v0)] [.int 0, .ref v0] M b (QI K))) ∧ (((gi M v0 16) = 0 ∧ (gi M v0 14) = 1) → (X mM_readDoctor 21 [(0, .ref v0)] [.int 1, .ref v0] M b (QI K)))) : X mM_readDoctor 0 [(0, .ref v0)] [] M b (QI K) := by
  refine x_wf (fun hw => ?_)
  refine x_aload_n (pc := 0) dM_readDoctor_0 rfl (q := 0) rfl ?_
  refine x_getI (pc := 1) dM_readDoctor_1 kv0 flM_130 rfl ?_
  obtain ⟨g1_0, g1_1, g1_2⟩ := h
  refine x_if_ne (pc := 4) dM_readDoctor_4 (t := 25) rfl (fun q1 => ?_) (fun q1 => ?_)
  · have h := g1_0 q1
    exact h
  · refine x_aload_n (pc := 7) dM_readDoctor_7 rfl (q := 0) rfl ?_
    refine x_aload_n (pc := 8) dM_readDoctor_8 rfl (q := 0) rfl ?_
    refine x_getI (pc := 9) dM_readDoctor_9 kv0 flM_158 rfl ?_
    refine x_iconst (pc := 12) dM_readDoctor_12 (v := 1) rfl ?_
    refine x_icmp_ne (pc := 13) dM_readDoctor_13 (t := 20) rfl (fun q2 => ?_) (fun q2 => ?_)
    · refine x_iconst (pc := 20) dM_readDoctor_20 (v := 0) rfl ?_
      have h := g1_1 ⟨q1, q2⟩
      exact h
    · refine x_iconst (pc := 16) dM_readDoctor_16 (v := 1) rfl ?_
      refine x_goto (pc := 17) dM_readDoctor_17 (t := 21) rfl ?_
      have h := g1_2 ⟨q1, q2⟩
      exact h

theorem vM_readDoctor_21 {M : Mm} {b : Nat × Nat} {K : Int32 → Mm → Prop} {v0 : Nat} {w0 : Int32} {w1 : Nat} (kw1 : w1 % 64 = 11) 
    (h : CV mM_wants [.ref w1, .int w0, .int 2] M (fun N => X mM_readDoctor 25 [(0, .ref v0)] [] N b (QI K))) : X mM_readDoctor 21 [(0, .ref v0)] [.int w0, .ref w1] M b (QI K) := by
  refine x_wf (fun hw => ?_)
  refine x_iconst (pc := 21) dM_readDoctor_21 (v := 2) rfl ?_
  exact x_invV (pc := 22) dM_readDoctor_22 (c := 11) (S := []) (As := [.int w0, .int 2]) mlM_172 hM_wants rfl (by decide) rfl kw1 ⟨by decide, by decide⟩ ⟨Nat.zero_le _, Nat.zero_le _⟩ rfl (Nat.le_of_ble_eq_true rfl) (aftV (b' := b) ⟨Nat.le_refl _, Nat.le_refl _⟩ (fun N h => h) h)

theorem vM_readDoctor_25 {M : Mm} {b : Nat × Nat} {K : Int32 → Mm → Prop} {v0 : Nat} (kv0 : v0 % 64 = 11) 
    (h : CI mM_look [.ref v0, .int (gi M v0 13)] M (fun rv N => X mM_readDoctor 33 [(0, .ref v0)] [.int rv] N b (QI K))) : X mM_readDoctor 25 [(0, .ref v0)] [] M b (QI K) := by
  refine x_wf (fun hw => ?_)
  refine x_aload_n (pc := 25) dM_readDoctor_25 rfl (q := 0) rfl ?_
  refine x_aload_n (pc := 26) dM_readDoctor_26 rfl (q := 0) rfl ?_
  refine x_getI (pc := 27) dM_readDoctor_27 kv0 flM_133 rfl ?_
  exact x_invV (pc := 30) dM_readDoctor_30 (c := 11) (S := []) (As := [.int (gi M v0 13)]) mlM_142 hM_look rfl (by decide) rfl kv0 ⟨by decide, by decide⟩ ⟨Nat.zero_le _, Nat.zero_le _⟩ rfl (Nat.le_of_ble_eq_true rfl) (aftI (b' := b) ⟨Nat.le_refl _, Nat.le_refl _⟩ (fun rv N h => h) h)

theorem vM_readDoctor_33 {M : Mm} {b : Nat × Nat} {K : Int32 → Mm → Prop} {v0 : Nat} {w0 : Int32} (kv0 : v0 % 64 = 11) 
    (h : (¬ (gi M v0 16) = 0 → (X mM_readDoctor 79 [(0, .ref v0), (1, .int (w0 - 97))] [] M b (QI K))) ∧ (((gi M v0 16) = 0 ∧ ¬ ((gi M v0 12) - (gi M v0 13)) = 1) → (X mM_readDoctor 74 [(0, .ref v0), (1, .int (w0 - 97))] [.ref v0] M b (QI K))) ∧ (((gi M v0 16) = 0 ∧ ((gi M v0 12) - (gi M v0 13)) = 1) → (CI mM_in [.long ((w0 - 97).toInt64), .long 0, .long 7] M (fun rv N => X mM_readDoctor 67 [(0, .ref v0), (1, .int (w0 - 97))] [.int rv, .ref v0] N b (QI K))))) : X mM_readDoctor 33 [(0, .ref v0)] [.int w0] M b (QI K) := by
  refine x_wf (fun hw => ?_)
  refine x_bipush (pc := 33) dM_readDoctor_33 (v := 97) rfl ?_
  refine x_isub (pc := 35) dM_readDoctor_35 ?_
  refine x_istore_n (pc := 36) dM_readDoctor_36 rfl (by decide) (L' := [(1, .int (w0 - 97)), (0, .ref v0)]) rfl ?_
  refine x_aload_n (pc := 37) dM_readDoctor_37 rfl (q := 1) rfl ?_
  refine x_getI (pc := 38) dM_readDoctor_38 kv0 flM_130 rfl ?_
  obtain ⟨g1_0, g1_1, g1_2⟩ := h
  refine x_if_ne (pc := 41) dM_readDoctor_41 (t := 79) rfl (fun q1 => ?_) (fun q1 => ?_)
  · have h := g1_0 q1
    exact x_loc [1, 0] rfl h
  · refine x_aload_n (pc := 44) dM_readDoctor_44 rfl (q := 1) rfl ?_
    refine x_aload_n (pc := 45) dM_readDoctor_45 rfl (q := 1) rfl ?_
    refine x_getI (pc := 46) dM_readDoctor_46 kv0 flM_139 rfl ?_
    refine x_aload_n (pc := 49) dM_readDoctor_49 rfl (q := 1) rfl ?_
    refine x_getI (pc := 50) dM_readDoctor_50 kv0 flM_133 rfl ?_
    refine x_isub (pc := 53) dM_readDoctor_53 ?_
    refine x_iconst (pc := 54) dM_readDoctor_54 (v := 1) rfl ?_
    refine x_icmp_ne (pc := 55) dM_readDoctor_55 (t := 74) rfl (fun q2 => ?_) (fun q2 => ?_)
    · have h := g1_1 ⟨q1, q2⟩
      exact x_loc [1, 0] rfl h
    · refine x_iload_n (pc := 58) dM_readDoctor_58 rfl (q := 0) rfl ?_
      refine x_i2l (pc := 59) dM_readDoctor_59 ?_
      refine x_lconst (pc := 60) dM_readDoctor_60 (v := 0) rfl ?_
      refine x_ldc2 (pc := 61) dM_readDoctor_61 klM_183 ?_
      have h := g1_2 ⟨q1, q2⟩
      exact x_invS (pc := 64) dM_readDoctor_64 (S := [.ref v0]) (As := [.long ((w0 - 97).toInt64), .long 0, .long 7]) mlM_126 hM_in rfl ⟨by decide, by decide⟩ ⟨Nat.zero_le _, Nat.zero_le _⟩ rfl (Nat.le_of_ble_eq_true rfl) (aftI (b' := b) ⟨Nat.le_refl _, Nat.le_refl _⟩ (fun rv N h => x_loc [1, 0] rfl h) h)

theorem vM_readDoctor_67 {M : Mm} {b : Nat × Nat} {K : Int32 → Mm → Prop} {v0 : Nat} {v1 : Int32} {w0 : Int32} {w1 : Nat}  
    (h : (w0 = 0 → (X mM_readDoctor 74 [(0, .ref v0), (1, .int v1)] [.ref w1] M b (QI K))) ∧ (¬ w0 = 0 → (X mM_readDoctor 75 [(0, .ref v0), (1, .int v1)] [.int 1, .ref w1] M b (QI K)))) : X mM_readDoctor 67 [(0, .ref v0), (1, .int v1)] [.int w0, .ref w1] M b (QI K) := by
  refine x_wf (fun hw => ?_)
  obtain ⟨g1_0, g1_1⟩ := h
  refine x_if_eq (pc := 67) dM_readDoctor_67 (t := 74) rfl (fun q1 => ?_) (fun q1 => ?_)
  · have h := g1_0 q1
    exact h
  · refine x_iconst (pc := 70) dM_readDoctor_70 (v := 1) rfl ?_
    refine x_goto (pc := 71) dM_readDoctor_71 (t := 75) rfl ?_
    have h := g1_1 q1
    exact h

theorem vM_readDoctor_74 {M : Mm} {b : Nat × Nat} {K : Int32 → Mm → Prop} {v0 : Nat} {v1 : Int32} {w0 : Nat}  
    (h : X mM_readDoctor 75 [(0, .ref v0), (1, .int v1)] [.int 0, .ref w0] M b (QI K)) : X mM_readDoctor 74 [(0, .ref v0), (1, .int v1)] [.ref w0] M b (QI K) := by
  refine x_wf (fun hw => ?_)
  refine x_iconst (pc := 74) dM_readDoctor_74 (v := 0) rfl ?_
  exact h

theorem vM_readDoctor_75 {M : Mm} {b : Nat × Nat} {K : Int32 → Mm → Prop} {v0 : Nat} {v1 : Int32} {w0 : Int32} {w1 : Nat} (kw1 : w1 % 64 = 11) 
    (h : CV mM_wants [.ref w1, .int w0, .int 3] M (fun N => X mM_readDoctor 79 [(0, .ref v0), (1, .int v1)] [] N b (QI K))) : X mM_readDoctor 75 [(0, .ref v0), (1, .int v1)] [.int w0, .ref w1] M b (QI K) := by
  refine x_wf (fun hw => ?_)
  refine x_iconst (pc := 75) dM_readDoctor_75 (v := 3) rfl ?_
  exact x_invV (pc := 76) dM_readDoctor_76 (c := 11) (S := []) (As := [.int w0, .int 3]) mlM_172 hM_wants rfl (by decide) rfl kw1 ⟨by decide, by decide⟩ ⟨Nat.zero_le _, Nat.zero_le _⟩ rfl (Nat.le_of_ble_eq_true rfl) (aftV (b' := b) ⟨Nat.le_refl _, Nat.le_refl _⟩ (fun N h => h) h)

theorem vM_readDoctor_79 {M : Mm} {b : Nat × Nat} {K : Int32 → Mm → Prop} {v0 : Nat} {v1 : Int32} (kv0 : v0 % 64 = 11) 
    (h : CV mM_next [.ref v0] M (fun N => X mM_readDoctor 83 [(1, .int v1)] [] N b (QI K))) : X mM_readDoctor 79 [(0, .ref v0), (1, .int v1)] [] M b (QI K) := by
  refine x_wf (fun hw => ?_)
  refine x_aload_n (pc := 79) dM_readDoctor_79 rfl (q := 0) rfl ?_
  exact x_invV (pc := 80) dM_readDoctor_80 (c := 11) (S := []) (As := []) mlM_180 hM_next rfl (by decide) rfl kv0 ⟨by decide, by decide⟩ ⟨Nat.zero_le _, Nat.zero_le _⟩ rfl (Nat.le_of_ble_eq_true rfl) (aftV (b' := b) ⟨Nat.le_refl _, Nat.le_refl _⟩ (fun N h => x_loc [1] rfl h) h)

theorem vM_readDoctor_83 {M : Mm} {b : Nat × Nat} {K : Int32 → Mm → Prop} {v1 : Int32}  
    (h : K v1 M) : X mM_readDoctor 83 [(1, .int v1)] [] M b (QI K) := by
  refine x_wf (fun hw => ?_)
  refine x_iload_n (pc := 83) dM_readDoctor_83 rfl (q := 0) rfl ?_
  exact x_retQI (pc := 84) dM_readDoctor_84 rfl rfl h

theorem dM_readMarks_0 : decode (mB mM_readMarks) 0 = .ok (.aload_n 0, 1) := op42 (by decide +kernel)
theorem dM_readMarks_1 : decode (mB mM_readMarks) 1 = .ok (.getfield 130, 3) := op180 0 130 (by decide +kernel)
theorem dM_readMarks_4 : decode (mB mM_readMarks) 4 = .ok (.ifCond .ne 29, 3) := op154 0 29 (by decide +kernel)
theorem dM_readMarks_7 : decode (mB mM_readMarks) 7 = .ok (.aload_n 0, 1) := op42 (by decide +kernel)
theorem dM_readMarks_8 : decode (mB mM_readMarks) 8 = .ok (.aload_n 0, 1) := op42 (by decide +kernel)
theorem dM_readMarks_9 : decode (mB mM_readMarks) 9 = .ok (.getfield 158, 3) := op180 0 158 (by decide +kernel)
theorem dM_readMarks_12 : decode (mB mM_readMarks) 12 = .ok (.iconst 1, 1) := op4 (by decide +kernel)
theorem dM_readMarks_13 : decode (mB mM_readMarks) 13 = .ok (.if_icmp .eq 11, 3) := op159 0 11 (by decide +kernel)
theorem dM_readMarks_16 : decode (mB mM_readMarks) 16 = .ok (.aload_n 0, 1) := op42 (by decide +kernel)
theorem dM_readMarks_17 : decode (mB mM_readMarks) 17 = .ok (.getfield 158, 3) := op180 0 158 (by decide +kernel)
theorem dM_readMarks_20 : decode (mB mM_readMarks) 20 = .ok (.iconst 3, 1) := op6 (by decide +kernel)
theorem dM_readMarks_21 : decode (mB mM_readMarks) 21 = .ok (.if_icmp .ne 7, 3) := op160 0 7 (by decide +kernel)
theorem dM_readMarks_24 : decode (mB mM_readMarks) 24 = .ok (.iconst 1, 1) := op4 (by decide +kernel)
theorem dM_readMarks_25 : decode (mB mM_readMarks) 25 = .ok (.goto 4, 3) := op167 0 4 (by decide +kernel)
theorem dM_readMarks_28 : decode (mB mM_readMarks) 28 = .ok (.iconst 0, 1) := op3 (by decide +kernel)
theorem dM_readMarks_29 : decode (mB mM_readMarks) 29 = .ok (.iconst 2, 1) := op5 (by decide +kernel)
theorem dM_readMarks_30 : decode (mB mM_readMarks) 30 = .ok (.invokevirtual 172, 3) := op182 0 172 (by decide +kernel)
theorem dM_readMarks_33 : decode (mB mM_readMarks) 33 = .ok (.aload_n 0, 1) := op42 (by decide +kernel)
theorem dM_readMarks_34 : decode (mB mM_readMarks) 34 = .ok (.getfield 158, 3) := op180 0 158 (by decide +kernel)
theorem dM_readMarks_37 : decode (mB mM_readMarks) 37 = .ok (.iconst 1, 1) := op4 (by decide +kernel)
theorem dM_readMarks_38 : decode (mB mM_readMarks) 38 = .ok (.if_icmp .ne 14, 3) := op160 0 14 (by decide +kernel)
theorem dM_readMarks_41 : decode (mB mM_readMarks) 41 = .ok (.aload_n 0, 1) := op42 (by decide +kernel)
theorem dM_readMarks_42 : decode (mB mM_readMarks) 42 = .ok (.bipush 112, 2) := op16 112 (by decide +kernel)
theorem dM_readMarks_44 : decode (mB mM_readMarks) 44 = .ok (.bipush 6, 2) := op16 6 (by decide +kernel)
theorem dM_readMarks_46 : decode (mB mM_readMarks) 46 = .ok (.invokevirtual 185, 3) := op182 0 185 (by decide +kernel)
theorem dM_readMarks_49 : decode (mB mM_readMarks) 49 = .ok (.goto 4, 3) := op167 0 4 (by decide +kernel)
theorem dM_readMarks_52 : decode (mB mM_readMarks) 52 = .ok (.iconst 0, 1) := op3 (by decide +kernel)
theorem dM_readMarks_53 : decode (mB mM_readMarks) 53 = .ok (.istore_n 2, 1) := op61 (by decide +kernel)
theorem dM_readMarks_54 : decode (mB mM_readMarks) 54 = .ok (.aload_n 0, 1) := op42 (by decide +kernel)
theorem dM_readMarks_55 : decode (mB mM_readMarks) 55 = .ok (.getfield 130, 3) := op180 0 130 (by decide +kernel)
theorem dM_readMarks_58 : decode (mB mM_readMarks) 58 = .ok (.ifCond .ne 19, 3) := op154 0 19 (by decide +kernel)
theorem dM_readMarks_61 : decode (mB mM_readMarks) 61 = .ok (.aload_n 0, 1) := op42 (by decide +kernel)
theorem dM_readMarks_62 : decode (mB mM_readMarks) 62 = .ok (.iload_n 2, 1) := op28 (by decide +kernel)
theorem dM_readMarks_63 : decode (mB mM_readMarks) 63 = .ok (.bipush (-4), 2) := op16 252 (by decide +kernel)
theorem dM_readMarks_65 : decode (mB mM_readMarks) 65 = .ok (.if_icmp .eq 7, 3) := op159 0 7 (by decide +kernel)
theorem dM_readMarks_68 : decode (mB mM_readMarks) 68 = .ok (.iconst 1, 1) := op4 (by decide +kernel)
theorem dM_readMarks_69 : decode (mB mM_readMarks) 69 = .ok (.goto 4, 3) := op167 0 4 (by decide +kernel)
theorem dM_readMarks_72 : decode (mB mM_readMarks) 72 = .ok (.iconst 0, 1) := op3 (by decide +kernel)
theorem dM_readMarks_73 : decode (mB mM_readMarks) 73 = .ok (.iconst 3, 1) := op6 (by decide +kernel)
theorem dM_readMarks_74 : decode (mB mM_readMarks) 74 = .ok (.invokevirtual 172, 3) := op182 0 172 (by decide +kernel)
theorem dM_readMarks_77 : decode (mB mM_readMarks) 77 = .ok (.aload_n 0, 1) := op42 (by decide +kernel)
theorem dM_readMarks_78 : decode (mB mM_readMarks) 78 = .ok (.getfield 130, 3) := op180 0 130 (by decide +kernel)
theorem dM_readMarks_81 : decode (mB mM_readMarks) 81 = .ok (.ifCond .ne 19, 3) := op154 0 19 (by decide +kernel)
theorem dM_readMarks_84 : decode (mB mM_readMarks) 84 = .ok (.aload_n 0, 1) := op42 (by decide +kernel)
theorem dM_readMarks_85 : decode (mB mM_readMarks) 85 = .ok (.iload_n 2, 1) := op28 (by decide +kernel)
theorem dM_readMarks_86 : decode (mB mM_readMarks) 86 = .ok (.iload_n 1, 1) := op27 (by decide +kernel)
theorem dM_readMarks_87 : decode (mB mM_readMarks) 87 = .ok (.iand, 1) := op126 (by decide +kernel)
theorem dM_readMarks_88 : decode (mB mM_readMarks) 88 = .ok (.ifCond .ne 7, 3) := op154 0 7 (by decide +kernel)
theorem dM_readMarks_91 : decode (mB mM_readMarks) 91 = .ok (.iconst 1, 1) := op4 (by decide +kernel)
theorem dM_readMarks_92 : decode (mB mM_readMarks) 92 = .ok (.goto 4, 3) := op167 0 4 (by decide +kernel)
theorem dM_readMarks_95 : decode (mB mM_readMarks) 95 = .ok (.iconst 0, 1) := op3 (by decide +kernel)
theorem dM_readMarks_96 : decode (mB mM_readMarks) 96 = .ok (.iconst 4, 1) := op7 (by decide +kernel)
theorem dM_readMarks_97 : decode (mB mM_readMarks) 97 = .ok (.invokevirtual 172, 3) := op182 0 172 (by decide +kernel)
theorem dM_readMarks_100 : decode (mB mM_readMarks) 100 = .ok (.aload_n 0, 1) := op42 (by decide +kernel)
theorem dM_readMarks_101 : decode (mB mM_readMarks) 101 = .ok (.invokevirtual 180, 3) := op182 0 180 (by decide +kernel)
theorem dM_readMarks_104 : decode (mB mM_readMarks) 104 = .ok (.iload_n 2, 1) := op28 (by decide +kernel)
theorem dM_readMarks_105 : decode (mB mM_readMarks) 105 = .ok (.ireturn, 1) := op172 (by decide +kernel)

theorem vM_readMarks_0 {M : Mm} {b : Nat × Nat} {K : Int32 → Mm → Prop} {v0 : Nat} {v1 : Int32} (kv0 : v0 % 64 = 11) 
    (h : (¬ (gi M v0 16) = 0 → (X mM_readMarks 33 [(0, .ref v0), (1, .int v1)] [] M b (QI K))) ∧ ((((gi M v0 16) = 0 ∧ (gi M v0 14) = 1) ∨ ((gi M v0 16) = 0 ∧ ¬ (gi M v0 14) = 1 ∧ (gi M v0 14) = 3)) → (X mM_readMarks 29 [(0, .ref v0), (1, .int v1)] [.int 1, .ref v0] M b (QI K))) ∧ (((gi M v0 16) = 0 ∧ ¬ (gi M v0 14) = 1 ∧ ¬ (gi M v0 14) = 3) → (X mM_readMarks 29 [(0, .ref v0), (1, .int v1)] [.int 0, .ref v0] M b (QI K)))) : X mM_readMarks 0 [(0, .ref v0), (1, .int v1)] [] M b (QI K) := by
  refine x_wf (fun hw => ?_)
  refine x_aload_n (pc := 0) dM_readMarks_0 rfl (q := 0) rfl ?_
  refine x_getI (pc := 1) dM_readMarks_1 kv0 flM_130 rfl ?_
  obtain ⟨g1_0, g1_1, g1_2⟩ := h
  have g1_k1 : ((gi M v0 16) = 0 ∧ (gi M v0 14) = 1) ∨ ((gi M v0 16) = 0 ∧ ¬ (gi M v0 14) = 1 ∧ (gi M v0 14) = 3) → X mM_readMarks 24 [(0, .ref v0), (1, .int v1)] [.ref v0] M b (QI K) := fun q => by
    have h := g1_1 q
    refine x_iconst (pc := 24) dM_readMarks_24 (v := 1) rfl ?_
    refine x_goto (pc := 25) dM_readMarks_25 (t := 29) rfl ?_
    exact h
  refine x_if_ne (pc := 4) dM_readMarks_4 (t := 33) rfl (fun q1 => ?_) (fun q1 => ?_)
  · have h := g1_0 q1
    exact h
  · refine x_aload_n (pc := 7) dM_readMarks_7 rfl (q := 0) rfl ?_
    refine x_aload_n (pc := 8) dM_readMarks_8 rfl (q := 0) rfl ?_
    refine x_getI (pc := 9) dM_readMarks_9 kv0 flM_158 rfl ?_
    refine x_iconst (pc := 12) dM_readMarks_12 (v := 1) rfl ?_
    refine x_icmp_eq (pc := 13) dM_readMarks_13 (t := 24) rfl (fun q2 => ?_) (fun q2 => ?_)
    · exact g1_k1 (Or.inl ⟨q1, q2⟩)
    · refine x_aload_n (pc := 16) dM_readMarks_16 rfl (q := 0) rfl ?_
      refine x_getI (pc := 17) dM_readMarks_17 kv0 flM_158 rfl ?_
      refine x_iconst (pc := 20) dM_readMarks_20 (v := 3) rfl ?_
      refine x_icmp_ne (pc := 21) dM_readMarks_21 (t := 28) rfl (fun q3 => ?_) (fun q3 => ?_)
      · refine x_iconst (pc := 28) dM_readMarks_28 (v := 0) rfl ?_
        have h := g1_2 ⟨q1, q2, q3⟩
        exact h
      · exact g1_k1 (Or.inr ⟨q1, q2, q3⟩)

theorem vM_readMarks_29 {M : Mm} {b : Nat × Nat} {K : Int32 → Mm → Prop} {v0 : Nat} {v1 : Int32} {w0 : Int32} {w1 : Nat} (kw1 : w1 % 64 = 11) 
    (h : CV mM_wants [.ref w1, .int w0, .int 2] M (fun N => X mM_readMarks 33 [(0, .ref v0), (1, .int v1)] [] N b (QI K))) : X mM_readMarks 29 [(0, .ref v0), (1, .int v1)] [.int w0, .ref w1] M b (QI K) := by
  refine x_wf (fun hw => ?_)
  refine x_iconst (pc := 29) dM_readMarks_29 (v := 2) rfl ?_
  exact x_invV (pc := 30) dM_readMarks_30 (c := 11) (S := []) (As := [.int w0, .int 2]) mlM_172 hM_wants rfl (by decide) rfl kw1 ⟨by decide, by decide⟩ ⟨Nat.zero_le _, Nat.zero_le _⟩ rfl (Nat.le_of_ble_eq_true rfl) (aftV (b' := b) ⟨Nat.le_refl _, Nat.le_refl _⟩ (fun N h => h) h)

theorem vM_readMarks_33 {M : Mm} {b : Nat × Nat} {K : Int32 → Mm → Prop} {v0 : Nat} {v1 : Int32} (kv0 : v0 % 64 = 11) 
    (h : (¬ (gi M v0 14) = 1 → (X mM_readMarks 53 [(0, .ref v0), (1, .int v1)] [.int 0] M b (QI K))) ∧ ((gi M v0 14) = 1 → (CI mM_letters [.ref v0, .int 112, .int 6] M (fun rv N => X mM_readMarks 49 [(0, .ref v0), (1, .int v1)] [.int rv] N b (QI K))))) : X mM_readMarks 33 [(0, .ref v0), (1, .int v1)] [] M b (QI K) := by
  refine x_wf (fun hw => ?_)
  refine x_aload_n (pc := 33) dM_readMarks_33 rfl (q := 0) rfl ?_
  refine x_getI (pc := 34) dM_readMarks_34 kv0 flM_158 rfl ?_
  refine x_iconst (pc := 37) dM_readMarks_37 (v := 1) rfl ?_
  obtain ⟨g1_0, g1_1⟩ := h
  refine x_icmp_ne (pc := 38) dM_readMarks_38 (t := 52) rfl (fun q1 => ?_) (fun q1 => ?_)
  · refine x_iconst (pc := 52) dM_readMarks_52 (v := 0) rfl ?_
    have h := g1_0 q1
    exact h
  · refine x_aload_n (pc := 41) dM_readMarks_41 rfl (q := 0) rfl ?_
    refine x_bipush (pc := 42) dM_readMarks_42 (v := 112) rfl ?_
    refine x_bipush (pc := 44) dM_readMarks_44 (v := 6) rfl ?_
    have h := g1_1 q1
    exact x_invV (pc := 46) dM_readMarks_46 (c := 11) (S := []) (As := [.int 112, .int 6]) mlM_185 hM_letters rfl (by decide) rfl kv0 ⟨by decide, by decide⟩ ⟨Nat.zero_le _, Nat.zero_le _⟩ rfl (Nat.le_of_ble_eq_true rfl) (aftI (b' := b) ⟨Nat.le_refl _, Nat.le_refl _⟩ (fun rv N h => h) h)

theorem vM_readMarks_49 {M : Mm} {b : Nat × Nat} {K : Int32 → Mm → Prop} {v0 : Nat} {v1 : Int32} {w0 : Int32}  
    (h : X mM_readMarks 53 [(0, .ref v0), (1, .int v1)] [.int w0] M b (QI K)) : X mM_readMarks 49 [(0, .ref v0), (1, .int v1)] [.int w0] M b (QI K) := by
  refine x_wf (fun hw => ?_)
  refine x_goto (pc := 49) dM_readMarks_49 (t := 53) rfl ?_
  exact h

theorem vM_readMarks_53 {M : Mm} {b : Nat × Nat} {K : Int32 → Mm → Prop} {v0 : Nat} {v1 : Int32} {w0 : Int32} (kv0 : v0 % 64 = 11) 
    (h : (¬ (gi M v0 16) = 0 → (X mM_readMarks 77 [(0, .ref v0), (1, .int v1), (2, .int w0)] [] M b (QI K))) ∧ (((gi M v0 16) = 0 ∧ w0 = (-4)) → (X mM_readMarks 73 [(0, .ref v0), (1, .int v1), (2, .int w0)] [.int 0, .ref v0] M b (QI K))) ∧ (((gi M v0 16) = 0 ∧ ¬ w0 = (-4)) → (X mM_readMarks 73 [(0, .ref v0), (1, .int v1), (2, .int w0)] [.int 1, .ref v0] M b (QI K)))) : X mM_readMarks 53 [(0, .ref v0), (1, .int v1)] [.int w0] M b (QI K) := by
  refine x_wf (fun hw => ?_)
  refine x_istore_n (pc := 53) dM_readMarks_53 rfl (by decide) (L' := [(2, .int w0), (0, .ref v0), (1, .int v1)]) rfl ?_
  refine x_aload_n (pc := 54) dM_readMarks_54 rfl (q := 1) rfl ?_
  refine x_getI (pc := 55) dM_readMarks_55 kv0 flM_130 rfl ?_
  obtain ⟨g1_0, g1_1, g1_2⟩ := h
  refine x_if_ne (pc := 58) dM_readMarks_58 (t := 77) rfl (fun q1 => ?_) (fun q1 => ?_)
  · have h := g1_0 q1
    exact x_loc [1, 2, 0] rfl h
  · refine x_aload_n (pc := 61) dM_readMarks_61 rfl (q := 1) rfl ?_
    refine x_iload_n (pc := 62) dM_readMarks_62 rfl (q := 0) rfl ?_
    refine x_bipush (pc := 63) dM_readMarks_63 (v := (-4)) rfl ?_
    refine x_icmp_eq (pc := 65) dM_readMarks_65 (t := 72) rfl (fun q2 => ?_) (fun q2 => ?_)
    · refine x_iconst (pc := 72) dM_readMarks_72 (v := 0) rfl ?_
      have h := g1_1 ⟨q1, q2⟩
      exact x_loc [1, 2, 0] rfl h
    · refine x_iconst (pc := 68) dM_readMarks_68 (v := 1) rfl ?_
      refine x_goto (pc := 69) dM_readMarks_69 (t := 73) rfl ?_
      have h := g1_2 ⟨q1, q2⟩
      exact x_loc [1, 2, 0] rfl h

theorem vM_readMarks_73 {M : Mm} {b : Nat × Nat} {K : Int32 → Mm → Prop} {v0 : Nat} {v1 : Int32} {v2 : Int32} {w0 : Int32} {w1 : Nat} (kw1 : w1 % 64 = 11) 
    (h : CV mM_wants [.ref w1, .int w0, .int 3] M (fun N => X mM_readMarks 77 [(0, .ref v0), (1, .int v1), (2, .int v2)] [] N b (QI K))) : X mM_readMarks 73 [(0, .ref v0), (1, .int v1), (2, .int v2)] [.int w0, .ref w1] M b (QI K) := by
  refine x_wf (fun hw => ?_)
  refine x_iconst (pc := 73) dM_readMarks_73 (v := 3) rfl ?_
  exact x_invV (pc := 74) dM_readMarks_74 (c := 11) (S := []) (As := [.int w0, .int 3]) mlM_172 hM_wants rfl (by decide) rfl kw1 ⟨by decide, by decide⟩ ⟨Nat.zero_le _, Nat.zero_le _⟩ rfl (Nat.le_of_ble_eq_true rfl) (aftV (b' := b) ⟨Nat.le_refl _, Nat.le_refl _⟩ (fun N h => h) h)

theorem vM_readMarks_77 {M : Mm} {b : Nat × Nat} {K : Int32 → Mm → Prop} {v0 : Nat} {v1 : Int32} {v2 : Int32} (kv0 : v0 % 64 = 11) 
    (h : (¬ (gi M v0 16) = 0 → (X mM_readMarks 100 [(0, .ref v0), (2, .int v2)] [] M b (QI K))) ∧ (((gi M v0 16) = 0 ∧ ¬ (v2 &&& v1) = 0) → (X mM_readMarks 96 [(0, .ref v0), (2, .int v2)] [.int 0, .ref v0] M b (QI K))) ∧ (((gi M v0 16) = 0 ∧ (v2 &&& v1) = 0) → (X mM_readMarks 96 [(0, .ref v0), (2, .int v2)] [.int 1, .ref v0] M b (QI K)))) : X mM_readMarks 77 [(0, .ref v0), (1, .int v1), (2, .int v2)] [] M b (QI K) := by
  refine x_wf (fun hw => ?_)
  refine x_aload_n (pc := 77) dM_readMarks_77 rfl (q := 0) rfl ?_
  refine x_getI (pc := 78) dM_readMarks_78 kv0 flM_130 rfl ?_
  obtain ⟨g1_0, g1_1, g1_2⟩ := h
  refine x_if_ne (pc := 81) dM_readMarks_81 (t := 100) rfl (fun q1 => ?_) (fun q1 => ?_)
  · have h := g1_0 q1
    exact x_loc [0, 2] rfl h
  · refine x_aload_n (pc := 84) dM_readMarks_84 rfl (q := 0) rfl ?_
    refine x_iload_n (pc := 85) dM_readMarks_85 rfl (q := 2) rfl ?_
    refine x_iload_n (pc := 86) dM_readMarks_86 rfl (q := 1) rfl ?_
    refine x_iand (pc := 87) dM_readMarks_87 ?_
    refine x_if_ne (pc := 88) dM_readMarks_88 (t := 95) rfl (fun q2 => ?_) (fun q2 => ?_)
    · refine x_iconst (pc := 95) dM_readMarks_95 (v := 0) rfl ?_
      have h := g1_1 ⟨q1, q2⟩
      exact x_loc [0, 2] rfl h
    · refine x_iconst (pc := 91) dM_readMarks_91 (v := 1) rfl ?_
      refine x_goto (pc := 92) dM_readMarks_92 (t := 96) rfl ?_
      have h := g1_2 ⟨q1, q2⟩
      exact x_loc [0, 2] rfl h

theorem vM_readMarks_96 {M : Mm} {b : Nat × Nat} {K : Int32 → Mm → Prop} {v0 : Nat} {v2 : Int32} {w0 : Int32} {w1 : Nat} (kw1 : w1 % 64 = 11) 
    (h : CV mM_wants [.ref w1, .int w0, .int 4] M (fun N => X mM_readMarks 100 [(0, .ref v0), (2, .int v2)] [] N b (QI K))) : X mM_readMarks 96 [(0, .ref v0), (2, .int v2)] [.int w0, .ref w1] M b (QI K) := by
  refine x_wf (fun hw => ?_)
  refine x_iconst (pc := 96) dM_readMarks_96 (v := 4) rfl ?_
  exact x_invV (pc := 97) dM_readMarks_97 (c := 11) (S := []) (As := [.int w0, .int 4]) mlM_172 hM_wants rfl (by decide) rfl kw1 ⟨by decide, by decide⟩ ⟨Nat.zero_le _, Nat.zero_le _⟩ rfl (Nat.le_of_ble_eq_true rfl) (aftV (b' := b) ⟨Nat.le_refl _, Nat.le_refl _⟩ (fun N h => h) h)

theorem vM_readMarks_100 {M : Mm} {b : Nat × Nat} {K : Int32 → Mm → Prop} {v0 : Nat} {v2 : Int32} (kv0 : v0 % 64 = 11) 
    (h : CV mM_next [.ref v0] M (fun N => X mM_readMarks 104 [(2, .int v2)] [] N b (QI K))) : X mM_readMarks 100 [(0, .ref v0), (2, .int v2)] [] M b (QI K) := by
  refine x_wf (fun hw => ?_)
  refine x_aload_n (pc := 100) dM_readMarks_100 rfl (q := 0) rfl ?_
  exact x_invV (pc := 101) dM_readMarks_101 (c := 11) (S := []) (As := []) mlM_180 hM_next rfl (by decide) rfl kv0 ⟨by decide, by decide⟩ ⟨Nat.zero_le _, Nat.zero_le _⟩ rfl (Nat.le_of_ble_eq_true rfl) (aftV (b' := b) ⟨Nat.le_refl _, Nat.le_refl _⟩ (fun N h => x_loc [1] rfl h) h)

theorem vM_readMarks_104 {M : Mm} {b : Nat × Nat} {K : Int32 → Mm → Prop} {v2 : Int32}  
    (h : K v2 M) : X mM_readMarks 104 [(2, .int v2)] [] M b (QI K) := by
  refine x_wf (fun hw => ?_)
  refine x_iload_n (pc := 104) dM_readMarks_104 rfl (q := 0) rfl ?_
  exact x_retQI (pc := 105) dM_readMarks_105 rfl rfl h

theorem dM_letters_0 : decode (mB mM_letters) 0 = .ok (.iconst 0, 1) := op3 (by decide +kernel)
theorem dM_letters_1 : decode (mB mM_letters) 1 = .ok (.istore_n 3, 1) := op62 (by decide +kernel)
theorem dM_letters_2 : decode (mB mM_letters) 2 = .ok (.aload_n 0, 1) := op42 (by decide +kernel)
theorem dM_letters_3 : decode (mB mM_letters) 3 = .ok (.getfield 133, 3) := op180 0 133 (by decide +kernel)
theorem dM_letters_6 : decode (mB mM_letters) 6 = .ok (.istore 4, 2) := op54 4 (by decide +kernel)
theorem dM_letters_8 : decode (mB mM_letters) 8 = .ok (.iload 4, 2) := op21 4 (by decide +kernel)
theorem dM_letters_10 : decode (mB mM_letters) 10 = .ok (.aload_n 0, 1) := op42 (by decide +kernel)
theorem dM_letters_11 : decode (mB mM_letters) 11 = .ok (.getfield 139, 3) := op180 0 139 (by decide +kernel)
theorem dM_letters_14 : decode (mB mM_letters) 14 = .ok (.if_icmp .ge 53, 3) := op162 0 53 (by decide +kernel)
theorem dM_letters_17 : decode (mB mM_letters) 17 = .ok (.aload_n 0, 1) := op42 (by decide +kernel)
theorem dM_letters_18 : decode (mB mM_letters) 18 = .ok (.iload 4, 2) := op21 4 (by decide +kernel)
theorem dM_letters_20 : decode (mB mM_letters) 20 = .ok (.invokevirtual 142, 3) := op182 0 142 (by decide +kernel)
theorem dM_letters_23 : decode (mB mM_letters) 23 = .ok (.iload_n 1, 1) := op27 (by decide +kernel)
theorem dM_letters_24 : decode (mB mM_letters) 24 = .ok (.isub, 1) := op100 (by decide +kernel)
theorem dM_letters_25 : decode (mB mM_letters) 25 = .ok (.istore 5, 2) := op54 5 (by decide +kernel)
theorem dM_letters_27 : decode (mB mM_letters) 27 = .ok (.iload 5, 2) := op21 5 (by decide +kernel)
theorem dM_letters_29 : decode (mB mM_letters) 29 = .ok (.i2l, 1) := op133 (by decide +kernel)
theorem dM_letters_30 : decode (mB mM_letters) 30 = .ok (.lconst 0, 1) := op9 (by decide +kernel)
theorem dM_letters_31 : decode (mB mM_letters) 31 = .ok (.iload_n 2, 1) := op28 (by decide +kernel)
theorem dM_letters_32 : decode (mB mM_letters) 32 = .ok (.iconst 1, 1) := op4 (by decide +kernel)
theorem dM_letters_33 : decode (mB mM_letters) 33 = .ok (.isub, 1) := op100 (by decide +kernel)
theorem dM_letters_34 : decode (mB mM_letters) 34 = .ok (.i2l, 1) := op133 (by decide +kernel)
theorem dM_letters_35 : decode (mB mM_letters) 35 = .ok (.invokestatic 126, 3) := op184 0 126 (by decide +kernel)
theorem dM_letters_38 : decode (mB mM_letters) 38 = .ok (.ifCond .eq 13, 3) := op153 0 13 (by decide +kernel)
theorem dM_letters_41 : decode (mB mM_letters) 41 = .ok (.iload_n 3, 1) := op29 (by decide +kernel)
theorem dM_letters_42 : decode (mB mM_letters) 42 = .ok (.iload 5, 2) := op21 5 (by decide +kernel)
theorem dM_letters_44 : decode (mB mM_letters) 44 = .ok (.ishr, 1) := op122 (by decide +kernel)
theorem dM_letters_45 : decode (mB mM_letters) 45 = .ok (.iconst 1, 1) := op4 (by decide +kernel)
theorem dM_letters_46 : decode (mB mM_letters) 46 = .ok (.iand, 1) := op126 (by decide +kernel)
theorem dM_letters_47 : decode (mB mM_letters) 47 = .ok (.iconst 1, 1) := op4 (by decide +kernel)
theorem dM_letters_48 : decode (mB mM_letters) 48 = .ok (.if_icmp .ne 6, 3) := op160 0 6 (by decide +kernel)
theorem dM_letters_51 : decode (mB mM_letters) 51 = .ok (.bipush (-4), 2) := op16 252 (by decide +kernel)
theorem dM_letters_53 : decode (mB mM_letters) 53 = .ok (.ireturn, 1) := op172 (by decide +kernel)
theorem dM_letters_54 : decode (mB mM_letters) 54 = .ok (.iload_n 3, 1) := op29 (by decide +kernel)
theorem dM_letters_55 : decode (mB mM_letters) 55 = .ok (.iconst 1, 1) := op4 (by decide +kernel)
theorem dM_letters_56 : decode (mB mM_letters) 56 = .ok (.iload 5, 2) := op21 5 (by decide +kernel)
theorem dM_letters_58 : decode (mB mM_letters) 58 = .ok (.ishl, 1) := op120 (by decide +kernel)
theorem dM_letters_59 : decode (mB mM_letters) 59 = .ok (.ior, 1) := op128 (by decide +kernel)
theorem dM_letters_60 : decode (mB mM_letters) 60 = .ok (.istore_n 3, 1) := op62 (by decide +kernel)
theorem dM_letters_61 : decode (mB mM_letters) 61 = .ok (.iinc 4 1, 3) := op132 4 1 (by decide +kernel)
theorem dM_letters_64 : decode (mB mM_letters) 64 = .ok (.goto (-56), 3) := op167 255 200 (by decide +kernel)
theorem dM_letters_67 : decode (mB mM_letters) 67 = .ok (.iload_n 3, 1) := op29 (by decide +kernel)
theorem dM_letters_68 : decode (mB mM_letters) 68 = .ok (.ireturn, 1) := op172 (by decide +kernel)

theorem vM_letters_0 {M : Mm} {b : Nat × Nat} {K : Int32 → Mm → Prop} {v0 : Nat} {v1 : Int32} {v2 : Int32} (kv0 : v0 % 64 = 11) 
    (h : X mM_letters 8 [(0, .ref v0), (1, .int v1), (2, .int v2), (3, .int 0), (4, .int (gi M v0 13))] [] M b (QI K)) : X mM_letters 0 [(0, .ref v0), (1, .int v1), (2, .int v2)] [] M b (QI K) := by
  refine x_wf (fun hw => ?_)
  refine x_iconst (pc := 0) dM_letters_0 (v := 0) rfl ?_
  refine x_istore_n (pc := 1) dM_letters_1 rfl (by decide) (L' := [(3, .int 0), (0, .ref v0), (1, .int v1), (2, .int v2)]) rfl ?_
  refine x_aload_n (pc := 2) dM_letters_2 rfl (q := 1) rfl ?_
  refine x_getI (pc := 3) dM_letters_3 kv0 flM_133 rfl ?_
  refine x_istore (pc := 6) dM_letters_6 (by decide) (L' := [(4, .int (gi M v0 13)), (3, .int 0), (0, .ref v0), (1, .int v1), (2, .int v2)]) rfl ?_
  exact x_loc [2, 3, 4, 1, 0] rfl h

theorem vM_letters_8 {M : Mm} {b : Nat × Nat} {K : Int32 → Mm → Prop} {v0 : Nat} {v1 : Int32} {v2 : Int32} {v3 : Int32} {v4 : Int32} (kv0 : v0 % 64 = 11) 
    (h : ((gi M v0 12) ≤ v4 → (K v3 M)) ∧ (¬ (gi M v0 12) ≤ v4 → (CI mM_look [.ref v0, .int v4] M (fun rv N => X mM_letters 23 [(0, .ref v0), (1, .int v1), (2, .int v2), (3, .int v3), (4, .int v4)] [.int rv] N b (QI K))))) : X mM_letters 8 [(0, .ref v0), (1, .int v1), (2, .int v2), (3, .int v3), (4, .int v4)] [] M b (QI K) := by
  refine x_wf (fun hw => ?_)
  refine x_iload (pc := 8) dM_letters_8 (q := 4) rfl ?_
  refine x_aload_n (pc := 10) dM_letters_10 rfl (q := 0) rfl ?_
  refine x_getI (pc := 11) dM_letters_11 kv0 flM_139 rfl ?_
  obtain ⟨g1_0, g1_1⟩ := h
  refine x_icmp_ge (pc := 14) dM_letters_14 (t := 67) rfl (fun q1 => ?_) (fun q1 => ?_)
  · refine x_iload_n (pc := 67) dM_letters_67 rfl (q := 3) rfl ?_
    have h := g1_0 q1
    exact x_retQI (pc := 68) dM_letters_68 rfl rfl h
  · refine x_aload_n (pc := 17) dM_letters_17 rfl (q := 0) rfl ?_
    refine x_iload (pc := 18) dM_letters_18 (q := 4) rfl ?_
    have h := g1_1 q1
    exact x_invV (pc := 20) dM_letters_20 (c := 11) (S := []) (As := [.int v4]) mlM_142 hM_look rfl (by decide) rfl kv0 ⟨by decide, by decide⟩ ⟨Nat.zero_le _, Nat.zero_le _⟩ rfl (Nat.le_of_ble_eq_true rfl) (aftI (b' := b) ⟨Nat.le_refl _, Nat.le_refl _⟩ (fun rv N h => h) h)

theorem vM_letters_23 {M : Mm} {b : Nat × Nat} {K : Int32 → Mm → Prop} {v0 : Nat} {v1 : Int32} {v2 : Int32} {v3 : Int32} {v4 : Int32} {w0 : Int32}  
    (h : CI mM_in [.long ((w0 - v1).toInt64), .long 0, .long ((v2 - 1).toInt64)] M (fun rv N => X mM_letters 38 [(0, .ref v0), (1, .int v1), (2, .int v2), (3, .int v3), (4, .int v4), (5, .int (w0 - v1))] [.int rv] N b (QI K))) : X mM_letters 23 [(0, .ref v0), (1, .int v1), (2, .int v2), (3, .int v3), (4, .int v4)] [.int w0] M b (QI K) := by
  refine x_wf (fun hw => ?_)
  refine x_iload_n (pc := 23) dM_letters_23 rfl (q := 1) rfl ?_
  refine x_isub (pc := 24) dM_letters_24 ?_
  refine x_istore (pc := 25) dM_letters_25 (by decide) (L' := [(5, .int (w0 - v1)), (0, .ref v0), (1, .int v1), (2, .int v2), (3, .int v3), (4, .int v4)]) rfl ?_
  refine x_iload (pc := 27) dM_letters_27 (q := 0) rfl ?_
  refine x_i2l (pc := 29) dM_letters_29 ?_
  refine x_lconst (pc := 30) dM_letters_30 (v := 0) rfl ?_
  refine x_iload_n (pc := 31) dM_letters_31 rfl (q := 3) rfl ?_
  refine x_iconst (pc := 32) dM_letters_32 (v := 1) rfl ?_
  refine x_isub (pc := 33) dM_letters_33 ?_
  refine x_i2l (pc := 34) dM_letters_34 ?_
  exact x_invS (pc := 35) dM_letters_35 (S := []) (As := [.long ((w0 - v1).toInt64), .long 0, .long ((v2 - 1).toInt64)]) mlM_126 hM_in rfl ⟨by decide, by decide⟩ ⟨Nat.zero_le _, Nat.zero_le _⟩ rfl (Nat.le_of_ble_eq_true rfl) (aftI (b' := b) ⟨Nat.le_refl _, Nat.le_refl _⟩ (fun rv N h => x_loc [1, 2, 3, 4, 5, 0] rfl h) h)

theorem vM_letters_38 {M : Mm} {b : Nat × Nat} {K : Int32 → Mm → Prop} {v0 : Nat} {v1 : Int32} {v2 : Int32} {v3 : Int32} {v4 : Int32} {v5 : Int32} {w0 : Int32}  
    (h : (((w0 = 0) ∨ (¬ w0 = 0 ∧ ((v3 >>> (v5 &&& 31)) &&& 1) = 1)) → (K (-4) M)) ∧ ((¬ w0 = 0 ∧ ¬ ((v3 >>> (v5 &&& 31)) &&& 1) = 1) → (X mM_letters 8 [(0, .ref v0), (1, .int v1), (2, .int v2), (3, .int (v3 ||| ((1 : Int32) <<< (v5 &&& 31)))), (4, .int (v4 + 1))] [] M b (QI K)))) : X mM_letters 38 [(0, .ref v0), (1, .int v1), (2, .int v2), (3, .int v3), (4, .int v4), (5, .int v5)] [.int w0] M b (QI K) := by
  refine x_wf (fun hw => ?_)
  obtain ⟨g1_0, g1_1⟩ := h
  have g1_k0 : (w0 = 0) ∨ (¬ w0 = 0 ∧ ((v3 >>> (v5 &&& 31)) &&& 1) = 1) → X mM_letters 51 [(0, .ref v0), (1, .int v1), (2, .int v2), (3, .int v3), (4, .int v4), (5, .int v5)] [] M b (QI K) := fun q => by
    have h := g1_0 q
    refine x_bipush (pc := 51) dM_letters_51 (v := (-4)) rfl ?_
    exact x_retQI (pc := 53) dM_letters_53 rfl rfl h
  refine x_if_eq (pc := 38) dM_letters_38 (t := 51) rfl (fun q1 => ?_) (fun q1 => ?_)
  · exact g1_k0 (Or.inl q1)
  · refine x_iload_n (pc := 41) dM_letters_41 rfl (q := 3) rfl ?_
    refine x_iload (pc := 42) dM_letters_42 (q := 5) rfl ?_
    refine x_ishr (pc := 44) dM_letters_44 ?_
    refine x_iconst (pc := 45) dM_letters_45 (v := 1) rfl ?_
    refine x_iand (pc := 46) dM_letters_46 ?_
    refine x_iconst (pc := 47) dM_letters_47 (v := 1) rfl ?_
    refine x_icmp_ne (pc := 48) dM_letters_48 (t := 54) rfl (fun q2 => ?_) (fun q2 => ?_)
    · refine x_iload_n (pc := 54) dM_letters_54 rfl (q := 3) rfl ?_
      refine x_iconst (pc := 55) dM_letters_55 (v := 1) rfl ?_
      refine x_iload (pc := 56) dM_letters_56 (q := 5) rfl ?_
      refine x_ishl (pc := 58) dM_letters_58 ?_
      refine x_ior (pc := 59) dM_letters_59 ?_
      have h := g1_1 ⟨q1, q2⟩
      refine x_istore_n (pc := 60) dM_letters_60 rfl (by decide) (L' := [(3, .int (v3 ||| ((1 : Int32) <<< (v5 &&& 31)))), (0, .ref v0), (1, .int v1), (2, .int v2), (4, .int v4), (5, .int v5)]) rfl ?_
      refine x_iinc (pc := 61) dM_letters_61 (q := 4) rfl (v := v4 + 1) rfl (by decide) (L' := [(4, .int (v4 + 1)), (3, .int (v3 ||| ((1 : Int32) <<< (v5 &&& 31)))), (0, .ref v0), (1, .int v1), (2, .int v2), (5, .int v5)]) rfl ?_
      refine x_goto (pc := 64) dM_letters_64 (t := 8) rfl ?_
      exact x_loc [2, 3, 4, 1, 0] rfl h
    · exact g1_k0 (Or.inr ⟨q1, q2⟩)

theorem dM_readAnswer_0 : decode (mB mM_readAnswer) 0 = .ok (.aload_n 0, 1) := op42 (by decide +kernel)
theorem dM_readAnswer_1 : decode (mB mM_readAnswer) 1 = .ok (.getfield 130, 3) := op180 0 130 (by decide +kernel)
theorem dM_readAnswer_4 : decode (mB mM_readAnswer) 4 = .ok (.ifCond .ne 21, 3) := op154 0 21 (by decide +kernel)
theorem dM_readAnswer_7 : decode (mB mM_readAnswer) 7 = .ok (.aload_n 0, 1) := op42 (by decide +kernel)
theorem dM_readAnswer_8 : decode (mB mM_readAnswer) 8 = .ok (.aload_n 0, 1) := op42 (by decide +kernel)
theorem dM_readAnswer_9 : decode (mB mM_readAnswer) 9 = .ok (.getfield 158, 3) := op180 0 158 (by decide +kernel)
theorem dM_readAnswer_12 : decode (mB mM_readAnswer) 12 = .ok (.iconst 1, 1) := op4 (by decide +kernel)
theorem dM_readAnswer_13 : decode (mB mM_readAnswer) 13 = .ok (.if_icmp .ne 7, 3) := op160 0 7 (by decide +kernel)
theorem dM_readAnswer_16 : decode (mB mM_readAnswer) 16 = .ok (.iconst 1, 1) := op4 (by decide +kernel)
theorem dM_readAnswer_17 : decode (mB mM_readAnswer) 17 = .ok (.goto 4, 3) := op167 0 4 (by decide +kernel)
theorem dM_readAnswer_20 : decode (mB mM_readAnswer) 20 = .ok (.iconst 0, 1) := op3 (by decide +kernel)
theorem dM_readAnswer_21 : decode (mB mM_readAnswer) 21 = .ok (.iconst 2, 1) := op5 (by decide +kernel)
theorem dM_readAnswer_22 : decode (mB mM_readAnswer) 22 = .ok (.invokevirtual 172, 3) := op182 0 172 (by decide +kernel)
theorem dM_readAnswer_25 : decode (mB mM_readAnswer) 25 = .ok (.aload_n 0, 1) := op42 (by decide +kernel)
theorem dM_readAnswer_26 : decode (mB mM_readAnswer) 26 = .ok (.getfield 130, 3) := op180 0 130 (by decide +kernel)
theorem dM_readAnswer_29 : decode (mB mM_readAnswer) 29 = .ok (.ifCond .ne 10, 3) := op154 0 10 (by decide +kernel)
theorem dM_readAnswer_32 : decode (mB mM_readAnswer) 32 = .ok (.aload_n 0, 1) := op42 (by decide +kernel)
theorem dM_readAnswer_33 : decode (mB mM_readAnswer) 33 = .ok (.invokevirtual 189, 3) := op182 0 189 (by decide +kernel)
theorem dM_readAnswer_36 : decode (mB mM_readAnswer) 36 = .ok (.goto 5, 3) := op167 0 5 (by decide +kernel)
theorem dM_readAnswer_39 : decode (mB mM_readAnswer) 39 = .ok (.bipush (-4), 2) := op16 252 (by decide +kernel)
theorem dM_readAnswer_41 : decode (mB mM_readAnswer) 41 = .ok (.istore_n 1, 1) := op60 (by decide +kernel)
theorem dM_readAnswer_42 : decode (mB mM_readAnswer) 42 = .ok (.aload_n 0, 1) := op42 (by decide +kernel)
theorem dM_readAnswer_43 : decode (mB mM_readAnswer) 43 = .ok (.getfield 130, 3) := op180 0 130 (by decide +kernel)
theorem dM_readAnswer_46 : decode (mB mM_readAnswer) 46 = .ok (.ifCond .ne 25, 3) := op154 0 25 (by decide +kernel)
theorem dM_readAnswer_49 : decode (mB mM_readAnswer) 49 = .ok (.aload_n 0, 1) := op42 (by decide +kernel)
theorem dM_readAnswer_50 : decode (mB mM_readAnswer) 50 = .ok (.iload_n 1, 1) := op27 (by decide +kernel)
theorem dM_readAnswer_51 : decode (mB mM_readAnswer) 51 = .ok (.bipush 22, 2) := op16 22 (by decide +kernel)
theorem dM_readAnswer_53 : decode (mB mM_readAnswer) 53 = .ok (.if_icmp .eq 9, 3) := op159 0 9 (by decide +kernel)
theorem dM_readAnswer_56 : decode (mB mM_readAnswer) 56 = .ok (.iload_n 1, 1) := op27 (by decide +kernel)
theorem dM_readAnswer_57 : decode (mB mM_readAnswer) 57 = .ok (.bipush 23, 2) := op16 23 (by decide +kernel)
theorem dM_readAnswer_59 : decode (mB mM_readAnswer) 59 = .ok (.if_icmp .ne 7, 3) := op160 0 7 (by decide +kernel)
theorem dM_readAnswer_62 : decode (mB mM_readAnswer) 62 = .ok (.iconst 1, 1) := op4 (by decide +kernel)
theorem dM_readAnswer_63 : decode (mB mM_readAnswer) 63 = .ok (.goto 4, 3) := op167 0 4 (by decide +kernel)
theorem dM_readAnswer_66 : decode (mB mM_readAnswer) 66 = .ok (.iconst 0, 1) := op3 (by decide +kernel)
theorem dM_readAnswer_67 : decode (mB mM_readAnswer) 67 = .ok (.iconst 3, 1) := op6 (by decide +kernel)
theorem dM_readAnswer_68 : decode (mB mM_readAnswer) 68 = .ok (.invokevirtual 172, 3) := op182 0 172 (by decide +kernel)
theorem dM_readAnswer_71 : decode (mB mM_readAnswer) 71 = .ok (.aload_n 0, 1) := op42 (by decide +kernel)
theorem dM_readAnswer_72 : decode (mB mM_readAnswer) 72 = .ok (.invokevirtual 180, 3) := op182 0 180 (by decide +kernel)
theorem dM_readAnswer_75 : decode (mB mM_readAnswer) 75 = .ok (.iload_n 1, 1) := op27 (by decide +kernel)
theorem dM_readAnswer_76 : decode (mB mM_readAnswer) 76 = .ok (.bipush 22, 2) := op16 22 (by decide +kernel)
theorem dM_readAnswer_78 : decode (mB mM_readAnswer) 78 = .ok (.if_icmp .ne 7, 3) := op160 0 7 (by decide +kernel)
theorem dM_readAnswer_81 : decode (mB mM_readAnswer) 81 = .ok (.iconst 1, 1) := op4 (by decide +kernel)
theorem dM_readAnswer_82 : decode (mB mM_readAnswer) 82 = .ok (.goto 4, 3) := op167 0 4 (by decide +kernel)
theorem dM_readAnswer_85 : decode (mB mM_readAnswer) 85 = .ok (.iconst 0, 1) := op3 (by decide +kernel)
theorem dM_readAnswer_86 : decode (mB mM_readAnswer) 86 = .ok (.ireturn, 1) := op172 (by decide +kernel)

theorem vM_readAnswer_0 {M : Mm} {b : Nat × Nat} {K : Int32 → Mm → Prop} {v0 : Nat} (kv0 : v0 % 64 = 11) 
    (h : (¬ (gi M v0 16) = 0 → (X mM_readAnswer 25 [(0, .ref v0)] [] M b (QI K))) ∧ (((gi M v0 16) = 0 ∧ ¬ (gi M v0 14) = 1) → (X mM_readAnswer 21 [(0, .ref v0)] [.int 0, .ref v0] M b (QI K))) ∧ (((gi M v0 16) = 0 ∧ (gi M v0 14) = 1) → (X mM_readAnswer 21 [(0, .ref v0)] [.int 1, .ref v0] M b (QI K)))) : X mM_readAnswer 0 [(0, .ref v0)] [] M b (QI K) := by
  refine x_wf (fun hw => ?_)
  refine x_aload_n (pc := 0) dM_readAnswer_0 rfl (q := 0) rfl ?_
  refine x_getI (pc := 1) dM_readAnswer_1 kv0 flM_130 rfl ?_
  obtain ⟨g1_0, g1_1, g1_2⟩ := h
  refine x_if_ne (pc := 4) dM_readAnswer_4 (t := 25) rfl (fun q1 => ?_) (fun q1 => ?_)
  · have h := g1_0 q1
    exact h
  · refine x_aload_n (pc := 7) dM_readAnswer_7 rfl (q := 0) rfl ?_
    refine x_aload_n (pc := 8) dM_readAnswer_8 rfl (q := 0) rfl ?_
    refine x_getI (pc := 9) dM_readAnswer_9 kv0 flM_158 rfl ?_
    refine x_iconst (pc := 12) dM_readAnswer_12 (v := 1) rfl ?_
    refine x_icmp_ne (pc := 13) dM_readAnswer_13 (t := 20) rfl (fun q2 => ?_) (fun q2 => ?_)
    · refine x_iconst (pc := 20) dM_readAnswer_20 (v := 0) rfl ?_
      have h := g1_1 ⟨q1, q2⟩
      exact h
    · refine x_iconst (pc := 16) dM_readAnswer_16 (v := 1) rfl ?_
      refine x_goto (pc := 17) dM_readAnswer_17 (t := 21) rfl ?_
      have h := g1_2 ⟨q1, q2⟩
      exact h

theorem vM_readAnswer_21 {M : Mm} {b : Nat × Nat} {K : Int32 → Mm → Prop} {v0 : Nat} {w0 : Int32} {w1 : Nat} (kw1 : w1 % 64 = 11) 
    (h : CV mM_wants [.ref w1, .int w0, .int 2] M (fun N => X mM_readAnswer 25 [(0, .ref v0)] [] N b (QI K))) : X mM_readAnswer 21 [(0, .ref v0)] [.int w0, .ref w1] M b (QI K) := by
  refine x_wf (fun hw => ?_)
  refine x_iconst (pc := 21) dM_readAnswer_21 (v := 2) rfl ?_
  exact x_invV (pc := 22) dM_readAnswer_22 (c := 11) (S := []) (As := [.int w0, .int 2]) mlM_172 hM_wants rfl (by decide) rfl kw1 ⟨by decide, by decide⟩ ⟨Nat.zero_le _, Nat.zero_le _⟩ rfl (Nat.le_of_ble_eq_true rfl) (aftV (b' := b) ⟨Nat.le_refl _, Nat.le_refl _⟩ (fun N h => h) h)

theorem vM_readAnswer_25 {M : Mm} {b : Nat × Nat} {K : Int32 → Mm → Prop} {v0 : Nat} (kv0 : v0 % 64 = 11) 
    (h : (¬ (gi M v0 16) = 0 → (X mM_readAnswer 41 [(0, .ref v0)] [.int (-4)] M b (QI K))) ∧ ((gi M v0 16) = 0 → (CI mM_nameNow [.ref v0] M (fun rv N => X mM_readAnswer 36 [(0, .ref v0)] [.int rv] N b (QI K))))) : X mM_readAnswer 25 [(0, .ref v0)] [] M b (QI K) := by
  refine x_wf (fun hw => ?_)
  refine x_aload_n (pc := 25) dM_readAnswer_25 rfl (q := 0) rfl ?_
  refine x_getI (pc := 26) dM_readAnswer_26 kv0 flM_130 rfl ?_
  obtain ⟨g1_0, g1_1⟩ := h
  refine x_if_ne (pc := 29) dM_readAnswer_29 (t := 39) rfl (fun q1 => ?_) (fun q1 => ?_)
  · refine x_bipush (pc := 39) dM_readAnswer_39 (v := (-4)) rfl ?_
    have h := g1_0 q1
    exact h
  · refine x_aload_n (pc := 32) dM_readAnswer_32 rfl (q := 0) rfl ?_
    have h := g1_1 q1
    exact x_invV (pc := 33) dM_readAnswer_33 (c := 11) (S := []) (As := []) mlM_189 hM_nameNow rfl (by decide) rfl kv0 ⟨by decide, by decide⟩ ⟨Nat.zero_le _, Nat.zero_le _⟩ rfl (Nat.le_of_ble_eq_true rfl) (aftI (b' := b) ⟨Nat.le_refl _, Nat.le_refl _⟩ (fun rv N h => h) h)

theorem vM_readAnswer_36 {M : Mm} {b : Nat × Nat} {K : Int32 → Mm → Prop} {v0 : Nat} {w0 : Int32}  
    (h : X mM_readAnswer 41 [(0, .ref v0)] [.int w0] M b (QI K)) : X mM_readAnswer 36 [(0, .ref v0)] [.int w0] M b (QI K) := by
  refine x_wf (fun hw => ?_)
  refine x_goto (pc := 36) dM_readAnswer_36 (t := 41) rfl ?_
  exact h

theorem vM_readAnswer_41 {M : Mm} {b : Nat × Nat} {K : Int32 → Mm → Prop} {v0 : Nat} {w0 : Int32} (kv0 : v0 % 64 = 11) 
    (h : (¬ (gi M v0 16) = 0 → (X mM_readAnswer 71 [(0, .ref v0), (1, .int w0)] [] M b (QI K))) ∧ ((((gi M v0 16) = 0 ∧ w0 = 22) ∨ ((gi M v0 16) = 0 ∧ ¬ w0 = 22 ∧ w0 = 23)) → (X mM_readAnswer 67 [(0, .ref v0), (1, .int w0)] [.int 1, .ref v0] M b (QI K))) ∧ (((gi M v0 16) = 0 ∧ ¬ w0 = 22 ∧ ¬ w0 = 23) → (X mM_readAnswer 67 [(0, .ref v0), (1, .int w0)] [.int 0, .ref v0] M b (QI K)))) : X mM_readAnswer 41 [(0, .ref v0)] [.int w0] M b (QI K) := by
  refine x_wf (fun hw => ?_)
  refine x_istore_n (pc := 41) dM_readAnswer_41 rfl (by decide) (L' := [(1, .int w0), (0, .ref v0)]) rfl ?_
  refine x_aload_n (pc := 42) dM_readAnswer_42 rfl (q := 1) rfl ?_
  refine x_getI (pc := 43) dM_readAnswer_43 kv0 flM_130 rfl ?_
  obtain ⟨g1_0, g1_1, g1_2⟩ := h
  have g1_k1 : ((gi M v0 16) = 0 ∧ w0 = 22) ∨ ((gi M v0 16) = 0 ∧ ¬ w0 = 22 ∧ w0 = 23) → X mM_readAnswer 62 [(1, .int w0), (0, .ref v0)] [.ref v0] M b (QI K) := fun q => by
    have h := g1_1 q
    refine x_iconst (pc := 62) dM_readAnswer_62 (v := 1) rfl ?_
    refine x_goto (pc := 63) dM_readAnswer_63 (t := 67) rfl ?_
    exact x_loc [1, 0] rfl h
  refine x_if_ne (pc := 46) dM_readAnswer_46 (t := 71) rfl (fun q1 => ?_) (fun q1 => ?_)
  · have h := g1_0 q1
    exact x_loc [1, 0] rfl h
  · refine x_aload_n (pc := 49) dM_readAnswer_49 rfl (q := 1) rfl ?_
    refine x_iload_n (pc := 50) dM_readAnswer_50 rfl (q := 0) rfl ?_
    refine x_bipush (pc := 51) dM_readAnswer_51 (v := 22) rfl ?_
    refine x_icmp_eq (pc := 53) dM_readAnswer_53 (t := 62) rfl (fun q2 => ?_) (fun q2 => ?_)
    · exact g1_k1 (Or.inl ⟨q1, q2⟩)
    · refine x_iload_n (pc := 56) dM_readAnswer_56 rfl (q := 0) rfl ?_
      refine x_bipush (pc := 57) dM_readAnswer_57 (v := 23) rfl ?_
      refine x_icmp_ne (pc := 59) dM_readAnswer_59 (t := 66) rfl (fun q3 => ?_) (fun q3 => ?_)
      · refine x_iconst (pc := 66) dM_readAnswer_66 (v := 0) rfl ?_
        have h := g1_2 ⟨q1, q2, q3⟩
        exact x_loc [1, 0] rfl h
      · exact g1_k1 (Or.inr ⟨q1, q2, q3⟩)

theorem vM_readAnswer_67 {M : Mm} {b : Nat × Nat} {K : Int32 → Mm → Prop} {v0 : Nat} {v1 : Int32} {w0 : Int32} {w1 : Nat} (kw1 : w1 % 64 = 11) 
    (h : CV mM_wants [.ref w1, .int w0, .int 3] M (fun N => X mM_readAnswer 71 [(0, .ref v0), (1, .int v1)] [] N b (QI K))) : X mM_readAnswer 67 [(0, .ref v0), (1, .int v1)] [.int w0, .ref w1] M b (QI K) := by
  refine x_wf (fun hw => ?_)
  refine x_iconst (pc := 67) dM_readAnswer_67 (v := 3) rfl ?_
  exact x_invV (pc := 68) dM_readAnswer_68 (c := 11) (S := []) (As := [.int w0, .int 3]) mlM_172 hM_wants rfl (by decide) rfl kw1 ⟨by decide, by decide⟩ ⟨Nat.zero_le _, Nat.zero_le _⟩ rfl (Nat.le_of_ble_eq_true rfl) (aftV (b' := b) ⟨Nat.le_refl _, Nat.le_refl _⟩ (fun N h => h) h)

theorem vM_readAnswer_71 {M : Mm} {b : Nat × Nat} {K : Int32 → Mm → Prop} {v0 : Nat} {v1 : Int32} (kv0 : v0 % 64 = 11) 
    (h : CV mM_next [.ref v0] M (fun N => X mM_readAnswer 75 [(1, .int v1)] [] N b (QI K))) : X mM_readAnswer 71 [(0, .ref v0), (1, .int v1)] [] M b (QI K) := by
  refine x_wf (fun hw => ?_)
  refine x_aload_n (pc := 71) dM_readAnswer_71 rfl (q := 0) rfl ?_
  exact x_invV (pc := 72) dM_readAnswer_72 (c := 11) (S := []) (As := []) mlM_180 hM_next rfl (by decide) rfl kv0 ⟨by decide, by decide⟩ ⟨Nat.zero_le _, Nat.zero_le _⟩ rfl (Nat.le_of_ble_eq_true rfl) (aftV (b' := b) ⟨Nat.le_refl _, Nat.le_refl _⟩ (fun N h => x_loc [1] rfl h) h)

theorem vM_readAnswer_75 {M : Mm} {b : Nat × Nat} {K : Int32 → Mm → Prop} {v1 : Int32}  
    (h : K (if v1 = 22 then 1 else 0 : Int32) M) : X mM_readAnswer 75 [(1, .int v1)] [] M b (QI K) := by
  refine x_wf (fun hw => ?_)
  refine x_iload_n (pc := 75) dM_readAnswer_75 rfl (q := 0) rfl ?_
  refine x_bipush (pc := 76) dM_readAnswer_76 (v := 22) rfl ?_
  suffices hJ : X mM_readAnswer 86 [(1, .int v1)] [.int (if v1 = 22 then 1 else 0 : Int32)] M b (QI K) by
    refine x_icmp_ne (pc := 78) dM_readAnswer_78 (t := 85) rfl (fun q1 => ?_) (fun q1 => ?_)
    · refine x_iconst (pc := 85) dM_readAnswer_85 (v := 0) rfl ?_
      first | (rw [if_neg q1] at hJ; exact hJ) | (simp only [if_neg q1] at hJ ⊢; exact hJ)
    · refine x_iconst (pc := 81) dM_readAnswer_81 (v := 1) rfl ?_
      refine x_goto (pc := 82) dM_readAnswer_82 (t := 86) rfl ?_
      first | (rw [if_pos q1] at hJ; exact hJ) | (simp only [if_pos q1] at hJ ⊢; exact hJ)
  exact x_retQI (pc := 86) dM_readAnswer_86 rfl rfl h

theorem dM_endLine_0 : decode (mB mM_endLine) 0 = .ok (.aload_n 0, 1) := op42 (by decide +kernel)
theorem dM_endLine_1 : decode (mB mM_endLine) 1 = .ok (.getfield 130, 3) := op180 0 130 (by decide +kernel)
theorem dM_endLine_4 : decode (mB mM_endLine) 4 = .ok (.ifCond .ne 21, 3) := op154 0 21 (by decide +kernel)
theorem dM_endLine_7 : decode (mB mM_endLine) 7 = .ok (.aload_n 0, 1) := op42 (by decide +kernel)
theorem dM_endLine_8 : decode (mB mM_endLine) 8 = .ok (.aload_n 0, 1) := op42 (by decide +kernel)
theorem dM_endLine_9 : decode (mB mM_endLine) 9 = .ok (.getfield 158, 3) := op180 0 158 (by decide +kernel)
theorem dM_endLine_12 : decode (mB mM_endLine) 12 = .ok (.iconst 4, 1) := op7 (by decide +kernel)
theorem dM_endLine_13 : decode (mB mM_endLine) 13 = .ok (.if_icmp .ne 7, 3) := op160 0 7 (by decide +kernel)
theorem dM_endLine_16 : decode (mB mM_endLine) 16 = .ok (.iconst 1, 1) := op4 (by decide +kernel)
theorem dM_endLine_17 : decode (mB mM_endLine) 17 = .ok (.goto 4, 3) := op167 0 4 (by decide +kernel)
theorem dM_endLine_20 : decode (mB mM_endLine) 20 = .ok (.iconst 0, 1) := op3 (by decide +kernel)
theorem dM_endLine_21 : decode (mB mM_endLine) 21 = .ok (.iconst 2, 1) := op5 (by decide +kernel)
theorem dM_endLine_22 : decode (mB mM_endLine) 22 = .ok (.invokevirtual 172, 3) := op182 0 172 (by decide +kernel)
theorem dM_endLine_25 : decode (mB mM_endLine) 25 = .ok (.aload_n 0, 1) := op42 (by decide +kernel)
theorem dM_endLine_26 : decode (mB mM_endLine) 26 = .ok (.invokevirtual 180, 3) := op182 0 180 (by decide +kernel)
theorem dM_endLine_29 : decode (mB mM_endLine) 29 = .ok (.return_, 1) := op177 (by decide +kernel)

theorem vM_endLine_0 {M : Mm} {b : Nat × Nat} {K : Mm → Prop} {v0 : Nat} (kv0 : v0 % 64 = 11) 
    (h : (¬ (gi M v0 16) = 0 → (X mM_endLine 25 [(0, .ref v0)] [] M b (QV K))) ∧ (((gi M v0 16) = 0 ∧ ¬ (gi M v0 14) = 4) → (X mM_endLine 21 [(0, .ref v0)] [.int 0, .ref v0] M b (QV K))) ∧ (((gi M v0 16) = 0 ∧ (gi M v0 14) = 4) → (X mM_endLine 21 [(0, .ref v0)] [.int 1, .ref v0] M b (QV K)))) : X mM_endLine 0 [(0, .ref v0)] [] M b (QV K) := by
  refine x_wf (fun hw => ?_)
  refine x_aload_n (pc := 0) dM_endLine_0 rfl (q := 0) rfl ?_
  refine x_getI (pc := 1) dM_endLine_1 kv0 flM_130 rfl ?_
  obtain ⟨g1_0, g1_1, g1_2⟩ := h
  refine x_if_ne (pc := 4) dM_endLine_4 (t := 25) rfl (fun q1 => ?_) (fun q1 => ?_)
  · have h := g1_0 q1
    exact h
  · refine x_aload_n (pc := 7) dM_endLine_7 rfl (q := 0) rfl ?_
    refine x_aload_n (pc := 8) dM_endLine_8 rfl (q := 0) rfl ?_
    refine x_getI (pc := 9) dM_endLine_9 kv0 flM_158 rfl ?_
    refine x_iconst (pc := 12) dM_endLine_12 (v := 4) rfl ?_
    refine x_icmp_ne (pc := 13) dM_endLine_13 (t := 20) rfl (fun q2 => ?_) (fun q2 => ?_)
    · refine x_iconst (pc := 20) dM_endLine_20 (v := 0) rfl ?_
      have h := g1_1 ⟨q1, q2⟩
      exact h
    · refine x_iconst (pc := 16) dM_endLine_16 (v := 1) rfl ?_
      refine x_goto (pc := 17) dM_endLine_17 (t := 21) rfl ?_
      have h := g1_2 ⟨q1, q2⟩
      exact h

theorem vM_endLine_21 {M : Mm} {b : Nat × Nat} {K : Mm → Prop} {v0 : Nat} {w0 : Int32} {w1 : Nat} (kw1 : w1 % 64 = 11) 
    (h : CV mM_wants [.ref w1, .int w0, .int 2] M (fun N => X mM_endLine 25 [(0, .ref v0)] [] N b (QV K))) : X mM_endLine 21 [(0, .ref v0)] [.int w0, .ref w1] M b (QV K) := by
  refine x_wf (fun hw => ?_)
  refine x_iconst (pc := 21) dM_endLine_21 (v := 2) rfl ?_
  exact x_invV (pc := 22) dM_endLine_22 (c := 11) (S := []) (As := [.int w0, .int 2]) mlM_172 hM_wants rfl (by decide) rfl kw1 ⟨by decide, by decide⟩ ⟨Nat.zero_le _, Nat.zero_le _⟩ rfl (Nat.le_of_ble_eq_true rfl) (aftV (b' := b) ⟨Nat.le_refl _, Nat.le_refl _⟩ (fun N h => h) h)

theorem vM_endLine_25 {M : Mm} {b : Nat × Nat} {K : Mm → Prop} {v0 : Nat} (kv0 : v0 % 64 = 11) 
    (h : CV mM_next [.ref v0] M (fun N => X mM_endLine 29 [] [] N b (QV K))) : X mM_endLine 25 [(0, .ref v0)] [] M b (QV K) := by
  refine x_wf (fun hw => ?_)
  refine x_aload_n (pc := 25) dM_endLine_25 rfl (q := 0) rfl ?_
  exact x_invV (pc := 26) dM_endLine_26 (c := 11) (S := []) (As := []) mlM_180 hM_next rfl (by decide) rfl kv0 ⟨by decide, by decide⟩ ⟨Nat.zero_le _, Nat.zero_le _⟩ rfl (Nat.le_of_ble_eq_true rfl) (aftV (b' := b) ⟨Nat.le_refl _, Nat.le_refl _⟩ (fun N h => x_loc [] rfl h) h)

theorem vM_endLine_29 {M : Mm} {b : Nat × Nat} {K : Mm → Prop}   
    (h : K M) : X mM_endLine 29 [] [] M b (QV K) := by
  refine x_wf (fun hw => ?_)
  exact x_retQV (pc := 29) dM_endLine_29 rfl h

theorem dM_checks_0 : decode (mB mM_checks) 0 = .ok (.iconst 0, 1) := op3 (by decide +kernel)
theorem dM_checks_1 : decode (mB mM_checks) 1 = .ok (.istore_n 1, 1) := op60 (by decide +kernel)
theorem dM_checks_2 : decode (mB mM_checks) 2 = .ok (.iload_n 1, 1) := op27 (by decide +kernel)
theorem dM_checks_3 : decode (mB mM_checks) 3 = .ok (.aload_n 0, 1) := op42 (by decide +kernel)
theorem dM_checks_4 : decode (mB mM_checks) 4 = .ok (.getfield 106, 3) := op180 0 106 (by decide +kernel)
theorem dM_checks_7 : decode (mB mM_checks) 7 = .ok (.if_icmp .ge 77, 3) := op162 0 77 (by decide +kernel)
theorem dM_checks_10 : decode (mB mM_checks) 10 = .ok (.aload_n 0, 1) := op42 (by decide +kernel)
theorem dM_checks_11 : decode (mB mM_checks) 11 = .ok (.getfield 130, 3) := op180 0 130 (by decide +kernel)
theorem dM_checks_14 : decode (mB mM_checks) 14 = .ok (.ifCond .ne 70, 3) := op154 0 70 (by decide +kernel)
theorem dM_checks_17 : decode (mB mM_checks) 17 = .ok (.aload_n 0, 1) := op42 (by decide +kernel)
theorem dM_checks_18 : decode (mB mM_checks) 18 = .ok (.getfield 16, 3) := op180 0 16 (by decide +kernel)
theorem dM_checks_21 : decode (mB mM_checks) 21 = .ok (.bipush 10, 2) := op16 10 (by decide +kernel)
theorem dM_checks_23 : decode (mB mM_checks) 23 = .ok (.iload_n 1, 1) := op27 (by decide +kernel)
theorem dM_checks_24 : decode (mB mM_checks) 24 = .ok (.imul, 1) := op104 (by decide +kernel)
theorem dM_checks_25 : decode (mB mM_checks) 25 = .ok (.bipush 6, 2) := op16 6 (by decide +kernel)
theorem dM_checks_27 : decode (mB mM_checks) 27 = .ok (.iadd, 1) := op96 (by decide +kernel)
theorem dM_checks_28 : decode (mB mM_checks) 28 = .ok (.iaload, 1) := op46 (by decide +kernel)
theorem dM_checks_29 : decode (mB mM_checks) 29 = .ok (.istore_n 2, 1) := op61 (by decide +kernel)
theorem dM_checks_30 : decode (mB mM_checks) 30 = .ok (.iload_n 2, 1) := op28 (by decide +kernel)
theorem dM_checks_31 : decode (mB mM_checks) 31 = .ok (.bipush (-4), 2) := op16 252 (by decide +kernel)
theorem dM_checks_33 : decode (mB mM_checks) 33 = .ok (.if_icmp .eq 45, 3) := op159 0 45 (by decide +kernel)
theorem dM_checks_36 : decode (mB mM_checks) 36 = .ok (.iload_n 2, 1) := op28 (by decide +kernel)
theorem dM_checks_37 : decode (mB mM_checks) 37 = .ok (.aload_n 0, 1) := op42 (by decide +kernel)
theorem dM_checks_38 : decode (mB mM_checks) 38 = .ok (.getfield 106, 3) := op180 0 106 (by decide +kernel)
theorem dM_checks_41 : decode (mB mM_checks) 41 = .ok (.if_icmp .ge 21, 3) := op162 0 21 (by decide +kernel)
theorem dM_checks_44 : decode (mB mM_checks) 44 = .ok (.iload_n 2, 1) := op28 (by decide +kernel)
theorem dM_checks_45 : decode (mB mM_checks) 45 = .ok (.iload_n 1, 1) := op27 (by decide +kernel)
theorem dM_checks_46 : decode (mB mM_checks) 46 = .ok (.if_icmp .eq 16, 3) := op159 0 16 (by decide +kernel)
theorem dM_checks_49 : decode (mB mM_checks) 49 = .ok (.aload_n 0, 1) := op42 (by decide +kernel)
theorem dM_checks_50 : decode (mB mM_checks) 50 = .ok (.getfield 16, 3) := op180 0 16 (by decide +kernel)
theorem dM_checks_53 : decode (mB mM_checks) 53 = .ok (.bipush 10, 2) := op16 10 (by decide +kernel)
theorem dM_checks_55 : decode (mB mM_checks) 55 = .ok (.iload_n 2, 1) := op28 (by decide +kernel)
theorem dM_checks_56 : decode (mB mM_checks) 56 = .ok (.imul, 1) := op104 (by decide +kernel)
theorem dM_checks_57 : decode (mB mM_checks) 57 = .ok (.iaload, 1) := op46 (by decide +kernel)
theorem dM_checks_58 : decode (mB mM_checks) 58 = .ok (.iconst 5, 1) := op8 (by decide +kernel)
theorem dM_checks_59 : decode (mB mM_checks) 59 = .ok (.if_icmp .ne 19, 3) := op160 0 19 (by decide +kernel)
theorem dM_checks_62 : decode (mB mM_checks) 62 = .ok (.aload_n 0, 1) := op42 (by decide +kernel)
theorem dM_checks_63 : decode (mB mM_checks) 63 = .ok (.bipush 6, 2) := op16 6 (by decide +kernel)
theorem dM_checks_65 : decode (mB mM_checks) 65 = .ok (.putfield 130, 3) := op181 0 130 (by decide +kernel)
theorem dM_checks_68 : decode (mB mM_checks) 68 = .ok (.aload_n 0, 1) := op42 (by decide +kernel)
theorem dM_checks_69 : decode (mB mM_checks) 69 = .ok (.aload_n 0, 1) := op42 (by decide +kernel)
theorem dM_checks_70 : decode (mB mM_checks) 70 = .ok (.getfield 26, 3) := op180 0 26 (by decide +kernel)
theorem dM_checks_73 : decode (mB mM_checks) 73 = .ok (.iload_n 1, 1) := op27 (by decide +kernel)
theorem dM_checks_74 : decode (mB mM_checks) 74 = .ok (.iaload, 1) := op46 (by decide +kernel)
theorem dM_checks_75 : decode (mB mM_checks) 75 = .ok (.putfield 136, 3) := op181 0 136 (by decide +kernel)
theorem dM_checks_78 : decode (mB mM_checks) 78 = .ok (.iinc 1 1, 3) := op132 1 1 (by decide +kernel)
theorem dM_checks_81 : decode (mB mM_checks) 81 = .ok (.goto (-79), 3) := op167 255 177 (by decide +kernel)
theorem dM_checks_84 : decode (mB mM_checks) 84 = .ok (.return_, 1) := op177 (by decide +kernel)

theorem vM_checks_0 {M : Mm} {b : Nat × Nat} {K : Mm → Prop} {v0 : Nat}  
    (h : X mM_checks 2 [(0, .ref v0), (1, .int 0)] [] M b (QV K)) : X mM_checks 0 [(0, .ref v0)] [] M b (QV K) := by
  refine x_wf (fun hw => ?_)
  refine x_iconst (pc := 0) dM_checks_0 (v := 0) rfl ?_
  refine x_istore_n (pc := 1) dM_checks_1 rfl (by decide) (L' := [(1, .int 0), (0, .ref v0)]) rfl ?_
  exact x_loc [1, 0] rfl h

theorem vM_checks_2 {M : Mm} {b : Nat × Nat} {K : Mm → Prop} {v0 : Nat} {v1 : Int32} {r1 : Nat} {r2 : Nat} (kv0 : v0 % 64 = 11) (e1 : gr M v0 4 = some r1) (e2 : gr M v0 7 = some r2)
    (h : (¬ (gi M v0 3) ≤ v1 ∧ (gi M v0 16) = 0 → vp_in ((10 * v1) + 6) 250) ∧ ((((gi M v0 3) ≤ v1) ∨ (¬ (gi M v0 3) ≤ v1 ∧ ¬ (gi M v0 16) = 0)) → (K M)) ∧ ((¬ (gi M v0 3) ≤ v1 ∧ (gi M v0 16) = 0) → ((¬ (gi M r1 ((10 * v1) + 6).toNatClampNeg) = (-4) ∧ ¬ (gi M v0 3) ≤ (gi M r1 ((10 * v1) + 6).toNatClampNeg) ∧ ¬ (gi M r1 ((10 * v1) + 6).toNatClampNeg) = v1 → vp_in (10 * (gi M r1 ((10 * v1) + 6).toNatClampNeg)) 250) ∧ ((((gi M r1 ((10 * v1) + 6).toNatClampNeg) = (-4)) ∨ (¬ (gi M r1 ((10 * v1) + 6).toNatClampNeg) = (-4) ∧ ¬ (gi M v0 3) ≤ (gi M r1 ((10 * v1) + 6).toNatClampNeg) ∧ ¬ (gi M r1 ((10 * v1) + 6).toNatClampNeg) = v1 ∧ ¬ (gi M r1 (10 * (gi M r1 ((10 * v1) + 6).toNatClampNeg)).toNatClampNeg) = 5)) → (X mM_checks 2 [(0, .ref v0), (1, .int (v1 + 1))] [] M b (QV K))) ∧ (((¬ (gi M r1 ((10 * v1) + 6).toNatClampNeg) = (-4) ∧ (gi M v0 3) ≤ (gi M r1 ((10 * v1) + 6).toNatClampNeg)) ∨ (¬ (gi M r1 ((10 * v1) + 6).toNatClampNeg) = (-4) ∧ ¬ (gi M v0 3) ≤ (gi M r1 ((10 * v1) + 6).toNatClampNeg) ∧ (gi M r1 ((10 * v1) + 6).toNatClampNeg) = v1) ∨ (¬ (gi M r1 ((10 * v1) + 6).toNatClampNeg) = (-4) ∧ ¬ (gi M v0 3) ≤ (gi M r1 ((10 * v1) + 6).toNatClampNeg) ∧ ¬ (gi M r1 ((10 * v1) + 6).toNatClampNeg) = v1 ∧ (gi M r1 (10 * (gi M r1 ((10 * v1) + 6).toNatClampNeg)).toNatClampNeg) = 5)) → (vp_in v1 25 ∧ (X mM_checks 2 [(0, .ref v0), (1, .int (v1 + 1))] [] (si (si M v0 16 6) v0 17 (gi (si M v0 16 6) r2 (v1).toNatClampNeg)) b (QV K))))))) : X mM_checks 2 [(0, .ref v0), (1, .int v1)] [] M b (QV K) := by
  refine x_wf (fun hw => ?_)
  refine x_iload_n (pc := 2) dM_checks_2 rfl (q := 1) rfl ?_
  refine x_aload_n (pc := 3) dM_checks_3 rfl (q := 0) rfl ?_
  refine x_getI (pc := 4) dM_checks_4 kv0 flM_106 rfl ?_
  obtain ⟨s1, g1_0, g1_1⟩ := h
  have g1_k0 : ((gi M v0 3) ≤ v1) ∨ (¬ (gi M v0 3) ≤ v1 ∧ ¬ (gi M v0 16) = 0) → X mM_checks 84 [(0, .ref v0), (1, .int v1)] [] M b (QV K) := fun q => by
    have h := g1_0 q
    exact x_retQV (pc := 84) dM_checks_84 rfl h
  refine x_icmp_ge (pc := 7) dM_checks_7 (t := 84) rfl (fun q1 => ?_) (fun q1 => ?_)
  · exact g1_k0 (Or.inl q1)
  · refine x_aload_n (pc := 10) dM_checks_10 rfl (q := 0) rfl ?_
    refine x_getI (pc := 11) dM_checks_11 kv0 flM_130 rfl ?_
    refine x_if_ne (pc := 14) dM_checks_14 (t := 84) rfl (fun q2 => ?_) (fun q2 => ?_)
    · exact g1_k0 (Or.inr ⟨q1, q2⟩)
    · refine x_aload_n (pc := 17) dM_checks_17 rfl (q := 0) rfl ?_
      refine x_getR (pc := 18) dM_checks_18 kv0 flM_16 rfl e1 ?_
      refine x_bipush (pc := 21) dM_checks_21 (v := 10) rfl ?_
      refine x_iload_n (pc := 23) dM_checks_23 rfl (q := 1) rfl ?_
      refine x_imul (pc := 24) dM_checks_24 ?_
      refine x_bipush (pc := 25) dM_checks_25 (v := 6) rfl ?_
      refine x_iadd (pc := 27) dM_checks_27 ?_
      refine x_aldIj (pc := 28) (j := ((10 * v1) + 6).toNatClampNeg) (Or.inl ⟨rfl, rfl⟩) dM_checks_28 (wfk hw e1 kv0) ak_21 rfl (s1 ⟨q1, q2⟩) ?_
      have h := g1_1 ⟨q1, q2⟩
      refine x_istore_n (pc := 29) dM_checks_29 rfl (by decide) (L' := [(2, .int (gi M r1 ((10 * v1) + 6).toNatClampNeg)), (0, .ref v0), (1, .int v1)]) rfl ?_
      refine x_iload_n (pc := 30) dM_checks_30 rfl (q := 0) rfl ?_
      refine x_bipush (pc := 31) dM_checks_31 (v := (-4)) rfl ?_
      obtain ⟨s2, g2_0, g2_1⟩ := h
      have g2_k0 : ((gi M r1 ((10 * v1) + 6).toNatClampNeg) = (-4)) ∨ (¬ (gi M r1 ((10 * v1) + 6).toNatClampNeg) = (-4) ∧ ¬ (gi M v0 3) ≤ (gi M r1 ((10 * v1) + 6).toNatClampNeg) ∧ ¬ (gi M r1 ((10 * v1) + 6).toNatClampNeg) = v1 ∧ ¬ (gi M r1 (10 * (gi M r1 ((10 * v1) + 6).toNatClampNeg)).toNatClampNeg) = 5) → X mM_checks 78 [(2, .int (gi M r1 ((10 * v1) + 6).toNatClampNeg)), (0, .ref v0), (1, .int v1)] [] M b (QV K) := fun q => by
        have h := g2_0 q
        refine x_iinc (pc := 78) dM_checks_78 (q := 2) rfl (v := v1 + 1) rfl (by decide) (L' := [(1, .int (v1 + 1)), (2, .int (gi M r1 ((10 * v1) + 6).toNatClampNeg)), (0, .ref v0)]) rfl ?_
        refine x_goto (pc := 81) dM_checks_81 (t := 2) rfl ?_
        exact x_loc [2, 0] rfl h
      have g2_k1 : (¬ (gi M r1 ((10 * v1) + 6).toNatClampNeg) = (-4) ∧ (gi M v0 3) ≤ (gi M r1 ((10 * v1) + 6).toNatClampNeg)) ∨ (¬ (gi M r1 ((10 * v1) + 6).toNatClampNeg) = (-4) ∧ ¬ (gi M v0 3) ≤ (gi M r1 ((10 * v1) + 6).toNatClampNeg) ∧ (gi M r1 ((10 * v1) + 6).toNatClampNeg) = v1) ∨ (¬ (gi M r1 ((10 * v1) + 6).toNatClampNeg) = (-4) ∧ ¬ (gi M v0 3) ≤ (gi M r1 ((10 * v1) + 6).toNatClampNeg) ∧ ¬ (gi M r1 ((10 * v1) + 6).toNatClampNeg) = v1 ∧ (gi M r1 (10 * (gi M r1 ((10 * v1) + 6).toNatClampNeg)).toNatClampNeg) = 5) → X mM_checks 62 [(2, .int (gi M r1 ((10 * v1) + 6).toNatClampNeg)), (0, .ref v0), (1, .int v1)] [] M b (QV K) := fun q => by
        have h := g2_1 q
        refine x_aload_n (pc := 62) dM_checks_62 rfl (q := 1) rfl ?_
        refine x_bipush (pc := 63) dM_checks_63 (v := 6) rfl ?_
        refine x_putI (pc := 65) dM_checks_65 kv0 flM_130 rfl rfl ?_
        refine x_aload_n (pc := 68) dM_checks_68 rfl (q := 1) rfl ?_
        refine x_aload_n (pc := 69) dM_checks_69 rfl (q := 1) rfl ?_
        refine x_getR (pc := 70) dM_checks_70 kv0 flM_26 rfl e2 ?_
        refine x_iload_n (pc := 73) dM_checks_73 rfl (q := 2) rfl ?_
        obtain ⟨s503, h⟩ := h
        refine x_aldIj (pc := 74) (j := (v1).toNatClampNeg) (Or.inl ⟨rfl, rfl⟩) dM_checks_74 (wfk hw e2 kv0) ak_23 rfl s503 ?_
        refine x_putI (pc := 75) dM_checks_75 kv0 flM_136 rfl rfl ?_
        refine x_iinc (pc := 78) dM_checks_78 (q := 2) rfl (v := v1 + 1) rfl (by decide) (L' := [(1, .int (v1 + 1)), (2, .int (gi M r1 ((10 * v1) + 6).toNatClampNeg)), (0, .ref v0)]) rfl ?_
        refine x_goto (pc := 81) dM_checks_81 (t := 2) rfl ?_
        exact x_loc [2, 0] rfl h
      refine x_icmp_eq (pc := 33) dM_checks_33 (t := 78) rfl (fun q3 => ?_) (fun q3 => ?_)
      · exact g2_k0 (Or.inl q3)
      · refine x_iload_n (pc := 36) dM_checks_36 rfl (q := 0) rfl ?_
        refine x_aload_n (pc := 37) dM_checks_37 rfl (q := 1) rfl ?_
        refine x_getI (pc := 38) dM_checks_38 kv0 flM_106 rfl ?_
        refine x_icmp_ge (pc := 41) dM_checks_41 (t := 62) rfl (fun q4 => ?_) (fun q4 => ?_)
        · exact g2_k1 (Or.inl ⟨q3, q4⟩)
        · refine x_iload_n (pc := 44) dM_checks_44 rfl (q := 0) rfl ?_
          refine x_iload_n (pc := 45) dM_checks_45 rfl (q := 2) rfl ?_
          refine x_icmp_eq (pc := 46) dM_checks_46 (t := 62) rfl (fun q5 => ?_) (fun q5 => ?_)
          · exact g2_k1 (Or.inr (Or.inl ⟨q3, q4, q5⟩))
          · refine x_aload_n (pc := 49) dM_checks_49 rfl (q := 1) rfl ?_
            refine x_getR (pc := 50) dM_checks_50 kv0 flM_16 rfl e1 ?_
            refine x_bipush (pc := 53) dM_checks_53 (v := 10) rfl ?_
            refine x_iload_n (pc := 55) dM_checks_55 rfl (q := 0) rfl ?_
            refine x_imul (pc := 56) dM_checks_56 ?_
            refine x_aldIj (pc := 57) (j := (10 * (gi M r1 ((10 * v1) + 6).toNatClampNeg)).toNatClampNeg) (Or.inl ⟨rfl, rfl⟩) dM_checks_57 (wfk hw e1 kv0) ak_21 rfl (s2 ⟨q3, q4, q5⟩) ?_
            refine x_iconst (pc := 58) dM_checks_58 (v := 5) rfl ?_
            refine x_icmp_ne (pc := 59) dM_checks_59 (t := 78) rfl (fun q6 => ?_) (fun q6 => ?_)
            · exact g2_k0 (Or.inr ⟨q3, q4, q5, q6⟩)
            · exact g2_k1 (Or.inr (Or.inr ⟨q3, q4, q5, q6⟩))

