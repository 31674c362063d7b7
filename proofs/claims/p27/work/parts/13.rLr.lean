theorem dLr_init_0 : decode (mB mLr_init) 0 = .ok (.aload_n 0, 1) := op42 (by decide +kernel)
theorem dLr_init_1 : decode (mB mLr_init) 1 = .ok (.invokespecial 3, 3) := op183 0 3 (by decide +kernel)
theorem dLr_init_4 : decode (mB mLr_init) 4 = .ok (.aload_n 0, 1) := op42 (by decide +kernel)
theorem dLr_init_5 : decode (mB mLr_init) 5 = .ok (.aload_n 1, 1) := op43 (by decide +kernel)
theorem dLr_init_6 : decode (mB mLr_init) 6 = .ok (.putfield 9, 3) := op181 0 9 (by decide +kernel)
theorem dLr_init_9 : decode (mB mLr_init) 9 = .ok (.return_, 1) := op177 (by decide +kernel)

theorem vLr_init_0 {M : Mm} {b : Nat × Nat} {K : Mm → Prop} {v0 : Nat} {v1 : Nat}  
    (h : X mLr_init 4 [(0, .ref v0), (1, .ref v1)] [] M b (QV K)) : X mLr_init 0 [(0, .ref v0), (1, .ref v1)] [] M b (QV K) := by
  refine x_wf (fun hw => ?_)
  refine x_aload_n (pc := 0) dLr_init_0 rfl (q := 0) rfl ?_
  refine x_obj (pc := 1) dLr_init_1 mlLr_3 h_obj.1 h_obj.2 (by decide) (Nat.le_of_ble_eq_true rfl) ?_
  exact h

theorem vLr_init_4 {M : Mm} {b : Nat × Nat} {K : Mm → Prop} {v0 : Nat} {v1 : Nat} (kv0 : v0 % 64 = 2) (kv1 : v1 % 64 = 7) 
    (h : X mLr_init 9 [] [] (sr M v0 0 (some v1)) b (QV K)) : X mLr_init 4 [(0, .ref v0), (1, .ref v1)] [] M b (QV K) := by
  refine x_wf (fun hw => ?_)
  refine x_aload_n (pc := 4) dLr_init_4 rfl (q := 0) rfl ?_
  refine x_aload_n (pc := 5) dLr_init_5 rfl (q := 1) rfl ?_
  refine x_putR (pc := 6) dLr_init_6 kv0 flLr_9 (Or.inr ⟨rfl, rfl, rfl⟩) (Or.inl ⟨_, rfl⟩) (by first | exact kv1 | (rw [kv1]; rfl)) (by decide) ?_
  exact x_loc [] rfl h

theorem vLr_init_9 {M : Mm} {b : Nat × Nat} {K : Mm → Prop}   
    (h : K M) : X mLr_init 9 [] [] M b (QV K) := by
  refine x_wf (fun hw => ?_)
  exact x_retQV (pc := 9) dLr_init_9 rfl h

theorem dRr_init_0 : decode (mB mRr_init) 0 = .ok (.aload_n 0, 1) := op42 (by decide +kernel)
theorem dRr_init_1 : decode (mB mRr_init) 1 = .ok (.invokespecial 3, 3) := op183 0 3 (by decide +kernel)
theorem dRr_init_4 : decode (mB mRr_init) 4 = .ok (.aload_n 0, 1) := op42 (by decide +kernel)
theorem dRr_init_5 : decode (mB mRr_init) 5 = .ok (.aload_n 1, 1) := op43 (by decide +kernel)
theorem dRr_init_6 : decode (mB mRr_init) 6 = .ok (.putfield 9, 3) := op181 0 9 (by decide +kernel)
theorem dRr_init_9 : decode (mB mRr_init) 9 = .ok (.return_, 1) := op177 (by decide +kernel)

theorem vRr_init_0 {M : Mm} {b : Nat × Nat} {K : Mm → Prop} {v0 : Nat} {v1 : Nat}  
    (h : X mRr_init 4 [(0, .ref v0), (1, .ref v1)] [] M b (QV K)) : X mRr_init 0 [(0, .ref v0), (1, .ref v1)] [] M b (QV K) := by
  refine x_wf (fun hw => ?_)
  refine x_aload_n (pc := 0) dRr_init_0 rfl (q := 0) rfl ?_
  refine x_obj (pc := 1) dRr_init_1 mlRr_3 h_obj.1 h_obj.2 (by decide) (Nat.le_of_ble_eq_true rfl) ?_
  exact h

theorem vRr_init_4 {M : Mm} {b : Nat × Nat} {K : Mm → Prop} {v0 : Nat} {v1 : Nat} (kv0 : v0 % 64 = 4) (kv1 : v1 % 64 = 7) 
    (h : X mRr_init 9 [] [] (sr M v0 0 (some v1)) b (QV K)) : X mRr_init 4 [(0, .ref v0), (1, .ref v1)] [] M b (QV K) := by
  refine x_wf (fun hw => ?_)
  refine x_aload_n (pc := 4) dRr_init_4 rfl (q := 0) rfl ?_
  refine x_aload_n (pc := 5) dRr_init_5 rfl (q := 1) rfl ?_
  refine x_putR (pc := 6) dRr_init_6 kv0 flRr_9 (Or.inr ⟨rfl, rfl, rfl⟩) (Or.inl ⟨_, rfl⟩) (by first | exact kv1 | (rw [kv1]; rfl)) (by decide) ?_
  exact x_loc [] rfl h

theorem vRr_init_9 {M : Mm} {b : Nat × Nat} {K : Mm → Prop}   
    (h : K M) : X mRr_init 9 [] [] M b (QV K) := by
  refine x_wf (fun hw => ?_)
  exact x_retQV (pc := 9) dRr_init_9 rfl h

theorem dLr_readInto_0 : decode (mB mLr_readInto) 0 = .ok (.aload_n 1, 1) := op43 (by decide +kernel)
theorem dLr_readInto_1 : decode (mB mLr_readInto) 1 = .ok (.invokevirtual 15, 3) := op182 0 15 (by decide +kernel)
theorem dLr_readInto_4 : decode (mB mLr_readInto) 4 = .ok (.aload_n 0, 1) := op42 (by decide +kernel)
theorem dLr_readInto_5 : decode (mB mLr_readInto) 5 = .ok (.getfield 9, 3) := op180 0 9 (by decide +kernel)
theorem dLr_readInto_8 : decode (mB mLr_readInto) 8 = .ok (.invokevirtual 20, 3) := op182 0 20 (by decide +kernel)
theorem dLr_readInto_11 : decode (mB mLr_readInto) 11 = .ok (.aload_n 0, 1) := op42 (by decide +kernel)
theorem dLr_readInto_12 : decode (mB mLr_readInto) 12 = .ok (.iconst 0, 1) := op3 (by decide +kernel)
theorem dLr_readInto_13 : decode (mB mLr_readInto) 13 = .ok (.putfield 25, 3) := op181 0 25 (by decide +kernel)
theorem dLr_readInto_16 : decode (mB mLr_readInto) 16 = .ok (.iconst 0, 1) := op3 (by decide +kernel)
theorem dLr_readInto_17 : decode (mB mLr_readInto) 17 = .ok (.istore_n 2, 1) := op61 (by decide +kernel)
theorem dLr_readInto_18 : decode (mB mLr_readInto) 18 = .ok (.iconst 0, 1) := op3 (by decide +kernel)
theorem dLr_readInto_19 : decode (mB mLr_readInto) 19 = .ok (.istore_n 3, 1) := op62 (by decide +kernel)
theorem dLr_readInto_20 : decode (mB mLr_readInto) 20 = .ok (.aload_n 0, 1) := op42 (by decide +kernel)
theorem dLr_readInto_21 : decode (mB mLr_readInto) 21 = .ok (.getfield 9, 3) := op180 0 9 (by decide +kernel)
theorem dLr_readInto_24 : decode (mB mLr_readInto) 24 = .ok (.invokevirtual 29, 3) := op182 0 29 (by decide +kernel)
theorem dLr_readInto_27 : decode (mB mLr_readInto) 27 = .ok (.iload_n 3, 1) := op29 (by decide +kernel)
theorem dLr_readInto_28 : decode (mB mLr_readInto) 28 = .ok (.sipush 400, 3) := op17 1 144 (by decide +kernel)
theorem dLr_readInto_31 : decode (mB mLr_readInto) 31 = .ok (.if_icmp .ge 129, 3) := op162 0 129 (by decide +kernel)
theorem dLr_readInto_34 : decode (mB mLr_readInto) 34 = .ok (.aload_n 0, 1) := op42 (by decide +kernel)
theorem dLr_readInto_35 : decode (mB mLr_readInto) 35 = .ok (.getfield 9, 3) := op180 0 9 (by decide +kernel)
theorem dLr_readInto_38 : decode (mB mLr_readInto) 38 = .ok (.getfield 32, 3) := op180 0 32 (by decide +kernel)
theorem dLr_readInto_41 : decode (mB mLr_readInto) 41 = .ok (.ifCond .ne 119, 3) := op154 0 119 (by decide +kernel)
theorem dLr_readInto_44 : decode (mB mLr_readInto) 44 = .ok (.aload_n 0, 1) := op42 (by decide +kernel)
theorem dLr_readInto_45 : decode (mB mLr_readInto) 45 = .ok (.getfield 9, 3) := op180 0 9 (by decide +kernel)
theorem dLr_readInto_48 : decode (mB mLr_readInto) 48 = .ok (.getfield 35, 3) := op180 0 35 (by decide +kernel)
theorem dLr_readInto_51 : decode (mB mLr_readInto) 51 = .ok (.iconst 1, 1) := op4 (by decide +kernel)
theorem dLr_readInto_52 : decode (mB mLr_readInto) 52 = .ok (.if_icmp .eq 108, 3) := op159 0 108 (by decide +kernel)
theorem dLr_readInto_55 : decode (mB mLr_readInto) 55 = .ok (.aload_n 0, 1) := op42 (by decide +kernel)
theorem dLr_readInto_56 : decode (mB mLr_readInto) 56 = .ok (.getfield 9, 3) := op180 0 9 (by decide +kernel)
theorem dLr_readInto_59 : decode (mB mLr_readInto) 59 = .ok (.getfield 35, 3) := op180 0 35 (by decide +kernel)
theorem dLr_readInto_62 : decode (mB mLr_readInto) 62 = .ok (.iconst 2, 1) := op5 (by decide +kernel)
theorem dLr_readInto_63 : decode (mB mLr_readInto) 63 = .ok (.if_icmp .ne 15, 3) := op160 0 15 (by decide +kernel)
theorem dLr_readInto_66 : decode (mB mLr_readInto) 66 = .ok (.aload_n 0, 1) := op42 (by decide +kernel)
theorem dLr_readInto_67 : decode (mB mLr_readInto) 67 = .ok (.getfield 9, 3) := op180 0 9 (by decide +kernel)
theorem dLr_readInto_70 : decode (mB mLr_readInto) 70 = .ok (.ldc 38, 2) := op18 38 (by decide +kernel)
theorem dLr_readInto_72 : decode (mB mLr_readInto) 72 = .ok (.invokevirtual 40, 3) := op182 0 40 (by decide +kernel)
theorem dLr_readInto_75 : decode (mB mLr_readInto) 75 = .ok (.goto 4, 3) := op167 0 4 (by decide +kernel)
theorem dLr_readInto_78 : decode (mB mLr_readInto) 78 = .ok (.iconst (-1), 1) := op2 (by decide +kernel)
theorem dLr_readInto_79 : decode (mB mLr_readInto) 79 = .ok (.istore 4, 2) := op54 4 (by decide +kernel)
theorem dLr_readInto_81 : decode (mB mLr_readInto) 81 = .ok (.iload 4, 2) := op21 4 (by decide +kernel)
theorem dLr_readInto_83 : decode (mB mLr_readInto) 83 = .ok (.ifCond .ge 15, 3) := op156 0 15 (by decide +kernel)
theorem dLr_readInto_86 : decode (mB mLr_readInto) 86 = .ok (.aload_n 0, 1) := op42 (by decide +kernel)
theorem dLr_readInto_87 : decode (mB mLr_readInto) 87 = .ok (.getfield 9, 3) := op180 0 9 (by decide +kernel)
theorem dLr_readInto_90 : decode (mB mLr_readInto) 90 = .ok (.iconst 2, 1) := op5 (by decide +kernel)
theorem dLr_readInto_91 : decode (mB mLr_readInto) 91 = .ok (.invokevirtual 44, 3) := op182 0 44 (by decide +kernel)
theorem dLr_readInto_94 : decode (mB mLr_readInto) 94 = .ok (.pop, 1) := op87 (by decide +kernel)
theorem dLr_readInto_95 : decode (mB mLr_readInto) 95 = .ok (.goto 52, 3) := op167 0 52 (by decide +kernel)
theorem dLr_readInto_98 : decode (mB mLr_readInto) 98 = .ok (.iload 4, 2) := op21 4 (by decide +kernel)
theorem dLr_readInto_100 : decode (mB mLr_readInto) 100 = .ok (.bipush 6, 2) := op16 6 (by decide +kernel)
theorem dLr_readInto_102 : decode (mB mLr_readInto) 102 = .ok (.if_icmp .ge 13, 3) := op162 0 13 (by decide +kernel)
theorem dLr_readInto_105 : decode (mB mLr_readInto) 105 = .ok (.aload_n 0, 1) := op42 (by decide +kernel)
theorem dLr_readInto_106 : decode (mB mLr_readInto) 106 = .ok (.aload_n 1, 1) := op43 (by decide +kernel)
theorem dLr_readInto_107 : decode (mB mLr_readInto) 107 = .ok (.iload 4, 2) := op21 4 (by decide +kernel)
theorem dLr_readInto_109 : decode (mB mLr_readInto) 109 = .ok (.invokevirtual 48, 3) := op182 0 48 (by decide +kernel)
theorem dLr_readInto_112 : decode (mB mLr_readInto) 112 = .ok (.goto 35, 3) := op167 0 35 (by decide +kernel)
theorem dLr_readInto_115 : decode (mB mLr_readInto) 115 = .ok (.iload 4, 2) := op21 4 (by decide +kernel)
theorem dLr_readInto_117 : decode (mB mLr_readInto) 117 = .ok (.bipush 6, 2) := op16 6 (by decide +kernel)
theorem dLr_readInto_119 : decode (mB mLr_readInto) 119 = .ok (.if_icmp .ne 19, 3) := op160 0 19 (by decide +kernel)
theorem dLr_readInto_122 : decode (mB mLr_readInto) 122 = .ok (.aload_n 0, 1) := op42 (by decide +kernel)
theorem dLr_readInto_123 : decode (mB mLr_readInto) 123 = .ok (.aload_n 0, 1) := op42 (by decide +kernel)
theorem dLr_readInto_124 : decode (mB mLr_readInto) 124 = .ok (.getfield 9, 3) := op180 0 9 (by decide +kernel)
theorem dLr_readInto_127 : decode (mB mLr_readInto) 127 = .ok (.bipush 7, 2) := op16 7 (by decide +kernel)
theorem dLr_readInto_129 : decode (mB mLr_readInto) 129 = .ok (.invokevirtual 52, 3) := op182 0 52 (by decide +kernel)
theorem dLr_readInto_132 : decode (mB mLr_readInto) 132 = .ok (.putfield 25, 3) := op181 0 25 (by decide +kernel)
theorem dLr_readInto_135 : decode (mB mLr_readInto) 135 = .ok (.goto 12, 3) := op167 0 12 (by decide +kernel)
theorem dLr_readInto_138 : decode (mB mLr_readInto) 138 = .ok (.iload_n 2, 1) := op28 (by decide +kernel)
theorem dLr_readInto_139 : decode (mB mLr_readInto) 139 = .ok (.aload_n 0, 1) := op42 (by decide +kernel)
theorem dLr_readInto_140 : decode (mB mLr_readInto) 140 = .ok (.aload_n 1, 1) := op43 (by decide +kernel)
theorem dLr_readInto_141 : decode (mB mLr_readInto) 141 = .ok (.iload_n 2, 1) := op28 (by decide +kernel)
theorem dLr_readInto_142 : decode (mB mLr_readInto) 142 = .ok (.invokevirtual 55, 3) := op182 0 55 (by decide +kernel)
theorem dLr_readInto_145 : decode (mB mLr_readInto) 145 = .ok (.ior, 1) := op128 (by decide +kernel)
theorem dLr_readInto_146 : decode (mB mLr_readInto) 146 = .ok (.istore_n 2, 1) := op61 (by decide +kernel)
theorem dLr_readInto_147 : decode (mB mLr_readInto) 147 = .ok (.aload_n 0, 1) := op42 (by decide +kernel)
theorem dLr_readInto_148 : decode (mB mLr_readInto) 148 = .ok (.getfield 9, 3) := op180 0 9 (by decide +kernel)
theorem dLr_readInto_151 : decode (mB mLr_readInto) 151 = .ok (.invokevirtual 59, 3) := op182 0 59 (by decide +kernel)
theorem dLr_readInto_154 : decode (mB mLr_readInto) 154 = .ok (.iinc 3 1, 3) := op132 3 1 (by decide +kernel)
theorem dLr_readInto_157 : decode (mB mLr_readInto) 157 = .ok (.goto (-130), 3) := op167 255 126 (by decide +kernel)
theorem dLr_readInto_160 : decode (mB mLr_readInto) 160 = .ok (.aload_n 0, 1) := op42 (by decide +kernel)
theorem dLr_readInto_161 : decode (mB mLr_readInto) 161 = .ok (.aload_n 1, 1) := op43 (by decide +kernel)
theorem dLr_readInto_162 : decode (mB mLr_readInto) 162 = .ok (.invokevirtual 62, 3) := op182 0 62 (by decide +kernel)
theorem dLr_readInto_165 : decode (mB mLr_readInto) 165 = .ok (.aload_n 0, 1) := op42 (by decide +kernel)
theorem dLr_readInto_166 : decode (mB mLr_readInto) 166 = .ok (.getfield 9, 3) := op180 0 9 (by decide +kernel)
theorem dLr_readInto_169 : decode (mB mLr_readInto) 169 = .ok (.getfield 32, 3) := op180 0 32 (by decide +kernel)
theorem dLr_readInto_172 : decode (mB mLr_readInto) 172 = .ok (.ifCond .ne 7, 3) := op154 0 7 (by decide +kernel)
theorem dLr_readInto_175 : decode (mB mLr_readInto) 175 = .ok (.iload_n 3, 1) := op29 (by decide +kernel)
theorem dLr_readInto_176 : decode (mB mLr_readInto) 176 = .ok (.goto 4, 3) := op167 0 4 (by decide +kernel)
theorem dLr_readInto_179 : decode (mB mLr_readInto) 179 = .ok (.iconst (-1), 1) := op2 (by decide +kernel)
theorem dLr_readInto_180 : decode (mB mLr_readInto) 180 = .ok (.ireturn, 1) := op172 (by decide +kernel)

theorem vLr_readInto_0 {M : Mm} {b : Nat × Nat} {K : Int32 → Mm → Prop} {v0 : Nat} {v1 : Nat} (kv1 : v1 % 64 = 1) 
    (h : CV mLi_clear [.ref v1] M (fun N => X mLr_readInto 4 [(0, .ref v0), (1, .ref v1)] [] N b (QI K))) : X mLr_readInto 0 [(0, .ref v0), (1, .ref v1)] [] M b (QI K) := by
  refine x_wf (fun hw => ?_)
  refine x_aload_n (pc := 0) dLr_readInto_0 rfl (q := 1) rfl ?_
  exact x_invV (pc := 1) dLr_readInto_1 (c := 1) (S := []) (As := []) mlLr_15 hLi_clear rfl (by decide) rfl kv1 ⟨by decide, by decide⟩ ⟨Nat.zero_le _, Nat.zero_le _⟩ rfl (Nat.le_of_ble_eq_true rfl) (aftV (b' := b) ⟨Nat.le_refl _, Nat.le_refl _⟩ (fun N h => h) h)

theorem vLr_readInto_4 {M : Mm} {b : Nat × Nat} {K : Int32 → Mm → Prop} {v0 : Nat} {v1 : Nat} {r1 : Nat} (kv0 : v0 % 64 = 2) (e1 : gr M v0 0 = some r1)
    (h : CV mTo_begin [.ref r1] M (fun N => X mLr_readInto 11 [(0, .ref v0), (1, .ref v1)] [] N b (QI K))) : X mLr_readInto 4 [(0, .ref v0), (1, .ref v1)] [] M b (QI K) := by
  refine x_wf (fun hw => ?_)
  refine x_aload_n (pc := 4) dLr_readInto_4 rfl (q := 0) rfl ?_
  refine x_getR (pc := 5) dLr_readInto_5 kv0 flLr_9 rfl e1 ?_
  exact x_invV (pc := 8) dLr_readInto_8 (c := 7) (S := []) (As := []) mlLr_20 hTo_begin rfl (by decide) rfl (wfk hw e1 kv0) ⟨by decide, by decide⟩ ⟨Nat.zero_le _, Nat.zero_le _⟩ rfl (Nat.le_of_ble_eq_true rfl) (aftV (b' := b) ⟨Nat.le_refl _, Nat.le_refl _⟩ (fun N h => h) h)

theorem vLr_readInto_11 {M : Mm} {b : Nat × Nat} {K : Int32 → Mm → Prop} {v0 : Nat} {v1 : Nat} {r1 : Nat} (kv0 : v0 % 64 = 2) (e1 : gr M v0 0 = some r1)
    (h : CV mTo_advance [.ref r1] (si M v0 1 0) (fun N => X mLr_readInto 27 [(0, .ref v0), (1, .ref v1), (2, .int 0), (3, .int 0)] [] N b (QI K))) : X mLr_readInto 11 [(0, .ref v0), (1, .ref v1)] [] M b (QI K) := by
  refine x_wf (fun hw => ?_)
  refine x_aload_n (pc := 11) dLr_readInto_11 rfl (q := 0) rfl ?_
  refine x_iconst (pc := 12) dLr_readInto_12 (v := 0) rfl ?_
  refine x_putI (pc := 13) dLr_readInto_13 kv0 flLr_25 rfl rfl ?_
  refine x_iconst (pc := 16) dLr_readInto_16 (v := 0) rfl ?_
  refine x_istore_n (pc := 17) dLr_readInto_17 rfl (by decide) (L' := [(2, .int 0), (0, .ref v0), (1, .ref v1)]) rfl ?_
  refine x_iconst (pc := 18) dLr_readInto_18 (v := 0) rfl ?_
  refine x_istore_n (pc := 19) dLr_readInto_19 rfl (by decide) (L' := [(3, .int 0), (2, .int 0), (0, .ref v0), (1, .ref v1)]) rfl ?_
  refine x_aload_n (pc := 20) dLr_readInto_20 rfl (q := 2) rfl ?_
  refine x_getR (pc := 21) dLr_readInto_21 kv0 flLr_9 rfl e1 ?_
  exact x_invV (pc := 24) dLr_readInto_24 (c := 7) (S := []) (As := []) mlLr_29 hTo_advance rfl (by decide) rfl (wfk hw e1 kv0) ⟨by decide, by decide⟩ ⟨Nat.zero_le _, Nat.zero_le _⟩ rfl (Nat.le_of_ble_eq_true rfl) (aftV (b' := b) ⟨Nat.le_refl _, Nat.le_refl _⟩ (fun N h => x_loc [2, 3, 1, 0] rfl h) h)

theorem vLr_readInto_27 {M : Mm} {b : Nat × Nat} {K : Int32 → Mm → Prop} {v0 : Nat} {v1 : Nat} {v2 : Int32} {v3 : Int32} {r1 : Nat} (kv0 : v0 % 64 = 2) (e1 : gr M v0 0 = some r1)
    (h : (((400 ≤ v3) ∨ (¬ 400 ≤ v3 ∧ ¬ (gi M r1 5) = 0) ∨ (¬ 400 ≤ v3 ∧ (gi M r1 5) = 0 ∧ (gi M r1 1) = 1)) → (CV mLr_findWrongFollowers [.ref v0, .ref v1] M (fun N => X mLr_readInto 165 [(0, .ref v0), (3, .int v3)] [] N b (QI K)))) ∧ ((¬ 400 ≤ v3 ∧ (gi M r1 5) = 0 ∧ ¬ (gi M r1 1) = 1 ∧ ¬ (gi M r1 1) = 2) → (X mLr_readInto 79 [(0, .ref v0), (1, .ref v1), (2, .int v2), (3, .int v3)] [.int (-1)] M b (QI K))) ∧ ((¬ 400 ≤ v3 ∧ (gi M r1 5) = 0 ∧ ¬ (gi M r1 1) = 1 ∧ (gi M r1 1) = 2) → (CI mTo_among [.ref r1, .ref (64 * 0 + 63)] M (fun rv N => X mLr_readInto 75 [(0, .ref v0), (1, .ref v1), (2, .int v2), (3, .int v3)] [.int rv] N b (QI K))))) : X mLr_readInto 27 [(0, .ref v0), (1, .ref v1), (2, .int v2), (3, .int v3)] [] M b (QI K) := by
  refine x_wf (fun hw => ?_)
  refine x_iload_n (pc := 27) dLr_readInto_27 rfl (q := 3) rfl ?_
  refine x_sipush (pc := 28) dLr_readInto_28 (v := 400) rfl ?_
  obtain ⟨g1_0, g1_1, g1_2⟩ := h
  have g1_k0 : (400 ≤ v3) ∨ (¬ 400 ≤ v3 ∧ ¬ (gi M r1 5) = 0) ∨ (¬ 400 ≤ v3 ∧ (gi M r1 5) = 0 ∧ (gi M r1 1) = 1) → X mLr_readInto 160 [(0, .ref v0), (1, .ref v1), (2, .int v2), (3, .int v3)] [] M b (QI K) := fun q => by
    have h := g1_0 q
    refine x_aload_n (pc := 160) dLr_readInto_160 rfl (q := 0) rfl ?_
    refine x_aload_n (pc := 161) dLr_readInto_161 rfl (q := 1) rfl ?_
    exact x_invV (pc := 162) dLr_readInto_162 (c := 2) (S := []) (As := [.ref v1]) mlLr_62 hLr_findWrongFollowers rfl (by decide) rfl kv0 ⟨by decide, by decide⟩ ⟨Nat.zero_le _, Nat.zero_le _⟩ rfl (Nat.le_of_ble_eq_true rfl) (aftV (b' := b) ⟨Nat.le_refl _, Nat.le_refl _⟩ (fun N h => x_loc [0, 3] rfl h) h)
  refine x_icmp_ge (pc := 31) dLr_readInto_31 (t := 160) rfl (fun q1 => ?_) (fun q1 => ?_)
  · exact g1_k0 (Or.inl q1)
  · refine x_aload_n (pc := 34) dLr_readInto_34 rfl (q := 0) rfl ?_
    refine x_getR (pc := 35) dLr_readInto_35 kv0 flLr_9 rfl e1 ?_
    refine x_getI (pc := 38) dLr_readInto_38 (wfk hw e1 kv0) flLr_32 rfl ?_
    refine x_if_ne (pc := 41) dLr_readInto_41 (t := 160) rfl (fun q2 => ?_) (fun q2 => ?_)
    · exact g1_k0 (Or.inr (Or.inl ⟨q1, q2⟩))
    · refine x_aload_n (pc := 44) dLr_readInto_44 rfl (q := 0) rfl ?_
      refine x_getR (pc := 45) dLr_readInto_45 kv0 flLr_9 rfl e1 ?_
      refine x_getI (pc := 48) dLr_readInto_48 (wfk hw e1 kv0) flLr_35 rfl ?_
      refine x_iconst (pc := 51) dLr_readInto_51 (v := 1) rfl ?_
      refine x_icmp_eq (pc := 52) dLr_readInto_52 (t := 160) rfl (fun q3 => ?_) (fun q3 => ?_)
      · exact g1_k0 (Or.inr (Or.inr ⟨q1, q2, q3⟩))
      · refine x_aload_n (pc := 55) dLr_readInto_55 rfl (q := 0) rfl ?_
        refine x_getR (pc := 56) dLr_readInto_56 kv0 flLr_9 rfl e1 ?_
        refine x_getI (pc := 59) dLr_readInto_59 (wfk hw e1 kv0) flLr_35 rfl ?_
        refine x_iconst (pc := 62) dLr_readInto_62 (v := 2) rfl ?_
        refine x_icmp_ne (pc := 63) dLr_readInto_63 (t := 78) rfl (fun q4 => ?_) (fun q4 => ?_)
        · refine x_iconst (pc := 78) dLr_readInto_78 (v := (-1)) rfl ?_
          have h := g1_1 ⟨q1, q2, q3, q4⟩
          exact h
        · refine x_aload_n (pc := 66) dLr_readInto_66 rfl (q := 0) rfl ?_
          refine x_getR (pc := 67) dLr_readInto_67 kv0 flLr_9 rfl e1 ?_
          refine x_ldcS (pc := 70) dLr_readInto_70 (j := 0) (by decide) ⟨rfl, rfl⟩ ?_
          have h := g1_2 ⟨q1, q2, q3, q4⟩
          exact x_invV (pc := 72) dLr_readInto_72 (c := 7) (S := []) (As := [.ref (64 * 0 + 63)]) mlLr_40 hTo_among rfl (by decide) rfl (wfk hw e1 kv0) ⟨by decide, by decide⟩ ⟨Nat.zero_le _, Nat.zero_le _⟩ rfl (Nat.le_of_ble_eq_true rfl) (aftI (b' := b) ⟨Nat.le_refl _, Nat.le_refl _⟩ (fun rv N h => h) h)

theorem vLr_readInto_75 {M : Mm} {b : Nat × Nat} {K : Int32 → Mm → Prop} {v0 : Nat} {v1 : Nat} {v2 : Int32} {v3 : Int32} {w0 : Int32}  
    (h : X mLr_readInto 79 [(0, .ref v0), (1, .ref v1), (2, .int v2), (3, .int v3)] [.int w0] M b (QI K)) : X mLr_readInto 75 [(0, .ref v0), (1, .ref v1), (2, .int v2), (3, .int v3)] [.int w0] M b (QI K) := by
  refine x_wf (fun hw => ?_)
  refine x_goto (pc := 75) dLr_readInto_75 (t := 79) rfl ?_
  exact h

theorem vLr_readInto_79 {M : Mm} {b : Nat × Nat} {K : Int32 → Mm → Prop} {v0 : Nat} {v1 : Nat} {v2 : Int32} {v3 : Int32} {w0 : Int32} {r1 : Nat} (kv0 : v0 % 64 = 2) (e1 : gr M v0 0 = some r1)
    (h : ((0 ≤ w0 ∧ 6 ≤ w0 ∧ ¬ w0 = 6) → (CI mLr_tellCopies [.ref v0, .ref v1, .int v2] M (fun rv N => X mLr_readInto 145 [(0, .ref v0), (1, .ref v1), (3, .int v3)] [.int rv, .int v2] N b (QI K)))) ∧ ((0 ≤ w0 ∧ 6 ≤ w0 ∧ w0 = 6) → (CI mTo_takeNumber [.ref r1, .int 7] M (fun rv N => X mLr_readInto 132 [(0, .ref v0), (1, .ref v1), (2, .int v2), (3, .int v3)] [.int rv, .ref v0] N b (QI K)))) ∧ ((0 ≤ w0 ∧ ¬ 6 ≤ w0) → (CV mLr_tellWord [.ref v0, .ref v1, .int w0] M (fun N => X mLr_readInto 112 [(0, .ref v0), (1, .ref v1), (2, .int v2), (3, .int v3)] [] N b (QI K)))) ∧ (¬ 0 ≤ w0 → (CI mTo_fail [.ref r1, .int 2] M (fun rv N => X mLr_readInto 94 [(0, .ref v0), (1, .ref v1), (2, .int v2), (3, .int v3)] [.int rv] N b (QI K))))) : X mLr_readInto 79 [(0, .ref v0), (1, .ref v1), (2, .int v2), (3, .int v3)] [.int w0] M b (QI K) := by
  refine x_wf (fun hw => ?_)
  refine x_istore (pc := 79) dLr_readInto_79 (by decide) (L' := [(4, .int w0), (0, .ref v0), (1, .ref v1), (2, .int v2), (3, .int v3)]) rfl ?_
  refine x_iload (pc := 81) dLr_readInto_81 (q := 0) rfl ?_
  obtain ⟨g1_0, g1_1, g1_2, g1_3⟩ := h
  refine x_if_ge (pc := 83) dLr_readInto_83 (t := 98) rfl (fun q1 => ?_) (fun q1 => ?_)
  · refine x_iload (pc := 98) dLr_readInto_98 (q := 0) rfl ?_
    refine x_bipush (pc := 100) dLr_readInto_100 (v := 6) rfl ?_
    refine x_icmp_ge (pc := 102) dLr_readInto_102 (t := 115) rfl (fun q2 => ?_) (fun q2 => ?_)
    · refine x_iload (pc := 115) dLr_readInto_115 (q := 0) rfl ?_
      refine x_bipush (pc := 117) dLr_readInto_117 (v := 6) rfl ?_
      refine x_icmp_ne (pc := 119) dLr_readInto_119 (t := 138) rfl (fun q3 => ?_) (fun q3 => ?_)
      · refine x_iload_n (pc := 138) dLr_readInto_138 rfl (q := 3) rfl ?_
        refine x_aload_n (pc := 139) dLr_readInto_139 rfl (q := 1) rfl ?_
        refine x_aload_n (pc := 140) dLr_readInto_140 rfl (q := 2) rfl ?_
        refine x_iload_n (pc := 141) dLr_readInto_141 rfl (q := 3) rfl ?_
        have h := g1_0 ⟨q1, q2, q3⟩
        exact x_invV (pc := 142) dLr_readInto_142 (c := 2) (S := [.int v2]) (As := [.ref v1, .int v2]) mlLr_55 hLr_tellCopies rfl (by decide) rfl kv0 ⟨by decide, by decide⟩ ⟨Nat.zero_le _, Nat.zero_le _⟩ rfl (Nat.le_of_ble_eq_true rfl) (aftI (b' := b) ⟨Nat.le_refl _, Nat.le_refl _⟩ (fun rv N h => x_loc [1, 2, 4] rfl h) h)
      · refine x_aload_n (pc := 122) dLr_readInto_122 rfl (q := 1) rfl ?_
        refine x_aload_n (pc := 123) dLr_readInto_123 rfl (q := 1) rfl ?_
        refine x_getR (pc := 124) dLr_readInto_124 kv0 flLr_9 rfl e1 ?_
        refine x_bipush (pc := 127) dLr_readInto_127 (v := 7) rfl ?_
        have h := g1_1 ⟨q1, q2, q3⟩
        exact x_invV (pc := 129) dLr_readInto_129 (c := 7) (S := [.ref v0]) (As := [.int 7]) mlLr_52 hTo_takeNumber rfl (by decide) rfl (wfk hw e1 kv0) ⟨by decide, by decide⟩ ⟨Nat.zero_le _, Nat.zero_le _⟩ rfl (Nat.le_of_ble_eq_true rfl) (aftI (b' := b) ⟨Nat.le_refl _, Nat.le_refl _⟩ (fun rv N h => x_loc [1, 2, 3, 4] rfl h) h)
    · refine x_aload_n (pc := 105) dLr_readInto_105 rfl (q := 1) rfl ?_
      refine x_aload_n (pc := 106) dLr_readInto_106 rfl (q := 2) rfl ?_
      refine x_iload (pc := 107) dLr_readInto_107 (q := 0) rfl ?_
      have h := g1_2 ⟨q1, q2⟩
      exact x_invV (pc := 109) dLr_readInto_109 (c := 2) (S := []) (As := [.ref v1, .int w0]) mlLr_48 hLr_tellWord rfl (by decide) rfl kv0 ⟨by decide, by decide⟩ ⟨Nat.zero_le _, Nat.zero_le _⟩ rfl (Nat.le_of_ble_eq_true rfl) (aftV (b' := b) ⟨Nat.le_refl _, Nat.le_refl _⟩ (fun N h => x_loc [1, 2, 3, 4] rfl h) h)
  · refine x_aload_n (pc := 86) dLr_readInto_86 rfl (q := 1) rfl ?_
    refine x_getR (pc := 87) dLr_readInto_87 kv0 flLr_9 rfl e1 ?_
    refine x_iconst (pc := 90) dLr_readInto_90 (v := 2) rfl ?_
    have h := g1_3 q1
    exact x_invV (pc := 91) dLr_readInto_91 (c := 7) (S := []) (As := [.int 2]) mlLr_44 hTo_fail rfl (by decide) rfl (wfk hw e1 kv0) ⟨by decide, by decide⟩ ⟨Nat.zero_le _, Nat.zero_le _⟩ rfl (Nat.le_of_ble_eq_true rfl) (aftI (b' := b) ⟨Nat.le_refl _, Nat.le_refl _⟩ (fun rv N h => x_loc [1, 2, 3, 4] rfl h) h)

theorem vLr_readInto_94 {M : Mm} {b : Nat × Nat} {K : Int32 → Mm → Prop} {v0 : Nat} {v1 : Nat} {v2 : Int32} {v3 : Int32} {w0 : Int32}  
    (h : X mLr_readInto 147 [(0, .ref v0), (1, .ref v1), (2, .int v2), (3, .int v3)] [] M b (QI K)) : X mLr_readInto 94 [(0, .ref v0), (1, .ref v1), (2, .int v2), (3, .int v3)] [.int w0] M b (QI K) := by
  refine x_wf (fun hw => ?_)
  refine x_pop (pc := 94) dLr_readInto_94 rfl ?_
  refine x_goto (pc := 95) dLr_readInto_95 (t := 147) rfl ?_
  exact h

theorem vLr_readInto_112 {M : Mm} {b : Nat × Nat} {K : Int32 → Mm → Prop} {v0 : Nat} {v1 : Nat} {v2 : Int32} {v3 : Int32}  
    (h : X mLr_readInto 147 [(0, .ref v0), (1, .ref v1), (2, .int v2), (3, .int v3)] [] M b (QI K)) : X mLr_readInto 112 [(0, .ref v0), (1, .ref v1), (2, .int v2), (3, .int v3)] [] M b (QI K) := by
  refine x_wf (fun hw => ?_)
  refine x_goto (pc := 112) dLr_readInto_112 (t := 147) rfl ?_
  exact h

theorem vLr_readInto_132 {M : Mm} {b : Nat × Nat} {K : Int32 → Mm → Prop} {v0 : Nat} {v1 : Nat} {v2 : Int32} {v3 : Int32} {w0 : Int32} {w1 : Nat} (kw1 : w1 % 64 = 2) 
    (h : X mLr_readInto 147 [(0, .ref v0), (1, .ref v1), (2, .int v2), (3, .int v3)] [] (si M w1 1 w0) b (QI K)) : X mLr_readInto 132 [(0, .ref v0), (1, .ref v1), (2, .int v2), (3, .int v3)] [.int w0, .ref w1] M b (QI K) := by
  refine x_wf (fun hw => ?_)
  refine x_putI (pc := 132) dLr_readInto_132 kw1 flLr_25 rfl rfl ?_
  refine x_goto (pc := 135) dLr_readInto_135 (t := 147) rfl ?_
  exact h

theorem vLr_readInto_145 {M : Mm} {b : Nat × Nat} {K : Int32 → Mm → Prop} {v0 : Nat} {v1 : Nat} {v3 : Int32} {w0 : Int32} {w1 : Int32}  
    (h : X mLr_readInto 147 [(0, .ref v0), (1, .ref v1), (2, .int (w1 ||| w0)), (3, .int v3)] [] M b (QI K)) : X mLr_readInto 145 [(0, .ref v0), (1, .ref v1), (3, .int v3)] [.int w0, .int w1] M b (QI K) := by
  refine x_wf (fun hw => ?_)
  refine x_ior (pc := 145) dLr_readInto_145 ?_
  refine x_istore_n (pc := 146) dLr_readInto_146 rfl (by decide) (L' := [(2, .int (w1 ||| w0)), (0, .ref v0), (1, .ref v1), (3, .int v3)]) rfl ?_
  exact x_loc [1, 2, 0, 3] rfl h

theorem vLr_readInto_147 {M : Mm} {b : Nat × Nat} {K : Int32 → Mm → Prop} {v0 : Nat} {v1 : Nat} {v2 : Int32} {v3 : Int32} {r1 : Nat} (kv0 : v0 % 64 = 2) (e1 : gr M v0 0 = some r1)
    (h : CV mTo_closeLine [.ref r1] M (fun N => X mLr_readInto 154 [(0, .ref v0), (1, .ref v1), (2, .int v2), (3, .int v3)] [] N b (QI K))) : X mLr_readInto 147 [(0, .ref v0), (1, .ref v1), (2, .int v2), (3, .int v3)] [] M b (QI K) := by
  refine x_wf (fun hw => ?_)
  refine x_aload_n (pc := 147) dLr_readInto_147 rfl (q := 0) rfl ?_
  refine x_getR (pc := 148) dLr_readInto_148 kv0 flLr_9 rfl e1 ?_
  exact x_invV (pc := 151) dLr_readInto_151 (c := 7) (S := []) (As := []) mlLr_59 hTo_closeLine rfl (by decide) rfl (wfk hw e1 kv0) ⟨by decide, by decide⟩ ⟨Nat.zero_le _, Nat.zero_le _⟩ rfl (Nat.le_of_ble_eq_true rfl) (aftV (b' := b) ⟨Nat.le_refl _, Nat.le_refl _⟩ (fun N h => h) h)

theorem vLr_readInto_154 {M : Mm} {b : Nat × Nat} {K : Int32 → Mm → Prop} {v0 : Nat} {v1 : Nat} {v2 : Int32} {v3 : Int32}  
    (h : X mLr_readInto 27 [(0, .ref v0), (1, .ref v1), (2, .int v2), (3, .int (v3 + 1))] [] M b (QI K)) : X mLr_readInto 154 [(0, .ref v0), (1, .ref v1), (2, .int v2), (3, .int v3)] [] M b (QI K) := by
  refine x_wf (fun hw => ?_)
  refine x_iinc (pc := 154) dLr_readInto_154 (q := 3) rfl (v := v3 + 1) rfl (by decide) (L' := [(3, .int (v3 + 1)), (0, .ref v0), (1, .ref v1), (2, .int v2)]) rfl ?_
  refine x_goto (pc := 157) dLr_readInto_157 (t := 27) rfl ?_
  exact x_loc [1, 2, 3, 0] rfl h

theorem vLr_readInto_165 {M : Mm} {b : Nat × Nat} {K : Int32 → Mm → Prop} {v0 : Nat} {v3 : Int32} {r1 : Nat} (kv0 : v0 % 64 = 2) (e1 : gr M v0 0 = some r1)
    (h : K (if (gi M r1 5) = 0 then v3 else (-1) : Int32) M) : X mLr_readInto 165 [(0, .ref v0), (3, .int v3)] [] M b (QI K) := by
  refine x_wf (fun hw => ?_)
  refine x_aload_n (pc := 165) dLr_readInto_165 rfl (q := 0) rfl ?_
  refine x_getR (pc := 166) dLr_readInto_166 kv0 flLr_9 rfl e1 ?_
  refine x_getI (pc := 169) dLr_readInto_169 (wfk hw e1 kv0) flLr_32 rfl ?_
  suffices hJ : X mLr_readInto 180 [(0, .ref v0), (3, .int v3)] [.int (if (gi M r1 5) = 0 then v3 else (-1) : Int32)] M b (QI K) by
    refine x_if_ne (pc := 172) dLr_readInto_172 (t := 179) rfl (fun q1 => ?_) (fun q1 => ?_)
    · refine x_iconst (pc := 179) dLr_readInto_179 (v := (-1)) rfl ?_
      first | (rw [if_neg q1] at hJ; exact hJ) | (simp only [if_neg q1] at hJ ⊢; exact hJ)
    · refine x_iload_n (pc := 175) dLr_readInto_175 rfl (q := 1) rfl ?_
      refine x_goto (pc := 176) dLr_readInto_176 (t := 180) rfl ?_
      first | (rw [if_pos q1] at hJ; exact hJ) | (simp only [if_pos q1] at hJ ⊢; exact hJ)
  exact x_retQI (pc := 180) dLr_readInto_180 rfl rfl h

theorem dLr_tellWord_0 : decode (mB mLr_tellWord) 0 = .ok (.aload_n 1, 1) := op43 (by decide +kernel)
theorem dLr_tellWord_1 : decode (mB mLr_tellWord) 1 = .ok (.getfield 74, 3) := op180 0 74 (by decide +kernel)
theorem dLr_tellWord_4 : decode (mB mLr_tellWord) 4 = .ok (.bipush 24, 2) := op16 24 (by decide +kernel)
theorem dLr_tellWord_6 : decode (mB mLr_tellWord) 6 = .ok (.if_icmp .lt 13, 3) := op161 0 13 (by decide +kernel)
theorem dLr_tellWord_9 : decode (mB mLr_tellWord) 9 = .ok (.aload_n 0, 1) := op42 (by decide +kernel)
theorem dLr_tellWord_10 : decode (mB mLr_tellWord) 10 = .ok (.getfield 9, 3) := op180 0 9 (by decide +kernel)
theorem dLr_tellWord_13 : decode (mB mLr_tellWord) 13 = .ok (.iconst 5, 1) := op8 (by decide +kernel)
theorem dLr_tellWord_14 : decode (mB mLr_tellWord) 14 = .ok (.invokevirtual 44, 3) := op182 0 44 (by decide +kernel)
theorem dLr_tellWord_17 : decode (mB mLr_tellWord) 17 = .ok (.pop, 1) := op87 (by decide +kernel)
theorem dLr_tellWord_18 : decode (mB mLr_tellWord) 18 = .ok (.return_, 1) := op177 (by decide +kernel)
theorem dLr_tellWord_19 : decode (mB mLr_tellWord) 19 = .ok (.aload_n 1, 1) := op43 (by decide +kernel)
theorem dLr_tellWord_20 : decode (mB mLr_tellWord) 20 = .ok (.getfield 77, 3) := op180 0 77 (by decide +kernel)
theorem dLr_tellWord_23 : decode (mB mLr_tellWord) 23 = .ok (.aload_n 1, 1) := op43 (by decide +kernel)
theorem dLr_tellWord_24 : decode (mB mLr_tellWord) 24 = .ok (.getfield 74, 3) := op180 0 74 (by decide +kernel)
theorem dLr_tellWord_27 : decode (mB mLr_tellWord) 27 = .ok (.aaload, 1) := op50 (by decide +kernel)
theorem dLr_tellWord_28 : decode (mB mLr_tellWord) 28 = .ok (.astore_n 3, 1) := op78 (by decide +kernel)
theorem dLr_tellWord_29 : decode (mB mLr_tellWord) 29 = .ok (.aload_n 3, 1) := op45 (by decide +kernel)
theorem dLr_tellWord_30 : decode (mB mLr_tellWord) 30 = .ok (.iload_n 2, 1) := op28 (by decide +kernel)
theorem dLr_tellWord_31 : decode (mB mLr_tellWord) 31 = .ok (.aload_n 0, 1) := op42 (by decide +kernel)
theorem dLr_tellWord_32 : decode (mB mLr_tellWord) 32 = .ok (.getfield 25, 3) := op180 0 25 (by decide +kernel)
theorem dLr_tellWord_35 : decode (mB mLr_tellWord) 35 = .ok (.invokevirtual 81, 3) := op182 0 81 (by decide +kernel)
theorem dLr_tellWord_38 : decode (mB mLr_tellWord) 38 = .ok (.iload_n 2, 1) := op28 (by decide +kernel)
theorem dLr_tellWord_39 : decode (mB mLr_tellWord) 39 = .ok (.iconst 5, 1) := op8 (by decide +kernel)
theorem dLr_tellWord_40 : decode (mB mLr_tellWord) 40 = .ok (.if_icmp .ne 20, 3) := op160 0 20 (by decide +kernel)
theorem dLr_tellWord_43 : decode (mB mLr_tellWord) 43 = .ok (.aload_n 3, 1) := op45 (by decide +kernel)
theorem dLr_tellWord_44 : decode (mB mLr_tellWord) 44 = .ok (.aload_n 0, 1) := op42 (by decide +kernel)
theorem dLr_tellWord_45 : decode (mB mLr_tellWord) 45 = .ok (.getfield 9, 3) := op180 0 9 (by decide +kernel)
theorem dLr_tellWord_48 : decode (mB mLr_tellWord) 48 = .ok (.sipush 999, 3) := op17 3 231 (by decide +kernel)
theorem dLr_tellWord_51 : decode (mB mLr_tellWord) 51 = .ok (.invokevirtual 52, 3) := op182 0 52 (by decide +kernel)
theorem dLr_tellWord_54 : decode (mB mLr_tellWord) 54 = .ok (.putfield 86, 3) := op181 0 86 (by decide +kernel)
theorem dLr_tellWord_57 : decode (mB mLr_tellWord) 57 = .ok (.goto 14, 3) := op167 0 14 (by decide +kernel)
theorem dLr_tellWord_60 : decode (mB mLr_tellWord) 60 = .ok (.aload_n 3, 1) := op45 (by decide +kernel)
theorem dLr_tellWord_61 : decode (mB mLr_tellWord) 61 = .ok (.aload_n 0, 1) := op42 (by decide +kernel)
theorem dLr_tellWord_62 : decode (mB mLr_tellWord) 62 = .ok (.getfield 9, 3) := op180 0 9 (by decide +kernel)
theorem dLr_tellWord_65 : decode (mB mLr_tellWord) 65 = .ok (.invokevirtual 89, 3) := op182 0 89 (by decide +kernel)
theorem dLr_tellWord_68 : decode (mB mLr_tellWord) 68 = .ok (.putfield 93, 3) := op181 0 93 (by decide +kernel)
theorem dLr_tellWord_71 : decode (mB mLr_tellWord) 71 = .ok (.aload_n 0, 1) := op42 (by decide +kernel)
theorem dLr_tellWord_72 : decode (mB mLr_tellWord) 72 = .ok (.getfield 9, 3) := op180 0 9 (by decide +kernel)
theorem dLr_tellWord_75 : decode (mB mLr_tellWord) 75 = .ok (.getfield 32, 3) := op180 0 32 (by decide +kernel)
theorem dLr_tellWord_78 : decode (mB mLr_tellWord) 78 = .ok (.ifCond .ne 8, 3) := op154 0 8 (by decide +kernel)
theorem dLr_tellWord_81 : decode (mB mLr_tellWord) 81 = .ok (.aload_n 0, 1) := op42 (by decide +kernel)
theorem dLr_tellWord_82 : decode (mB mLr_tellWord) 82 = .ok (.aload_n 3, 1) := op45 (by decide +kernel)
theorem dLr_tellWord_83 : decode (mB mLr_tellWord) 83 = .ok (.invokevirtual 96, 3) := op182 0 96 (by decide +kernel)
theorem dLr_tellWord_86 : decode (mB mLr_tellWord) 86 = .ok (.aload_n 1, 1) := op43 (by decide +kernel)
theorem dLr_tellWord_87 : decode (mB mLr_tellWord) 87 = .ok (.dup, 1) := op89 (by decide +kernel)
theorem dLr_tellWord_88 : decode (mB mLr_tellWord) 88 = .ok (.getfield 74, 3) := op180 0 74 (by decide +kernel)
theorem dLr_tellWord_91 : decode (mB mLr_tellWord) 91 = .ok (.aload_n 0, 1) := op42 (by decide +kernel)
theorem dLr_tellWord_92 : decode (mB mLr_tellWord) 92 = .ok (.getfield 9, 3) := op180 0 9 (by decide +kernel)
theorem dLr_tellWord_95 : decode (mB mLr_tellWord) 95 = .ok (.getfield 32, 3) := op180 0 32 (by decide +kernel)
theorem dLr_tellWord_98 : decode (mB mLr_tellWord) 98 = .ok (.ifCond .ne 7, 3) := op154 0 7 (by decide +kernel)
theorem dLr_tellWord_101 : decode (mB mLr_tellWord) 101 = .ok (.iconst 1, 1) := op4 (by decide +kernel)
theorem dLr_tellWord_102 : decode (mB mLr_tellWord) 102 = .ok (.goto 4, 3) := op167 0 4 (by decide +kernel)
theorem dLr_tellWord_105 : decode (mB mLr_tellWord) 105 = .ok (.iconst 0, 1) := op3 (by decide +kernel)
theorem dLr_tellWord_106 : decode (mB mLr_tellWord) 106 = .ok (.iadd, 1) := op96 (by decide +kernel)
theorem dLr_tellWord_107 : decode (mB mLr_tellWord) 107 = .ok (.putfield 74, 3) := op181 0 74 (by decide +kernel)
theorem dLr_tellWord_110 : decode (mB mLr_tellWord) 110 = .ok (.return_, 1) := op177 (by decide +kernel)

theorem vLr_tellWord_0 {M : Mm} {b : Nat × Nat} {K : Mm → Prop} {v0 : Nat} {v1 : Nat} {v2 : Int32} {r1 : Nat} {r2 : Nat} (kv1 : v1 % 64 = 1) (kv0 : v0 % 64 = 2) (e1 : gr M v1 0 = some r1) (e2 : gr M v0 0 = some r2)
    (h : ((gi M v1 1) < 24 → (vp_in (gi M v1 1) 24 ∧ (∃ r3 : Nat, gr M r1 (gi M v1 1).toNatClampNeg = some r3 ∧ (CV mWo_begin [.ref r3, .int v2, .int (gi M v0 1)] M (fun N => X mLr_tellWord 38 [(0, .ref v0), (1, .ref v1), (2, .int v2), (3, .ref r3)] [] N b (QV K)))))) ∧ (¬ (gi M v1 1) < 24 → (CI mTo_fail [.ref r2, .int 5] M (fun rv N => X mLr_tellWord 17 [] [.int rv] N b (QV K))))) : X mLr_tellWord 0 [(0, .ref v0), (1, .ref v1), (2, .int v2)] [] M b (QV K) := by
  refine x_wf (fun hw => ?_)
  refine x_aload_n (pc := 0) dLr_tellWord_0 rfl (q := 1) rfl ?_
  refine x_getI (pc := 1) dLr_tellWord_1 kv1 flLr_74 rfl ?_
  refine x_bipush (pc := 4) dLr_tellWord_4 (v := 24) rfl ?_
  obtain ⟨g1_0, g1_1⟩ := h
  refine x_icmp_lt (pc := 6) dLr_tellWord_6 (t := 19) rfl (fun q1 => ?_) (fun q1 => ?_)
  · refine x_aload_n (pc := 19) dLr_tellWord_19 rfl (q := 1) rfl ?_
    refine x_getR (pc := 20) dLr_tellWord_20 kv1 flLr_77 rfl e1 ?_
    refine x_aload_n (pc := 23) dLr_tellWord_23 rfl (q := 1) rfl ?_
    refine x_getI (pc := 24) dLr_tellWord_24 kv1 flLr_74 rfl ?_
    have h := g1_0 q1
    obtain ⟨s501, h⟩ := h
    obtain ⟨r3, s502, h⟩ := h
    refine x_aldR (pc := 27) (Or.inl rfl) dLr_tellWord_27 (wfk hw e1 kv1) ak_18 s501 s502 ?_
    refine x_astore_n (pc := 28) dLr_tellWord_28 rfl (by decide) (L' := [(3, .ref r3), (0, .ref v0), (1, .ref v1), (2, .int v2)]) rfl ?_
    refine x_aload_n (pc := 29) dLr_tellWord_29 rfl (q := 0) rfl ?_
    refine x_iload_n (pc := 30) dLr_tellWord_30 rfl (q := 3) rfl ?_
    refine x_aload_n (pc := 31) dLr_tellWord_31 rfl (q := 1) rfl ?_
    refine x_getI (pc := 32) dLr_tellWord_32 kv0 flLr_25 rfl ?_
    exact x_invV (pc := 35) dLr_tellWord_35 (c := 9) (S := []) (As := [.int v2, .int (gi M v0 1)]) mlLr_81 hWo_begin rfl (by decide) rfl (wfk hw s502 (wfk hw e1 kv1)) ⟨by decide, by decide⟩ ⟨Nat.zero_le _, Nat.zero_le _⟩ rfl (Nat.le_of_ble_eq_true rfl) (aftV (b' := b) ⟨Nat.le_refl _, Nat.le_refl _⟩ (fun N h => x_loc [1, 2, 3, 0] rfl h) h)
  · refine x_aload_n (pc := 9) dLr_tellWord_9 rfl (q := 0) rfl ?_
    refine x_getR (pc := 10) dLr_tellWord_10 kv0 flLr_9 rfl e2 ?_
    refine x_iconst (pc := 13) dLr_tellWord_13 (v := 5) rfl ?_
    have h := g1_1 q1
    exact x_invV (pc := 14) dLr_tellWord_14 (c := 7) (S := []) (As := [.int 5]) mlLr_44 hTo_fail rfl (by decide) rfl (wfk hw e2 kv0) ⟨by decide, by decide⟩ ⟨Nat.zero_le _, Nat.zero_le _⟩ rfl (Nat.le_of_ble_eq_true rfl) (aftI (b' := b) ⟨Nat.le_refl _, Nat.le_refl _⟩ (fun rv N h => x_loc [] rfl h) h)

theorem vLr_tellWord_17 {M : Mm} {b : Nat × Nat} {K : Mm → Prop} {w0 : Int32}  
    (h : K M) : X mLr_tellWord 17 [] [.int w0] M b (QV K) := by
  refine x_wf (fun hw => ?_)
  refine x_pop (pc := 17) dLr_tellWord_17 rfl ?_
  exact x_retQV (pc := 18) dLr_tellWord_18 rfl h

theorem vLr_tellWord_38 {M : Mm} {b : Nat × Nat} {K : Mm → Prop} {v0 : Nat} {v1 : Nat} {v2 : Int32} {v3 : Nat} {r1 : Nat} (kv0 : v0 % 64 = 2) (e1 : gr M v0 0 = some r1)
    (h : (¬ v2 = 5 → (CI mTo_takeDoctor [.ref r1] M (fun rv N => X mLr_tellWord 68 [(0, .ref v0), (1, .ref v1), (3, .ref v3)] [.int rv, .ref v3] N b (QV K)))) ∧ (v2 = 5 → (CI mTo_takeNumber [.ref r1, .int 999] M (fun rv N => X mLr_tellWord 54 [(0, .ref v0), (1, .ref v1), (3, .ref v3)] [.int rv, .ref v3] N b (QV K))))) : X mLr_tellWord 38 [(0, .ref v0), (1, .ref v1), (2, .int v2), (3, .ref v3)] [] M b (QV K) := by
  refine x_wf (fun hw => ?_)
  refine x_iload_n (pc := 38) dLr_tellWord_38 rfl (q := 2) rfl ?_
  refine x_iconst (pc := 39) dLr_tellWord_39 (v := 5) rfl ?_
  obtain ⟨g1_0, g1_1⟩ := h
  refine x_icmp_ne (pc := 40) dLr_tellWord_40 (t := 60) rfl (fun q1 => ?_) (fun q1 => ?_)
  · refine x_aload_n (pc := 60) dLr_tellWord_60 rfl (q := 3) rfl ?_
    refine x_aload_n (pc := 61) dLr_tellWord_61 rfl (q := 0) rfl ?_
    refine x_getR (pc := 62) dLr_tellWord_62 kv0 flLr_9 rfl e1 ?_
    have h := g1_0 q1
    exact x_invV (pc := 65) dLr_tellWord_65 (c := 7) (S := [.ref v3]) (As := []) mlLr_89 hTo_takeDoctor rfl (by decide) rfl (wfk hw e1 kv0) ⟨by decide, by decide⟩ ⟨Nat.zero_le _, Nat.zero_le _⟩ rfl (Nat.le_of_ble_eq_true rfl) (aftI (b' := b) ⟨Nat.le_refl _, Nat.le_refl _⟩ (fun rv N h => x_loc [0, 1, 3] rfl h) h)
  · refine x_aload_n (pc := 43) dLr_tellWord_43 rfl (q := 3) rfl ?_
    refine x_aload_n (pc := 44) dLr_tellWord_44 rfl (q := 0) rfl ?_
    refine x_getR (pc := 45) dLr_tellWord_45 kv0 flLr_9 rfl e1 ?_
    refine x_sipush (pc := 48) dLr_tellWord_48 (v := 999) rfl ?_
    have h := g1_1 q1
    exact x_invV (pc := 51) dLr_tellWord_51 (c := 7) (S := [.ref v3]) (As := [.int 999]) mlLr_52 hTo_takeNumber rfl (by decide) rfl (wfk hw e1 kv0) ⟨by decide, by decide⟩ ⟨Nat.zero_le _, Nat.zero_le _⟩ rfl (Nat.le_of_ble_eq_true rfl) (aftI (b' := b) ⟨Nat.le_refl _, Nat.le_refl _⟩ (fun rv N h => x_loc [0, 1, 3] rfl h) h)

theorem vLr_tellWord_54 {M : Mm} {b : Nat × Nat} {K : Mm → Prop} {v0 : Nat} {v1 : Nat} {v3 : Nat} {w0 : Int32} {w1 : Nat} (kw1 : w1 % 64 = 9) 
    (h : X mLr_tellWord 71 [(0, .ref v0), (1, .ref v1), (3, .ref v3)] [] (si M w1 8 w0) b (QV K)) : X mLr_tellWord 54 [(0, .ref v0), (1, .ref v1), (3, .ref v3)] [.int w0, .ref w1] M b (QV K) := by
  refine x_wf (fun hw => ?_)
  refine x_putI (pc := 54) dLr_tellWord_54 kw1 flLr_86 rfl rfl ?_
  refine x_goto (pc := 57) dLr_tellWord_57 (t := 71) rfl ?_
  exact h

theorem vLr_tellWord_68 {M : Mm} {b : Nat × Nat} {K : Mm → Prop} {v0 : Nat} {v1 : Nat} {v3 : Nat} {w0 : Int32} {w1 : Nat} (kw1 : w1 % 64 = 9) 
    (h : X mLr_tellWord 71 [(0, .ref v0), (1, .ref v1), (3, .ref v3)] [] (si M w1 1 w0) b (QV K)) : X mLr_tellWord 68 [(0, .ref v0), (1, .ref v1), (3, .ref v3)] [.int w0, .ref w1] M b (QV K) := by
  refine x_wf (fun hw => ?_)
  refine x_putI (pc := 68) dLr_tellWord_68 kw1 flLr_93 rfl rfl ?_
  exact h

theorem vLr_tellWord_71 {M : Mm} {b : Nat × Nat} {K : Mm → Prop} {v0 : Nat} {v1 : Nat} {v3 : Nat} {r1 : Nat} (kv0 : v0 % 64 = 2) (e1 : gr M v0 0 = some r1)
    (h : (¬ (gi M r1 5) = 0 → (X mLr_tellWord 86 [(0, .ref v0), (1, .ref v1)] [] M b (QV K))) ∧ ((gi M r1 5) = 0 → (CV mLr_tellSaying [.ref v0, .ref v3] M (fun N => X mLr_tellWord 86 [(0, .ref v0), (1, .ref v1)] [] N b (QV K))))) : X mLr_tellWord 71 [(0, .ref v0), (1, .ref v1), (3, .ref v3)] [] M b (QV K) := by
  refine x_wf (fun hw => ?_)
  refine x_aload_n (pc := 71) dLr_tellWord_71 rfl (q := 0) rfl ?_
  refine x_getR (pc := 72) dLr_tellWord_72 kv0 flLr_9 rfl e1 ?_
  refine x_getI (pc := 75) dLr_tellWord_75 (wfk hw e1 kv0) flLr_32 rfl ?_
  obtain ⟨g1_0, g1_1⟩ := h
  refine x_if_ne (pc := 78) dLr_tellWord_78 (t := 86) rfl (fun q1 => ?_) (fun q1 => ?_)
  · have h := g1_0 q1
    exact x_loc [0, 1] rfl h
  · refine x_aload_n (pc := 81) dLr_tellWord_81 rfl (q := 0) rfl ?_
    refine x_aload_n (pc := 82) dLr_tellWord_82 rfl (q := 2) rfl ?_
    have h := g1_1 q1
    exact x_invV (pc := 83) dLr_tellWord_83 (c := 2) (S := []) (As := [.ref v3]) mlLr_96 hLr_tellSaying rfl (by decide) rfl kv0 ⟨by decide, by decide⟩ ⟨Nat.zero_le _, Nat.zero_le _⟩ rfl (Nat.le_of_ble_eq_true rfl) (aftV (b' := b) ⟨Nat.le_refl _, Nat.le_refl _⟩ (fun N h => x_loc [0, 1] rfl h) h)

theorem vLr_tellWord_86 {M : Mm} {b : Nat × Nat} {K : Mm → Prop} {v0 : Nat} {v1 : Nat} {r1 : Nat} (kv1 : v1 % 64 = 1) (kv0 : v0 % 64 = 2) (e1 : gr M v0 0 = some r1)
    (h : K (si M v1 1 ((gi M v1 1) + (if (gi M r1 5) = 0 then 1 else 0 : Int32)))) : X mLr_tellWord 86 [(0, .ref v0), (1, .ref v1)] [] M b (QV K) := by
  refine x_wf (fun hw => ?_)
  refine x_aload_n (pc := 86) dLr_tellWord_86 rfl (q := 1) rfl ?_
  refine x_dup (pc := 87) dLr_tellWord_87 rfl ?_
  refine x_getI (pc := 88) dLr_tellWord_88 kv1 flLr_74 rfl ?_
  refine x_aload_n (pc := 91) dLr_tellWord_91 rfl (q := 0) rfl ?_
  refine x_getR (pc := 92) dLr_tellWord_92 kv0 flLr_9 rfl e1 ?_
  refine x_getI (pc := 95) dLr_tellWord_95 (wfk hw e1 kv0) flLr_32 rfl ?_
  suffices hJ : X mLr_tellWord 106 [(0, .ref v0), (1, .ref v1)] [.int (if (gi M r1 5) = 0 then 1 else 0 : Int32), .int (gi M v1 1), .ref v1] M b (QV K) by
    refine x_if_ne (pc := 98) dLr_tellWord_98 (t := 105) rfl (fun q1 => ?_) (fun q1 => ?_)
    · refine x_iconst (pc := 105) dLr_tellWord_105 (v := 0) rfl ?_
      first | (rw [if_neg q1] at hJ; exact hJ) | (simp only [if_neg q1] at hJ ⊢; exact hJ)
    · refine x_iconst (pc := 101) dLr_tellWord_101 (v := 1) rfl ?_
      refine x_goto (pc := 102) dLr_tellWord_102 (t := 106) rfl ?_
      first | (rw [if_pos q1] at hJ; exact hJ) | (simp only [if_pos q1] at hJ ⊢; exact hJ)
  refine x_iadd (pc := 106) dLr_tellWord_106 ?_
  refine x_putI (pc := 107) dLr_tellWord_107 kv1 flLr_74 rfl rfl ?_
  exact x_retQV (pc := 110) dLr_tellWord_110 rfl h

theorem dLr_tellSaying_0 : decode (mB mLr_tellSaying) 0 = .ok (.aload_n 1, 1) := op43 (by decide +kernel)
theorem dLr_tellSaying_1 : decode (mB mLr_tellSaying) 1 = .ok (.getfield 100, 3) := op180 0 100 (by decide +kernel)
theorem dLr_tellSaying_4 : decode (mB mLr_tellSaying) 4 = .ok (.iconst 1, 1) := op4 (by decide +kernel)
theorem dLr_tellSaying_5 : decode (mB mLr_tellSaying) 5 = .ok (.if_icmp .eq 19, 3) := op159 0 19 (by decide +kernel)
theorem dLr_tellSaying_8 : decode (mB mLr_tellSaying) 8 = .ok (.aload_n 1, 1) := op43 (by decide +kernel)
theorem dLr_tellSaying_9 : decode (mB mLr_tellSaying) 9 = .ok (.getfield 100, 3) := op180 0 100 (by decide +kernel)
theorem dLr_tellSaying_12 : decode (mB mLr_tellSaying) 12 = .ok (.iconst 2, 1) := op5 (by decide +kernel)
theorem dLr_tellSaying_13 : decode (mB mLr_tellSaying) 13 = .ok (.if_icmp .eq 11, 3) := op159 0 11 (by decide +kernel)
theorem dLr_tellSaying_16 : decode (mB mLr_tellSaying) 16 = .ok (.aload_n 1, 1) := op43 (by decide +kernel)
theorem dLr_tellSaying_17 : decode (mB mLr_tellSaying) 17 = .ok (.getfield 100, 3) := op180 0 100 (by decide +kernel)
theorem dLr_tellSaying_20 : decode (mB mLr_tellSaying) 20 = .ok (.iconst 3, 1) := op6 (by decide +kernel)
theorem dLr_tellSaying_21 : decode (mB mLr_tellSaying) 21 = .ok (.if_icmp .ne 28, 3) := op160 0 28 (by decide +kernel)
theorem dLr_tellSaying_24 : decode (mB mLr_tellSaying) 24 = .ok (.aload_n 1, 1) := op43 (by decide +kernel)
theorem dLr_tellSaying_25 : decode (mB mLr_tellSaying) 25 = .ok (.aload_n 0, 1) := op42 (by decide +kernel)
theorem dLr_tellSaying_26 : decode (mB mLr_tellSaying) 26 = .ok (.getfield 9, 3) := op180 0 9 (by decide +kernel)
theorem dLr_tellSaying_29 : decode (mB mLr_tellSaying) 29 = .ok (.bipush 23, 2) := op16 23 (by decide +kernel)
theorem dLr_tellSaying_31 : decode (mB mLr_tellSaying) 31 = .ok (.invokevirtual 52, 3) := op182 0 52 (by decide +kernel)
theorem dLr_tellSaying_34 : decode (mB mLr_tellSaying) 34 = .ok (.putfield 101, 3) := op181 0 101 (by decide +kernel)
theorem dLr_tellSaying_37 : decode (mB mLr_tellSaying) 37 = .ok (.aload_n 1, 1) := op43 (by decide +kernel)
theorem dLr_tellSaying_38 : decode (mB mLr_tellSaying) 38 = .ok (.aload_n 0, 1) := op42 (by decide +kernel)
theorem dLr_tellSaying_39 : decode (mB mLr_tellSaying) 39 = .ok (.getfield 9, 3) := op180 0 9 (by decide +kernel)
theorem dLr_tellSaying_42 : decode (mB mLr_tellSaying) 42 = .ok (.getfield 104, 3) := op180 0 104 (by decide +kernel)
theorem dLr_tellSaying_45 : decode (mB mLr_tellSaying) 45 = .ok (.putfield 107, 3) := op181 0 107 (by decide +kernel)
theorem dLr_tellSaying_48 : decode (mB mLr_tellSaying) 48 = .ok (.return_, 1) := op177 (by decide +kernel)
theorem dLr_tellSaying_49 : decode (mB mLr_tellSaying) 49 = .ok (.aload_n 1, 1) := op43 (by decide +kernel)
theorem dLr_tellSaying_50 : decode (mB mLr_tellSaying) 50 = .ok (.aload_n 0, 1) := op42 (by decide +kernel)
theorem dLr_tellSaying_51 : decode (mB mLr_tellSaying) 51 = .ok (.getfield 9, 3) := op180 0 9 (by decide +kernel)
theorem dLr_tellSaying_54 : decode (mB mLr_tellSaying) 54 = .ok (.invokevirtual 110, 3) := op182 0 110 (by decide +kernel)
theorem dLr_tellSaying_57 : decode (mB mLr_tellSaying) 57 = .ok (.putfield 113, 3) := op181 0 113 (by decide +kernel)
theorem dLr_tellSaying_60 : decode (mB mLr_tellSaying) 60 = .ok (.aload_n 1, 1) := op43 (by decide +kernel)
theorem dLr_tellSaying_61 : decode (mB mLr_tellSaying) 61 = .ok (.getfield 100, 3) := op180 0 100 (by decide +kernel)
theorem dLr_tellSaying_64 : decode (mB mLr_tellSaying) 64 = .ok (.iconst 4, 1) := op7 (by decide +kernel)
theorem dLr_tellSaying_65 : decode (mB mLr_tellSaying) 65 = .ok (.if_icmp .eq 13, 3) := op159 0 13 (by decide +kernel)
theorem dLr_tellSaying_68 : decode (mB mLr_tellSaying) 68 = .ok (.aload_n 0, 1) := op42 (by decide +kernel)
theorem dLr_tellSaying_69 : decode (mB mLr_tellSaying) 69 = .ok (.getfield 9, 3) := op180 0 9 (by decide +kernel)
theorem dLr_tellSaying_72 : decode (mB mLr_tellSaying) 72 = .ok (.getfield 32, 3) := op180 0 32 (by decide +kernel)
theorem dLr_tellSaying_75 : decode (mB mLr_tellSaying) 75 = .ok (.ifCond .eq 4, 3) := op153 0 4 (by decide +kernel)
theorem dLr_tellSaying_78 : decode (mB mLr_tellSaying) 78 = .ok (.return_, 1) := op177 (by decide +kernel)
theorem dLr_tellSaying_79 : decode (mB mLr_tellSaying) 79 = .ok (.aload_n 1, 1) := op43 (by decide +kernel)
theorem dLr_tellSaying_80 : decode (mB mLr_tellSaying) 80 = .ok (.aload_n 0, 1) := op42 (by decide +kernel)
theorem dLr_tellSaying_81 : decode (mB mLr_tellSaying) 81 = .ok (.getfield 9, 3) := op180 0 9 (by decide +kernel)
theorem dLr_tellSaying_84 : decode (mB mLr_tellSaying) 84 = .ok (.invokevirtual 110, 3) := op182 0 110 (by decide +kernel)
theorem dLr_tellSaying_87 : decode (mB mLr_tellSaying) 87 = .ok (.putfield 116, 3) := op181 0 116 (by decide +kernel)
theorem dLr_tellSaying_90 : decode (mB mLr_tellSaying) 90 = .ok (.aload_n 0, 1) := op42 (by decide +kernel)
theorem dLr_tellSaying_91 : decode (mB mLr_tellSaying) 91 = .ok (.getfield 9, 3) := op180 0 9 (by decide +kernel)
theorem dLr_tellSaying_94 : decode (mB mLr_tellSaying) 94 = .ok (.getfield 32, 3) := op180 0 32 (by decide +kernel)
theorem dLr_tellSaying_97 : decode (mB mLr_tellSaying) 97 = .ok (.ifCond .ne 24, 3) := op154 0 24 (by decide +kernel)
theorem dLr_tellSaying_100 : decode (mB mLr_tellSaying) 100 = .ok (.aload_n 1, 1) := op43 (by decide +kernel)
theorem dLr_tellSaying_101 : decode (mB mLr_tellSaying) 101 = .ok (.getfield 113, 3) := op180 0 113 (by decide +kernel)
theorem dLr_tellSaying_104 : decode (mB mLr_tellSaying) 104 = .ok (.aload_n 1, 1) := op43 (by decide +kernel)
theorem dLr_tellSaying_105 : decode (mB mLr_tellSaying) 105 = .ok (.getfield 116, 3) := op180 0 116 (by decide +kernel)
theorem dLr_tellSaying_108 : decode (mB mLr_tellSaying) 108 = .ok (.iand, 1) := op126 (by decide +kernel)
theorem dLr_tellSaying_109 : decode (mB mLr_tellSaying) 109 = .ok (.ifCond .eq 12, 3) := op153 0 12 (by decide +kernel)
theorem dLr_tellSaying_112 : decode (mB mLr_tellSaying) 112 = .ok (.aload_n 0, 1) := op42 (by decide +kernel)
theorem dLr_tellSaying_113 : decode (mB mLr_tellSaying) 113 = .ok (.getfield 9, 3) := op180 0 9 (by decide +kernel)
theorem dLr_tellSaying_116 : decode (mB mLr_tellSaying) 116 = .ok (.iconst 4, 1) := op7 (by decide +kernel)
theorem dLr_tellSaying_117 : decode (mB mLr_tellSaying) 117 = .ok (.invokevirtual 44, 3) := op182 0 44 (by decide +kernel)
theorem dLr_tellSaying_120 : decode (mB mLr_tellSaying) 120 = .ok (.pop, 1) := op87 (by decide +kernel)
theorem dLr_tellSaying_121 : decode (mB mLr_tellSaying) 121 = .ok (.aload_n 0, 1) := op42 (by decide +kernel)
theorem dLr_tellSaying_122 : decode (mB mLr_tellSaying) 122 = .ok (.getfield 9, 3) := op180 0 9 (by decide +kernel)
theorem dLr_tellSaying_125 : decode (mB mLr_tellSaying) 125 = .ok (.getfield 32, 3) := op180 0 32 (by decide +kernel)
theorem dLr_tellSaying_128 : decode (mB mLr_tellSaying) 128 = .ok (.ifCond .ne 14, 3) := op154 0 14 (by decide +kernel)
theorem dLr_tellSaying_131 : decode (mB mLr_tellSaying) 131 = .ok (.aload_n 1, 1) := op43 (by decide +kernel)
theorem dLr_tellSaying_132 : decode (mB mLr_tellSaying) 132 = .ok (.aload_n 0, 1) := op42 (by decide +kernel)
theorem dLr_tellSaying_133 : decode (mB mLr_tellSaying) 133 = .ok (.getfield 9, 3) := op180 0 9 (by decide +kernel)
theorem dLr_tellSaying_136 : decode (mB mLr_tellSaying) 136 = .ok (.invokevirtual 119, 3) := op182 0 119 (by decide +kernel)
theorem dLr_tellSaying_139 : decode (mB mLr_tellSaying) 139 = .ok (.putfield 122, 3) := op181 0 122 (by decide +kernel)
theorem dLr_tellSaying_142 : decode (mB mLr_tellSaying) 142 = .ok (.return_, 1) := op177 (by decide +kernel)

theorem vLr_tellSaying_0 {M : Mm} {b : Nat × Nat} {K : Mm → Prop} {v0 : Nat} {v1 : Nat} {r1 : Nat} (kv1 : v1 % 64 = 9) (kv0 : v0 % 64 = 2) (e1 : gr M v0 0 = some r1)
    (h : ((((gi M v1 0) = 1) ∨ (¬ (gi M v1 0) = 1 ∧ (gi M v1 0) = 2) ∨ (¬ (gi M v1 0) = 1 ∧ ¬ (gi M v1 0) = 2 ∧ (gi M v1 0) = 3)) → (CI mTo_takeNumber [.ref r1, .int 23] M (fun rv N => X mLr_tellSaying 34 [(0, .ref v0), (1, .ref v1)] [.int rv, .ref v1] N b (QV K)))) ∧ ((¬ (gi M v1 0) = 1 ∧ ¬ (gi M v1 0) = 2 ∧ ¬ (gi M v1 0) = 3) → (CI mTo_takeMarks [.ref r1] M (fun rv N => X mLr_tellSaying 57 [(0, .ref v0), (1, .ref v1)] [.int rv, .ref v1] N b (QV K))))) : X mLr_tellSaying 0 [(0, .ref v0), (1, .ref v1)] [] M b (QV K) := by
  refine x_wf (fun hw => ?_)
  refine x_aload_n (pc := 0) dLr_tellSaying_0 rfl (q := 1) rfl ?_
  refine x_getI (pc := 1) dLr_tellSaying_1 kv1 flLr_100 rfl ?_
  refine x_iconst (pc := 4) dLr_tellSaying_4 (v := 1) rfl ?_
  obtain ⟨g1_0, g1_1⟩ := h
  have g1_k0 : ((gi M v1 0) = 1) ∨ (¬ (gi M v1 0) = 1 ∧ (gi M v1 0) = 2) ∨ (¬ (gi M v1 0) = 1 ∧ ¬ (gi M v1 0) = 2 ∧ (gi M v1 0) = 3) → X mLr_tellSaying 24 [(0, .ref v0), (1, .ref v1)] [] M b (QV K) := fun q => by
    have h := g1_0 q
    refine x_aload_n (pc := 24) dLr_tellSaying_24 rfl (q := 1) rfl ?_
    refine x_aload_n (pc := 25) dLr_tellSaying_25 rfl (q := 0) rfl ?_
    refine x_getR (pc := 26) dLr_tellSaying_26 kv0 flLr_9 rfl e1 ?_
    refine x_bipush (pc := 29) dLr_tellSaying_29 (v := 23) rfl ?_
    exact x_invV (pc := 31) dLr_tellSaying_31 (c := 7) (S := [.ref v1]) (As := [.int 23]) mlLr_52 hTo_takeNumber rfl (by decide) rfl (wfk hw e1 kv0) ⟨by decide, by decide⟩ ⟨Nat.zero_le _, Nat.zero_le _⟩ rfl (Nat.le_of_ble_eq_true rfl) (aftI (b' := b) ⟨Nat.le_refl _, Nat.le_refl _⟩ (fun rv N h => h) h)
  refine x_icmp_eq (pc := 5) dLr_tellSaying_5 (t := 24) rfl (fun q1 => ?_) (fun q1 => ?_)
  · exact g1_k0 (Or.inl q1)
  · refine x_aload_n (pc := 8) dLr_tellSaying_8 rfl (q := 1) rfl ?_
    refine x_getI (pc := 9) dLr_tellSaying_9 kv1 flLr_100 rfl ?_
    refine x_iconst (pc := 12) dLr_tellSaying_12 (v := 2) rfl ?_
    refine x_icmp_eq (pc := 13) dLr_tellSaying_13 (t := 24) rfl (fun q2 => ?_) (fun q2 => ?_)
    · exact g1_k0 (Or.inr (Or.inl ⟨q1, q2⟩))
    · refine x_aload_n (pc := 16) dLr_tellSaying_16 rfl (q := 1) rfl ?_
      refine x_getI (pc := 17) dLr_tellSaying_17 kv1 flLr_100 rfl ?_
      refine x_iconst (pc := 20) dLr_tellSaying_20 (v := 3) rfl ?_
      refine x_icmp_ne (pc := 21) dLr_tellSaying_21 (t := 49) rfl (fun q3 => ?_) (fun q3 => ?_)
      · refine x_aload_n (pc := 49) dLr_tellSaying_49 rfl (q := 1) rfl ?_
        refine x_aload_n (pc := 50) dLr_tellSaying_50 rfl (q := 0) rfl ?_
        refine x_getR (pc := 51) dLr_tellSaying_51 kv0 flLr_9 rfl e1 ?_
        have h := g1_1 ⟨q1, q2, q3⟩
        exact x_invV (pc := 54) dLr_tellSaying_54 (c := 7) (S := [.ref v1]) (As := []) mlLr_110 hTo_takeMarks rfl (by decide) rfl (wfk hw e1 kv0) ⟨by decide, by decide⟩ ⟨Nat.zero_le _, Nat.zero_le _⟩ rfl (Nat.le_of_ble_eq_true rfl) (aftI (b' := b) ⟨Nat.le_refl _, Nat.le_refl _⟩ (fun rv N h => h) h)
      · exact g1_k0 (Or.inr (Or.inr ⟨q1, q2, q3⟩))

theorem vLr_tellSaying_34 {M : Mm} {b : Nat × Nat} {K : Mm → Prop} {v0 : Nat} {v1 : Nat} {w0 : Int32} {w1 : Nat} {r1 : Nat} (kw1 : w1 % 64 = 9) (kv0 : v0 % 64 = 2) (kv1 : v1 % 64 = 9) (e1 : gr M v0 0 = some r1)
    (h : K (si (si M w1 6 w0) v1 7 (gi (si M w1 6 w0) r1 2))) : X mLr_tellSaying 34 [(0, .ref v0), (1, .ref v1)] [.int w0, .ref w1] M b (QV K) := by
  refine x_wf (fun hw => ?_)
  refine x_putI (pc := 34) dLr_tellSaying_34 kw1 flLr_101 rfl rfl ?_
  refine x_aload_n (pc := 37) dLr_tellSaying_37 rfl (q := 1) rfl ?_
  refine x_aload_n (pc := 38) dLr_tellSaying_38 rfl (q := 0) rfl ?_
  refine x_getR (pc := 39) dLr_tellSaying_39 kv0 flLr_9 rfl e1 ?_
  refine x_getI (pc := 42) dLr_tellSaying_42 (wfk hw e1 kv0) flLr_104 rfl ?_
  refine x_putI (pc := 45) dLr_tellSaying_45 kv1 flLr_107 rfl rfl ?_
  exact x_retQV (pc := 48) dLr_tellSaying_48 rfl h

theorem vLr_tellSaying_57 {M : Mm} {b : Nat × Nat} {K : Mm → Prop} {v0 : Nat} {v1 : Nat} {w0 : Int32} {w1 : Nat} {r1 : Nat} (kw1 : w1 % 64 = 9) (kv1 : v1 % 64 = 9) (kv0 : v0 % 64 = 2) (e1 : gr M v0 0 = some r1)
    (h : ((((gi (si M w1 3 w0) v1 0) = 4) ∨ (¬ (gi (si M w1 3 w0) v1 0) = 4 ∧ ¬ (gi (si M w1 3 w0) r1 5) = 0)) → (K (si M w1 3 w0))) ∧ ((¬ (gi (si M w1 3 w0) v1 0) = 4 ∧ (gi (si M w1 3 w0) r1 5) = 0) → (CI mTo_takeMarks [.ref r1] (si M w1 3 w0) (fun rv N => X mLr_tellSaying 87 [(0, .ref v0), (1, .ref v1)] [.int rv, .ref v1] N b (QV K))))) : X mLr_tellSaying 57 [(0, .ref v0), (1, .ref v1)] [.int w0, .ref w1] M b (QV K) := by
  refine x_wf (fun hw => ?_)
  refine x_putI (pc := 57) dLr_tellSaying_57 kw1 flLr_113 rfl rfl ?_
  refine x_aload_n (pc := 60) dLr_tellSaying_60 rfl (q := 1) rfl ?_
  refine x_getI (pc := 61) dLr_tellSaying_61 kv1 flLr_100 rfl ?_
  refine x_iconst (pc := 64) dLr_tellSaying_64 (v := 4) rfl ?_
  obtain ⟨g1_0, g1_1⟩ := h
  have g1_k0 : ((gi (si M w1 3 w0) v1 0) = 4) ∨ (¬ (gi (si M w1 3 w0) v1 0) = 4 ∧ ¬ (gi (si M w1 3 w0) r1 5) = 0) → X mLr_tellSaying 78 [(0, .ref v0), (1, .ref v1)] [] (si M w1 3 w0) b (QV K) := fun q => by
    have h := g1_0 q
    exact x_retQV (pc := 78) dLr_tellSaying_78 rfl h
  refine x_icmp_eq (pc := 65) dLr_tellSaying_65 (t := 78) rfl (fun q1 => ?_) (fun q1 => ?_)
  · exact g1_k0 (Or.inl q1)
  · refine x_aload_n (pc := 68) dLr_tellSaying_68 rfl (q := 0) rfl ?_
    refine x_getR (pc := 69) dLr_tellSaying_69 kv0 flLr_9 rfl e1 ?_
    refine x_getI (pc := 72) dLr_tellSaying_72 (wfk hw e1 kv0) flLr_32 rfl ?_
    refine x_if_eq (pc := 75) dLr_tellSaying_75 (t := 79) rfl (fun q2 => ?_) (fun q2 => ?_)
    · refine x_aload_n (pc := 79) dLr_tellSaying_79 rfl (q := 1) rfl ?_
      refine x_aload_n (pc := 80) dLr_tellSaying_80 rfl (q := 0) rfl ?_
      refine x_getR (pc := 81) dLr_tellSaying_81 kv0 flLr_9 rfl e1 ?_
      have h := g1_1 ⟨q1, q2⟩
      exact x_invV (pc := 84) dLr_tellSaying_84 (c := 7) (S := [.ref v1]) (As := []) mlLr_110 hTo_takeMarks rfl (by decide) rfl (wfk hw e1 kv0) ⟨by decide, by decide⟩ ⟨Nat.zero_le _, Nat.zero_le _⟩ rfl (Nat.le_of_ble_eq_true rfl) (aftI (b' := b) ⟨Nat.le_refl _, Nat.le_refl _⟩ (fun rv N h => h) h)
    · exact g1_k0 (Or.inr ⟨q1, q2⟩)

theorem vLr_tellSaying_87 {M : Mm} {b : Nat × Nat} {K : Mm → Prop} {v0 : Nat} {v1 : Nat} {w0 : Int32} {w1 : Nat} {r1 : Nat} (kw1 : w1 % 64 = 9) (kv0 : v0 % 64 = 2) (kv1 : v1 % 64 = 9) (e1 : gr M v0 0 = some r1)
    (h : (((¬ (gi (si M w1 4 w0) r1 5) = 0) ∨ ((gi (si M w1 4 w0) r1 5) = 0 ∧ ((gi (si M w1 4 w0) v1 3) &&& (gi (si M w1 4 w0) v1 4)) = 0)) → (X mLr_tellSaying 121 [(0, .ref v0), (1, .ref v1)] [] (si M w1 4 w0) b (QV K))) ∧ (((gi (si M w1 4 w0) r1 5) = 0 ∧ ¬ ((gi (si M w1 4 w0) v1 3) &&& (gi (si M w1 4 w0) v1 4)) = 0) → (CI mTo_fail [.ref r1, .int 4] (si M w1 4 w0) (fun rv N => X mLr_tellSaying 120 [(0, .ref v0), (1, .ref v1)] [.int rv] N b (QV K))))) : X mLr_tellSaying 87 [(0, .ref v0), (1, .ref v1)] [.int w0, .ref w1] M b (QV K) := by
  refine x_wf (fun hw => ?_)
  refine x_putI (pc := 87) dLr_tellSaying_87 kw1 flLr_116 rfl rfl ?_
  refine x_aload_n (pc := 90) dLr_tellSaying_90 rfl (q := 0) rfl ?_
  refine x_getR (pc := 91) dLr_tellSaying_91 kv0 flLr_9 rfl e1 ?_
  refine x_getI (pc := 94) dLr_tellSaying_94 (wfk hw e1 kv0) flLr_32 rfl ?_
  obtain ⟨g1_0, g1_1⟩ := h
  have g1_k0 : (¬ (gi (si M w1 4 w0) r1 5) = 0) ∨ ((gi (si M w1 4 w0) r1 5) = 0 ∧ ((gi (si M w1 4 w0) v1 3) &&& (gi (si M w1 4 w0) v1 4)) = 0) → X mLr_tellSaying 121 [(0, .ref v0), (1, .ref v1)] [] (si M w1 4 w0) b (QV K) := fun q => by
    have h := g1_0 q
    exact h
  refine x_if_ne (pc := 97) dLr_tellSaying_97 (t := 121) rfl (fun q1 => ?_) (fun q1 => ?_)
  · exact g1_k0 (Or.inl q1)
  · refine x_aload_n (pc := 100) dLr_tellSaying_100 rfl (q := 1) rfl ?_
    refine x_getI (pc := 101) dLr_tellSaying_101 kv1 flLr_113 rfl ?_
    refine x_aload_n (pc := 104) dLr_tellSaying_104 rfl (q := 1) rfl ?_
    refine x_getI (pc := 105) dLr_tellSaying_105 kv1 flLr_116 rfl ?_
    refine x_iand (pc := 108) dLr_tellSaying_108 ?_
    refine x_if_eq (pc := 109) dLr_tellSaying_109 (t := 121) rfl (fun q2 => ?_) (fun q2 => ?_)
    · exact g1_k0 (Or.inr ⟨q1, q2⟩)
    · refine x_aload_n (pc := 112) dLr_tellSaying_112 rfl (q := 0) rfl ?_
      refine x_getR (pc := 113) dLr_tellSaying_113 kv0 flLr_9 rfl e1 ?_
      refine x_iconst (pc := 116) dLr_tellSaying_116 (v := 4) rfl ?_
      have h := g1_1 ⟨q1, q2⟩
      exact x_invV (pc := 117) dLr_tellSaying_117 (c := 7) (S := []) (As := [.int 4]) mlLr_44 hTo_fail rfl (by decide) rfl (wfk hw e1 kv0) ⟨by decide, by decide⟩ ⟨Nat.zero_le _, Nat.zero_le _⟩ rfl (Nat.le_of_ble_eq_true rfl) (aftI (b' := b) ⟨Nat.le_refl _, Nat.le_refl _⟩ (fun rv N h => h) h)

theorem vLr_tellSaying_120 {M : Mm} {b : Nat × Nat} {K : Mm → Prop} {v0 : Nat} {v1 : Nat} {w0 : Int32}  
    (h : X mLr_tellSaying 121 [(0, .ref v0), (1, .ref v1)] [] M b (QV K)) : X mLr_tellSaying 120 [(0, .ref v0), (1, .ref v1)] [.int w0] M b (QV K) := by
  refine x_wf (fun hw => ?_)
  refine x_pop (pc := 120) dLr_tellSaying_120 rfl ?_
  exact h

theorem vLr_tellSaying_121 {M : Mm} {b : Nat × Nat} {K : Mm → Prop} {v0 : Nat} {v1 : Nat} {r1 : Nat} (kv0 : v0 % 64 = 2) (e1 : gr M v0 0 = some r1)
    (h : (¬ (gi M r1 5) = 0 → (K M)) ∧ ((gi M r1 5) = 0 → (CI mTo_takeAnswer [.ref r1] M (fun rv N => X mLr_tellSaying 139 [] [.int rv, .ref v1] N b (QV K))))) : X mLr_tellSaying 121 [(0, .ref v0), (1, .ref v1)] [] M b (QV K) := by
  refine x_wf (fun hw => ?_)
  refine x_aload_n (pc := 121) dLr_tellSaying_121 rfl (q := 0) rfl ?_
  refine x_getR (pc := 122) dLr_tellSaying_122 kv0 flLr_9 rfl e1 ?_
  refine x_getI (pc := 125) dLr_tellSaying_125 (wfk hw e1 kv0) flLr_32 rfl ?_
  obtain ⟨g1_0, g1_1⟩ := h
  refine x_if_ne (pc := 128) dLr_tellSaying_128 (t := 142) rfl (fun q1 => ?_) (fun q1 => ?_)
  · have h := g1_0 q1
    exact x_retQV (pc := 142) dLr_tellSaying_142 rfl h
  · refine x_aload_n (pc := 131) dLr_tellSaying_131 rfl (q := 1) rfl ?_
    refine x_aload_n (pc := 132) dLr_tellSaying_132 rfl (q := 0) rfl ?_
    refine x_getR (pc := 133) dLr_tellSaying_133 kv0 flLr_9 rfl e1 ?_
    have h := g1_1 q1
    exact x_invV (pc := 136) dLr_tellSaying_136 (c := 7) (S := [.ref v1]) (As := []) mlLr_119 hTo_takeAnswer rfl (by decide) rfl (wfk hw e1 kv0) ⟨by decide, by decide⟩ ⟨Nat.zero_le _, Nat.zero_le _⟩ rfl (Nat.le_of_ble_eq_true rfl) (aftI (b' := b) ⟨Nat.le_refl _, Nat.le_refl _⟩ (fun rv N h => x_loc [] rfl h) h)

theorem vLr_tellSaying_139 {M : Mm} {b : Nat × Nat} {K : Mm → Prop} {w0 : Int32} {w1 : Nat} (kw1 : w1 % 64 = 9) 
    (h : K (si M w1 5 w0)) : X mLr_tellSaying 139 [] [.int w0, .ref w1] M b (QV K) := by
  refine x_wf (fun hw => ?_)
  refine x_putI (pc := 139) dLr_tellSaying_139 kw1 flLr_122 rfl rfl ?_
  exact x_retQV (pc := 142) dLr_tellSaying_142 rfl h

theorem dLr_tellCopies_0 : decode (mB mLr_tellCopies) 0 = .ok (.aload_n 0, 1) := op42 (by decide +kernel)
theorem dLr_tellCopies_1 : decode (mB mLr_tellCopies) 1 = .ok (.getfield 9, 3) := op180 0 9 (by decide +kernel)
theorem dLr_tellCopies_4 : decode (mB mLr_tellCopies) 4 = .ok (.bipush 7, 2) := op16 7 (by decide +kernel)
theorem dLr_tellCopies_6 : decode (mB mLr_tellCopies) 6 = .ok (.invokevirtual 52, 3) := op182 0 52 (by decide +kernel)
theorem dLr_tellCopies_9 : decode (mB mLr_tellCopies) 9 = .ok (.istore_n 3, 1) := op62 (by decide +kernel)
theorem dLr_tellCopies_10 : decode (mB mLr_tellCopies) 10 = .ok (.iload_n 3, 1) := op29 (by decide +kernel)
theorem dLr_tellCopies_11 : decode (mB mLr_tellCopies) 11 = .ok (.ifCond .lt 20, 3) := op155 0 20 (by decide +kernel)
theorem dLr_tellCopies_14 : decode (mB mLr_tellCopies) 14 = .ok (.iload_n 2, 1) := op28 (by decide +kernel)
theorem dLr_tellCopies_15 : decode (mB mLr_tellCopies) 15 = .ok (.iload_n 3, 1) := op29 (by decide +kernel)
theorem dLr_tellCopies_16 : decode (mB mLr_tellCopies) 16 = .ok (.invokestatic 66, 3) := op184 0 66 (by decide +kernel)
theorem dLr_tellCopies_19 : decode (mB mLr_tellCopies) 19 = .ok (.ifCond .eq 12, 3) := op153 0 12 (by decide +kernel)
theorem dLr_tellCopies_22 : decode (mB mLr_tellCopies) 22 = .ok (.aload_n 0, 1) := op42 (by decide +kernel)
theorem dLr_tellCopies_23 : decode (mB mLr_tellCopies) 23 = .ok (.getfield 9, 3) := op180 0 9 (by decide +kernel)
theorem dLr_tellCopies_26 : decode (mB mLr_tellCopies) 26 = .ok (.iconst 4, 1) := op7 (by decide +kernel)
theorem dLr_tellCopies_27 : decode (mB mLr_tellCopies) 27 = .ok (.invokevirtual 44, 3) := op182 0 44 (by decide +kernel)
theorem dLr_tellCopies_30 : decode (mB mLr_tellCopies) 30 = .ok (.pop, 1) := op87 (by decide +kernel)
theorem dLr_tellCopies_31 : decode (mB mLr_tellCopies) 31 = .ok (.aload_n 0, 1) := op42 (by decide +kernel)
theorem dLr_tellCopies_32 : decode (mB mLr_tellCopies) 32 = .ok (.getfield 9, 3) := op180 0 9 (by decide +kernel)
theorem dLr_tellCopies_35 : decode (mB mLr_tellCopies) 35 = .ok (.getfield 32, 3) := op180 0 32 (by decide +kernel)
theorem dLr_tellCopies_38 : decode (mB mLr_tellCopies) 38 = .ok (.ifCond .eq 5, 3) := op153 0 5 (by decide +kernel)
theorem dLr_tellCopies_41 : decode (mB mLr_tellCopies) 41 = .ok (.iconst 0, 1) := op3 (by decide +kernel)
theorem dLr_tellCopies_42 : decode (mB mLr_tellCopies) 42 = .ok (.ireturn, 1) := op172 (by decide +kernel)
theorem dLr_tellCopies_43 : decode (mB mLr_tellCopies) 43 = .ok (.aload_n 1, 1) := op43 (by decide +kernel)
theorem dLr_tellCopies_44 : decode (mB mLr_tellCopies) 44 = .ok (.getfield 70, 3) := op180 0 70 (by decide +kernel)
theorem dLr_tellCopies_47 : decode (mB mLr_tellCopies) 47 = .ok (.iload_n 3, 1) := op29 (by decide +kernel)
theorem dLr_tellCopies_48 : decode (mB mLr_tellCopies) 48 = .ok (.aload_n 0, 1) := op42 (by decide +kernel)
theorem dLr_tellCopies_49 : decode (mB mLr_tellCopies) 49 = .ok (.getfield 9, 3) := op180 0 9 (by decide +kernel)
theorem dLr_tellCopies_52 : decode (mB mLr_tellCopies) 52 = .ok (.bipush 9, 2) := op16 9 (by decide +kernel)
theorem dLr_tellCopies_54 : decode (mB mLr_tellCopies) 54 = .ok (.invokevirtual 52, 3) := op182 0 52 (by decide +kernel)
theorem dLr_tellCopies_57 : decode (mB mLr_tellCopies) 57 = .ok (.iastore, 1) := op79 (by decide +kernel)
theorem dLr_tellCopies_58 : decode (mB mLr_tellCopies) 58 = .ok (.iconst 1, 1) := op4 (by decide +kernel)
theorem dLr_tellCopies_59 : decode (mB mLr_tellCopies) 59 = .ok (.iload_n 3, 1) := op29 (by decide +kernel)
theorem dLr_tellCopies_60 : decode (mB mLr_tellCopies) 60 = .ok (.ishl, 1) := op120 (by decide +kernel)
theorem dLr_tellCopies_61 : decode (mB mLr_tellCopies) 61 = .ok (.ireturn, 1) := op172 (by decide +kernel)

theorem vLr_tellCopies_0 {M : Mm} {b : Nat × Nat} {K : Int32 → Mm → Prop} {v0 : Nat} {v1 : Nat} {v2 : Int32} {r1 : Nat} (kv0 : v0 % 64 = 2) (e1 : gr M v0 0 = some r1)
    (h : CI mTo_takeNumber [.ref r1, .int 7] M (fun rv N => X mLr_tellCopies 9 [(0, .ref v0), (1, .ref v1), (2, .int v2)] [.int rv] N b (QI K))) : X mLr_tellCopies 0 [(0, .ref v0), (1, .ref v1), (2, .int v2)] [] M b (QI K) := by
  refine x_wf (fun hw => ?_)
  refine x_aload_n (pc := 0) dLr_tellCopies_0 rfl (q := 0) rfl ?_
  refine x_getR (pc := 1) dLr_tellCopies_1 kv0 flLr_9 rfl e1 ?_
  refine x_bipush (pc := 4) dLr_tellCopies_4 (v := 7) rfl ?_
  exact x_invV (pc := 6) dLr_tellCopies_6 (c := 7) (S := []) (As := [.int 7]) mlLr_52 hTo_takeNumber rfl (by decide) rfl (wfk hw e1 kv0) ⟨by decide, by decide⟩ ⟨Nat.zero_le _, Nat.zero_le _⟩ rfl (Nat.le_of_ble_eq_true rfl) (aftI (b' := b) ⟨Nat.le_refl _, Nat.le_refl _⟩ (fun rv N h => h) h)

theorem vLr_tellCopies_9 {M : Mm} {b : Nat × Nat} {K : Int32 → Mm → Prop} {v0 : Nat} {v1 : Nat} {v2 : Int32} {w0 : Int32}  
    (h : (w0 < 0 → (X mLr_tellCopies 31 [(0, .ref v0), (1, .ref v1), (3, .int w0)] [] M b (QI K))) ∧ (¬ w0 < 0 → (CI mC_holds [.int v2, .int w0] M (fun rv N => X mLr_tellCopies 19 [(0, .ref v0), (1, .ref v1), (3, .int w0)] [.int rv] N b (QI K))))) : X mLr_tellCopies 9 [(0, .ref v0), (1, .ref v1), (2, .int v2)] [.int w0] M b (QI K) := by
  refine x_wf (fun hw => ?_)
  refine x_istore_n (pc := 9) dLr_tellCopies_9 rfl (by decide) (L' := [(3, .int w0), (0, .ref v0), (1, .ref v1), (2, .int v2)]) rfl ?_
  refine x_iload_n (pc := 10) dLr_tellCopies_10 rfl (q := 0) rfl ?_
  obtain ⟨g1_0, g1_1⟩ := h
  refine x_if_lt (pc := 11) dLr_tellCopies_11 (t := 31) rfl (fun q1 => ?_) (fun q1 => ?_)
  · have h := g1_0 q1
    exact x_loc [1, 2, 0] rfl h
  · refine x_iload_n (pc := 14) dLr_tellCopies_14 rfl (q := 3) rfl ?_
    refine x_iload_n (pc := 15) dLr_tellCopies_15 rfl (q := 0) rfl ?_
    have h := g1_1 q1
    exact x_invSN (pc := 16) dLr_tellCopies_16 (S := []) (As := [.int v2, .int w0]) nlLr_66 hC_holds rfl ⟨by decide, by decide⟩ ⟨Nat.zero_le _, Nat.zero_le _⟩ rfl (Nat.le_of_ble_eq_true rfl) (aftI (b' := b) ⟨Nat.le_refl _, Nat.le_refl _⟩ (fun rv N h => x_loc [1, 2, 0] rfl h) h)

theorem vLr_tellCopies_19 {M : Mm} {b : Nat × Nat} {K : Int32 → Mm → Prop} {v0 : Nat} {v1 : Nat} {v3 : Int32} {w0 : Int32} {r1 : Nat} (kv0 : v0 % 64 = 2) (e1 : gr M v0 0 = some r1)
    (h : (w0 = 0 → (X mLr_tellCopies 31 [(0, .ref v0), (1, .ref v1), (3, .int v3)] [] M b (QI K))) ∧ (¬ w0 = 0 → (CI mTo_fail [.ref r1, .int 4] M (fun rv N => X mLr_tellCopies 30 [(0, .ref v0), (1, .ref v1), (3, .int v3)] [.int rv] N b (QI K))))) : X mLr_tellCopies 19 [(0, .ref v0), (1, .ref v1), (3, .int v3)] [.int w0] M b (QI K) := by
  refine x_wf (fun hw => ?_)
  obtain ⟨g1_0, g1_1⟩ := h
  refine x_if_eq (pc := 19) dLr_tellCopies_19 (t := 31) rfl (fun q1 => ?_) (fun q1 => ?_)
  · have h := g1_0 q1
    exact h
  · refine x_aload_n (pc := 22) dLr_tellCopies_22 rfl (q := 0) rfl ?_
    refine x_getR (pc := 23) dLr_tellCopies_23 kv0 flLr_9 rfl e1 ?_
    refine x_iconst (pc := 26) dLr_tellCopies_26 (v := 4) rfl ?_
    have h := g1_1 q1
    exact x_invV (pc := 27) dLr_tellCopies_27 (c := 7) (S := []) (As := [.int 4]) mlLr_44 hTo_fail rfl (by decide) rfl (wfk hw e1 kv0) ⟨by decide, by decide⟩ ⟨Nat.zero_le _, Nat.zero_le _⟩ rfl (Nat.le_of_ble_eq_true rfl) (aftI (b' := b) ⟨Nat.le_refl _, Nat.le_refl _⟩ (fun rv N h => h) h)

theorem vLr_tellCopies_30 {M : Mm} {b : Nat × Nat} {K : Int32 → Mm → Prop} {v0 : Nat} {v1 : Nat} {v3 : Int32} {w0 : Int32}  
    (h : X mLr_tellCopies 31 [(0, .ref v0), (1, .ref v1), (3, .int v3)] [] M b (QI K)) : X mLr_tellCopies 30 [(0, .ref v0), (1, .ref v1), (3, .int v3)] [.int w0] M b (QI K) := by
  refine x_wf (fun hw => ?_)
  refine x_pop (pc := 30) dLr_tellCopies_30 rfl ?_
  exact h

theorem vLr_tellCopies_31 {M : Mm} {b : Nat × Nat} {K : Int32 → Mm → Prop} {v0 : Nat} {v1 : Nat} {v3 : Int32} {r1 : Nat} {r2 : Nat} (kv0 : v0 % 64 = 2) (kv1 : v1 % 64 = 1) (e1 : gr M v0 0 = some r1) (e2 : gr M v1 2 = some r2)
    (h : ((gi M r1 5) = 0 → (CI mTo_takeNumber [.ref r1, .int 9] M (fun rv N => X mLr_tellCopies 57 [(3, .int v3)] [.int rv, .int v3, .ref r2] N b (QI K)))) ∧ (¬ (gi M r1 5) = 0 → (K 0 M))) : X mLr_tellCopies 31 [(0, .ref v0), (1, .ref v1), (3, .int v3)] [] M b (QI K) := by
  refine x_wf (fun hw => ?_)
  refine x_aload_n (pc := 31) dLr_tellCopies_31 rfl (q := 0) rfl ?_
  refine x_getR (pc := 32) dLr_tellCopies_32 kv0 flLr_9 rfl e1 ?_
  refine x_getI (pc := 35) dLr_tellCopies_35 (wfk hw e1 kv0) flLr_32 rfl ?_
  obtain ⟨g1_0, g1_1⟩ := h
  refine x_if_eq (pc := 38) dLr_tellCopies_38 (t := 43) rfl (fun q1 => ?_) (fun q1 => ?_)
  · refine x_aload_n (pc := 43) dLr_tellCopies_43 rfl (q := 1) rfl ?_
    refine x_getR (pc := 44) dLr_tellCopies_44 kv1 flLr_70 rfl e2 ?_
    refine x_iload_n (pc := 47) dLr_tellCopies_47 rfl (q := 2) rfl ?_
    refine x_aload_n (pc := 48) dLr_tellCopies_48 rfl (q := 0) rfl ?_
    refine x_getR (pc := 49) dLr_tellCopies_49 kv0 flLr_9 rfl e1 ?_
    refine x_bipush (pc := 52) dLr_tellCopies_52 (v := 9) rfl ?_
    have h := g1_0 q1
    exact x_invV (pc := 54) dLr_tellCopies_54 (c := 7) (S := [.int v3, .ref r2]) (As := [.int 9]) mlLr_52 hTo_takeNumber rfl (by decide) rfl (wfk hw e1 kv0) ⟨by decide, by decide⟩ ⟨Nat.zero_le _, Nat.zero_le _⟩ rfl (Nat.le_of_ble_eq_true rfl) (aftI (b' := b) ⟨Nat.le_refl _, Nat.le_refl _⟩ (fun rv N h => x_loc [2] rfl h) h)
  · refine x_iconst (pc := 41) dLr_tellCopies_41 (v := 0) rfl ?_
    have h := g1_1 q1
    exact x_retQI (pc := 42) dLr_tellCopies_42 rfl rfl h

theorem vLr_tellCopies_57 {M : Mm} {b : Nat × Nat} {K : Int32 → Mm → Prop} {v3 : Int32} {w0 : Int32} {w1 : Int32} {w2 : Nat} (kw2 : w2 % 64 = 13) 
    (h : vp_in w1 8 ∧ (K ((1 : Int32) <<< (v3 &&& 31)) (si M w2 (w1).toNatClampNeg w0))) : X mLr_tellCopies 57 [(3, .int v3)] [.int w0, .int w1, .ref w2] M b (QI K) := by
  refine x_wf (fun hw => ?_)
  obtain ⟨s501, h⟩ := h
  refine x_astIj (pc := 57) (j := (w1).toNatClampNeg) (v := w0) (Or.inl ⟨rfl, rfl, rfl⟩) dLr_tellCopies_57 kw2 ak_13 rfl s501 ?_
  refine x_iconst (pc := 58) dLr_tellCopies_58 (v := 1) rfl ?_
  refine x_iload_n (pc := 59) dLr_tellCopies_59 rfl (q := 0) rfl ?_
  refine x_ishl (pc := 60) dLr_tellCopies_60 ?_
  exact x_retQI (pc := 61) dLr_tellCopies_61 rfl rfl h

theorem dLr_findWrongFollowers_0 : decode (mB mLr_findWrongFollowers) 0 = .ok (.iconst 0, 1) := op3 (by decide +kernel)
theorem dLr_findWrongFollowers_1 : decode (mB mLr_findWrongFollowers) 1 = .ok (.istore_n 2, 1) := op61 (by decide +kernel)
theorem dLr_findWrongFollowers_2 : decode (mB mLr_findWrongFollowers) 2 = .ok (.iload_n 2, 1) := op28 (by decide +kernel)
theorem dLr_findWrongFollowers_3 : decode (mB mLr_findWrongFollowers) 3 = .ok (.aload_n 1, 1) := op43 (by decide +kernel)
theorem dLr_findWrongFollowers_4 : decode (mB mLr_findWrongFollowers) 4 = .ok (.getfield 74, 3) := op180 0 74 (by decide +kernel)
theorem dLr_findWrongFollowers_7 : decode (mB mLr_findWrongFollowers) 7 = .ok (.if_icmp .ge 58, 3) := op162 0 58 (by decide +kernel)
theorem dLr_findWrongFollowers_10 : decode (mB mLr_findWrongFollowers) 10 = .ok (.aload_n 0, 1) := op42 (by decide +kernel)
theorem dLr_findWrongFollowers_11 : decode (mB mLr_findWrongFollowers) 11 = .ok (.getfield 9, 3) := op180 0 9 (by decide +kernel)
theorem dLr_findWrongFollowers_14 : decode (mB mLr_findWrongFollowers) 14 = .ok (.getfield 32, 3) := op180 0 32 (by decide +kernel)
theorem dLr_findWrongFollowers_17 : decode (mB mLr_findWrongFollowers) 17 = .ok (.ifCond .ne 48, 3) := op154 0 48 (by decide +kernel)
theorem dLr_findWrongFollowers_20 : decode (mB mLr_findWrongFollowers) 20 = .ok (.aload_n 1, 1) := op43 (by decide +kernel)
theorem dLr_findWrongFollowers_21 : decode (mB mLr_findWrongFollowers) 21 = .ok (.getfield 77, 3) := op180 0 77 (by decide +kernel)
theorem dLr_findWrongFollowers_24 : decode (mB mLr_findWrongFollowers) 24 = .ok (.iload_n 2, 1) := op28 (by decide +kernel)
theorem dLr_findWrongFollowers_25 : decode (mB mLr_findWrongFollowers) 25 = .ok (.aaload, 1) := op50 (by decide +kernel)
theorem dLr_findWrongFollowers_26 : decode (mB mLr_findWrongFollowers) 26 = .ok (.getfield 101, 3) := op180 0 101 (by decide +kernel)
theorem dLr_findWrongFollowers_29 : decode (mB mLr_findWrongFollowers) 29 = .ok (.ifCond .lt 30, 3) := op155 0 30 (by decide +kernel)
theorem dLr_findWrongFollowers_32 : decode (mB mLr_findWrongFollowers) 32 = .ok (.aload_n 1, 1) := op43 (by decide +kernel)
theorem dLr_findWrongFollowers_33 : decode (mB mLr_findWrongFollowers) 33 = .ok (.iload_n 2, 1) := op28 (by decide +kernel)
theorem dLr_findWrongFollowers_34 : decode (mB mLr_findWrongFollowers) 34 = .ok (.invokevirtual 125, 3) := op182 0 125 (by decide +kernel)
theorem dLr_findWrongFollowers_37 : decode (mB mLr_findWrongFollowers) 37 = .ok (.ifCond .ne 22, 3) := op154 0 22 (by decide +kernel)
theorem dLr_findWrongFollowers_40 : decode (mB mLr_findWrongFollowers) 40 = .ok (.aload_n 0, 1) := op42 (by decide +kernel)
theorem dLr_findWrongFollowers_41 : decode (mB mLr_findWrongFollowers) 41 = .ok (.getfield 9, 3) := op180 0 9 (by decide +kernel)
theorem dLr_findWrongFollowers_44 : decode (mB mLr_findWrongFollowers) 44 = .ok (.bipush 6, 2) := op16 6 (by decide +kernel)
theorem dLr_findWrongFollowers_46 : decode (mB mLr_findWrongFollowers) 46 = .ok (.aload_n 1, 1) := op43 (by decide +kernel)
theorem dLr_findWrongFollowers_47 : decode (mB mLr_findWrongFollowers) 47 = .ok (.getfield 77, 3) := op180 0 77 (by decide +kernel)
theorem dLr_findWrongFollowers_50 : decode (mB mLr_findWrongFollowers) 50 = .ok (.iload_n 2, 1) := op28 (by decide +kernel)
theorem dLr_findWrongFollowers_51 : decode (mB mLr_findWrongFollowers) 51 = .ok (.aaload, 1) := op50 (by decide +kernel)
theorem dLr_findWrongFollowers_52 : decode (mB mLr_findWrongFollowers) 52 = .ok (.getfield 107, 3) := op180 0 107 (by decide +kernel)
theorem dLr_findWrongFollowers_55 : decode (mB mLr_findWrongFollowers) 55 = .ok (.invokevirtual 129, 3) := op182 0 129 (by decide +kernel)
theorem dLr_findWrongFollowers_58 : decode (mB mLr_findWrongFollowers) 58 = .ok (.pop, 1) := op87 (by decide +kernel)
theorem dLr_findWrongFollowers_59 : decode (mB mLr_findWrongFollowers) 59 = .ok (.iinc 2 1, 3) := op132 2 1 (by decide +kernel)
theorem dLr_findWrongFollowers_62 : decode (mB mLr_findWrongFollowers) 62 = .ok (.goto (-60), 3) := op167 255 196 (by decide +kernel)
theorem dLr_findWrongFollowers_65 : decode (mB mLr_findWrongFollowers) 65 = .ok (.return_, 1) := op177 (by decide +kernel)

theorem vLr_findWrongFollowers_0 {M : Mm} {b : Nat × Nat} {K : Mm → Prop} {v0 : Nat} {v1 : Nat}  
    (h : X mLr_findWrongFollowers 2 [(0, .ref v0), (1, .ref v1), (2, .int 0)] [] M b (QV K)) : X mLr_findWrongFollowers 0 [(0, .ref v0), (1, .ref v1)] [] M b (QV K) := by
  refine x_wf (fun hw => ?_)
  refine x_iconst (pc := 0) dLr_findWrongFollowers_0 (v := 0) rfl ?_
  refine x_istore_n (pc := 1) dLr_findWrongFollowers_1 rfl (by decide) (L' := [(2, .int 0), (0, .ref v0), (1, .ref v1)]) rfl ?_
  exact x_loc [1, 2, 0] rfl h

theorem vLr_findWrongFollowers_2 {M : Mm} {b : Nat × Nat} {K : Mm → Prop} {v0 : Nat} {v1 : Nat} {v2 : Int32} {r1 : Nat} {r2 : Nat} (kv1 : v1 % 64 = 1) (kv0 : v0 % 64 = 2) (e1 : gr M v0 0 = some r1) (e2 : gr M v1 0 = some r2)
    (h : ((((gi M v1 1) ≤ v2) ∨ (¬ (gi M v1 1) ≤ v2 ∧ ¬ (gi M r1 5) = 0)) → (K M)) ∧ ((¬ (gi M v1 1) ≤ v2 ∧ (gi M r1 5) = 0) → (vp_in v2 24 ∧ (∃ r3 : Nat, gr M r2 (v2).toNatClampNeg = some r3 ∧ (((gi M r3 6) < 0 → (X mLr_findWrongFollowers 2 [(0, .ref v0), (1, .ref v1), (2, .int (v2 + 1))] [] M b (QV K))) ∧ (¬ (gi M r3 6) < 0 → (CI mLi_mayFollow [.ref v1, .int v2] M (fun rv N => X mLr_findWrongFollowers 37 [(0, .ref v0), (1, .ref v1), (2, .int v2)] [.int rv] N b (QV K))))))))) : X mLr_findWrongFollowers 2 [(0, .ref v0), (1, .ref v1), (2, .int v2)] [] M b (QV K) := by
  refine x_wf (fun hw => ?_)
  refine x_iload_n (pc := 2) dLr_findWrongFollowers_2 rfl (q := 2) rfl ?_
  refine x_aload_n (pc := 3) dLr_findWrongFollowers_3 rfl (q := 1) rfl ?_
  refine x_getI (pc := 4) dLr_findWrongFollowers_4 kv1 flLr_74 rfl ?_
  obtain ⟨g1_0, g1_1⟩ := h
  have g1_k0 : ((gi M v1 1) ≤ v2) ∨ (¬ (gi M v1 1) ≤ v2 ∧ ¬ (gi M r1 5) = 0) → X mLr_findWrongFollowers 65 [(0, .ref v0), (1, .ref v1), (2, .int v2)] [] M b (QV K) := fun q => by
    have h := g1_0 q
    exact x_retQV (pc := 65) dLr_findWrongFollowers_65 rfl h
  refine x_icmp_ge (pc := 7) dLr_findWrongFollowers_7 (t := 65) rfl (fun q1 => ?_) (fun q1 => ?_)
  · exact g1_k0 (Or.inl q1)
  · refine x_aload_n (pc := 10) dLr_findWrongFollowers_10 rfl (q := 0) rfl ?_
    refine x_getR (pc := 11) dLr_findWrongFollowers_11 kv0 flLr_9 rfl e1 ?_
    refine x_getI (pc := 14) dLr_findWrongFollowers_14 (wfk hw e1 kv0) flLr_32 rfl ?_
    refine x_if_ne (pc := 17) dLr_findWrongFollowers_17 (t := 65) rfl (fun q2 => ?_) (fun q2 => ?_)
    · exact g1_k0 (Or.inr ⟨q1, q2⟩)
    · refine x_aload_n (pc := 20) dLr_findWrongFollowers_20 rfl (q := 1) rfl ?_
      refine x_getR (pc := 21) dLr_findWrongFollowers_21 kv1 flLr_77 rfl e2 ?_
      refine x_iload_n (pc := 24) dLr_findWrongFollowers_24 rfl (q := 2) rfl ?_
      have h := g1_1 ⟨q1, q2⟩
      obtain ⟨s501, h⟩ := h
      obtain ⟨r3, s502, h⟩ := h
      refine x_aldR (pc := 25) (Or.inl rfl) dLr_findWrongFollowers_25 (wfk hw e2 kv1) ak_18 s501 s502 ?_
      refine x_getI (pc := 26) dLr_findWrongFollowers_26 (wfk hw s502 (wfk hw e2 kv1)) flLr_101 rfl ?_
      obtain ⟨g2_0, g2_1⟩ := h
      refine x_if_lt (pc := 29) dLr_findWrongFollowers_29 (t := 59) rfl (fun q3 => ?_) (fun q3 => ?_)
      · have h := g2_0 q3
        refine x_iinc (pc := 59) dLr_findWrongFollowers_59 (q := 2) rfl (v := v2 + 1) rfl (by decide) (L' := [(2, .int (v2 + 1)), (0, .ref v0), (1, .ref v1)]) rfl ?_
        refine x_goto (pc := 62) dLr_findWrongFollowers_62 (t := 2) rfl ?_
        exact x_loc [1, 2, 0] rfl h
      · refine x_aload_n (pc := 32) dLr_findWrongFollowers_32 rfl (q := 1) rfl ?_
        refine x_iload_n (pc := 33) dLr_findWrongFollowers_33 rfl (q := 2) rfl ?_
        have h := g2_1 q3
        exact x_invV (pc := 34) dLr_findWrongFollowers_34 (c := 1) (S := []) (As := [.int v2]) mlLr_125 hLi_mayFollow rfl (by decide) rfl kv1 ⟨by decide, by decide⟩ ⟨Nat.zero_le _, Nat.zero_le _⟩ rfl (Nat.le_of_ble_eq_true rfl) (aftI (b' := b) ⟨Nat.le_refl _, Nat.le_refl _⟩ (fun rv N h => h) h)

theorem vLr_findWrongFollowers_37 {M : Mm} {b : Nat × Nat} {K : Mm → Prop} {v0 : Nat} {v1 : Nat} {v2 : Int32} {w0 : Int32} {r1 : Nat} {r2 : Nat} (kv0 : v0 % 64 = 2) (kv1 : v1 % 64 = 1) (e1 : gr M v0 0 = some r1) (e2 : gr M v1 0 = some r2)
    (h : (¬ w0 = 0 → (X mLr_findWrongFollowers 2 [(0, .ref v0), (1, .ref v1), (2, .int (v2 + 1))] [] M b (QV K))) ∧ (w0 = 0 → (vp_in v2 24 ∧ (∃ r3 : Nat, gr M r2 (v2).toNatClampNeg = some r3 ∧ (CI mTo_failAt [.ref r1, .int 6, .int (gi M r3 7)] M (fun rv N => X mLr_findWrongFollowers 58 [(0, .ref v0), (1, .ref v1), (2, .int v2)] [.int rv] N b (QV K))))))) : X mLr_findWrongFollowers 37 [(0, .ref v0), (1, .ref v1), (2, .int v2)] [.int w0] M b (QV K) := by
  refine x_wf (fun hw => ?_)
  obtain ⟨g1_0, g1_1⟩ := h
  refine x_if_ne (pc := 37) dLr_findWrongFollowers_37 (t := 59) rfl (fun q1 => ?_) (fun q1 => ?_)
  · have h := g1_0 q1
    refine x_iinc (pc := 59) dLr_findWrongFollowers_59 (q := 2) rfl (v := v2 + 1) rfl (by decide) (L' := [(2, .int (v2 + 1)), (0, .ref v0), (1, .ref v1)]) rfl ?_
    refine x_goto (pc := 62) dLr_findWrongFollowers_62 (t := 2) rfl ?_
    exact x_loc [1, 2, 0] rfl h
  · refine x_aload_n (pc := 40) dLr_findWrongFollowers_40 rfl (q := 0) rfl ?_
    refine x_getR (pc := 41) dLr_findWrongFollowers_41 kv0 flLr_9 rfl e1 ?_
    refine x_bipush (pc := 44) dLr_findWrongFollowers_44 (v := 6) rfl ?_
    refine x_aload_n (pc := 46) dLr_findWrongFollowers_46 rfl (q := 1) rfl ?_
    refine x_getR (pc := 47) dLr_findWrongFollowers_47 kv1 flLr_77 rfl e2 ?_
    refine x_iload_n (pc := 50) dLr_findWrongFollowers_50 rfl (q := 2) rfl ?_
    have h := g1_1 q1
    obtain ⟨s501, h⟩ := h
    obtain ⟨r3, s502, h⟩ := h
    refine x_aldR (pc := 51) (Or.inl rfl) dLr_findWrongFollowers_51 (wfk hw e2 kv1) ak_18 s501 s502 ?_
    refine x_getI (pc := 52) dLr_findWrongFollowers_52 (wfk hw s502 (wfk hw e2 kv1)) flLr_107 rfl ?_
    exact x_invV (pc := 55) dLr_findWrongFollowers_55 (c := 7) (S := []) (As := [.int 6, .int (gi M r3 7)]) mlLr_129 hTo_failAt rfl (by decide) rfl (wfk hw e1 kv0) ⟨by decide, by decide⟩ ⟨Nat.zero_le _, Nat.zero_le _⟩ rfl (Nat.le_of_ble_eq_true rfl) (aftI (b' := b) ⟨Nat.le_refl _, Nat.le_refl _⟩ (fun rv N h => h) h)

theorem vLr_findWrongFollowers_58 {M : Mm} {b : Nat × Nat} {K : Mm → Prop} {v0 : Nat} {v1 : Nat} {v2 : Int32} {w0 : Int32}  
    (h : X mLr_findWrongFollowers 2 [(0, .ref v0), (1, .ref v1), (2, .int (v2 + 1))] [] M b (QV K)) : X mLr_findWrongFollowers 58 [(0, .ref v0), (1, .ref v1), (2, .int v2)] [.int w0] M b (QV K) := by
  refine x_wf (fun hw => ?_)
  refine x_pop (pc := 58) dLr_findWrongFollowers_58 rfl ?_
  refine x_iinc (pc := 59) dLr_findWrongFollowers_59 (q := 2) rfl (v := v2 + 1) rfl (by decide) (L' := [(2, .int (v2 + 1)), (0, .ref v0), (1, .ref v1)]) rfl ?_
  refine x_goto (pc := 62) dLr_findWrongFollowers_62 (t := 2) rfl ?_
  exact x_loc [1, 2, 0] rfl h

theorem dRr_readInto_0 : decode (mB mRr_readInto) 0 = .ok (.aload_n 1, 1) := op43 (by decide +kernel)
theorem dRr_readInto_1 : decode (mB mRr_readInto) 1 = .ok (.invokevirtual 15, 3) := op182 0 15 (by decide +kernel)
theorem dRr_readInto_4 : decode (mB mRr_readInto) 4 = .ok (.aload_n 0, 1) := op42 (by decide +kernel)
theorem dRr_readInto_5 : decode (mB mRr_readInto) 5 = .ok (.getfield 9, 3) := op180 0 9 (by decide +kernel)
theorem dRr_readInto_8 : decode (mB mRr_readInto) 8 = .ok (.invokevirtual 20, 3) := op182 0 20 (by decide +kernel)
theorem dRr_readInto_11 : decode (mB mRr_readInto) 11 = .ok (.iconst 0, 1) := op3 (by decide +kernel)
theorem dRr_readInto_12 : decode (mB mRr_readInto) 12 = .ok (.istore_n 2, 1) := op61 (by decide +kernel)
theorem dRr_readInto_13 : decode (mB mRr_readInto) 13 = .ok (.iconst 0, 1) := op3 (by decide +kernel)
theorem dRr_readInto_14 : decode (mB mRr_readInto) 14 = .ok (.istore_n 3, 1) := op62 (by decide +kernel)
theorem dRr_readInto_15 : decode (mB mRr_readInto) 15 = .ok (.aload_n 0, 1) := op42 (by decide +kernel)
theorem dRr_readInto_16 : decode (mB mRr_readInto) 16 = .ok (.getfield 9, 3) := op180 0 9 (by decide +kernel)
theorem dRr_readInto_19 : decode (mB mRr_readInto) 19 = .ok (.invokevirtual 25, 3) := op182 0 25 (by decide +kernel)
theorem dRr_readInto_22 : decode (mB mRr_readInto) 22 = .ok (.iload_n 3, 1) := op29 (by decide +kernel)
theorem dRr_readInto_23 : decode (mB mRr_readInto) 23 = .ok (.sipush 400, 3) := op17 1 144 (by decide +kernel)
theorem dRr_readInto_26 : decode (mB mRr_readInto) 26 = .ok (.if_icmp .ge 115, 3) := op162 0 115 (by decide +kernel)
theorem dRr_readInto_29 : decode (mB mRr_readInto) 29 = .ok (.aload_n 0, 1) := op42 (by decide +kernel)
theorem dRr_readInto_30 : decode (mB mRr_readInto) 30 = .ok (.getfield 9, 3) := op180 0 9 (by decide +kernel)
theorem dRr_readInto_33 : decode (mB mRr_readInto) 33 = .ok (.getfield 28, 3) := op180 0 28 (by decide +kernel)
theorem dRr_readInto_36 : decode (mB mRr_readInto) 36 = .ok (.ifCond .ne 105, 3) := op154 0 105 (by decide +kernel)
theorem dRr_readInto_39 : decode (mB mRr_readInto) 39 = .ok (.aload_n 0, 1) := op42 (by decide +kernel)
theorem dRr_readInto_40 : decode (mB mRr_readInto) 40 = .ok (.getfield 9, 3) := op180 0 9 (by decide +kernel)
theorem dRr_readInto_43 : decode (mB mRr_readInto) 43 = .ok (.getfield 32, 3) := op180 0 32 (by decide +kernel)
theorem dRr_readInto_46 : decode (mB mRr_readInto) 46 = .ok (.iconst 1, 1) := op4 (by decide +kernel)
theorem dRr_readInto_47 : decode (mB mRr_readInto) 47 = .ok (.if_icmp .eq 94, 3) := op159 0 94 (by decide +kernel)
theorem dRr_readInto_50 : decode (mB mRr_readInto) 50 = .ok (.aload_n 0, 1) := op42 (by decide +kernel)
theorem dRr_readInto_51 : decode (mB mRr_readInto) 51 = .ok (.getfield 9, 3) := op180 0 9 (by decide +kernel)
theorem dRr_readInto_54 : decode (mB mRr_readInto) 54 = .ok (.getfield 32, 3) := op180 0 32 (by decide +kernel)
theorem dRr_readInto_57 : decode (mB mRr_readInto) 57 = .ok (.iconst 2, 1) := op5 (by decide +kernel)
theorem dRr_readInto_58 : decode (mB mRr_readInto) 58 = .ok (.if_icmp .ne 15, 3) := op160 0 15 (by decide +kernel)
theorem dRr_readInto_61 : decode (mB mRr_readInto) 61 = .ok (.aload_n 0, 1) := op42 (by decide +kernel)
theorem dRr_readInto_62 : decode (mB mRr_readInto) 62 = .ok (.getfield 9, 3) := op180 0 9 (by decide +kernel)
theorem dRr_readInto_65 : decode (mB mRr_readInto) 65 = .ok (.ldc 35, 2) := op18 35 (by decide +kernel)
theorem dRr_readInto_67 : decode (mB mRr_readInto) 67 = .ok (.invokevirtual 37, 3) := op182 0 37 (by decide +kernel)
theorem dRr_readInto_70 : decode (mB mRr_readInto) 70 = .ok (.goto 4, 3) := op167 0 4 (by decide +kernel)
theorem dRr_readInto_73 : decode (mB mRr_readInto) 73 = .ok (.iconst (-1), 1) := op2 (by decide +kernel)
theorem dRr_readInto_74 : decode (mB mRr_readInto) 74 = .ok (.istore 4, 2) := op54 4 (by decide +kernel)
theorem dRr_readInto_76 : decode (mB mRr_readInto) 76 = .ok (.iload 4, 2) := op21 4 (by decide +kernel)
theorem dRr_readInto_78 : decode (mB mRr_readInto) 78 = .ok (.ifCond .ge 15, 3) := op156 0 15 (by decide +kernel)
theorem dRr_readInto_81 : decode (mB mRr_readInto) 81 = .ok (.aload_n 0, 1) := op42 (by decide +kernel)
theorem dRr_readInto_82 : decode (mB mRr_readInto) 82 = .ok (.getfield 9, 3) := op180 0 9 (by decide +kernel)
theorem dRr_readInto_85 : decode (mB mRr_readInto) 85 = .ok (.iconst 2, 1) := op5 (by decide +kernel)
theorem dRr_readInto_86 : decode (mB mRr_readInto) 86 = .ok (.invokevirtual 41, 3) := op182 0 41 (by decide +kernel)
theorem dRr_readInto_89 : decode (mB mRr_readInto) 89 = .ok (.pop, 1) := op87 (by decide +kernel)
theorem dRr_readInto_90 : decode (mB mRr_readInto) 90 = .ok (.goto 38, 3) := op167 0 38 (by decide +kernel)
theorem dRr_readInto_93 : decode (mB mRr_readInto) 93 = .ok (.iload_n 2, 1) := op28 (by decide +kernel)
theorem dRr_readInto_94 : decode (mB mRr_readInto) 94 = .ok (.iload 4, 2) := op21 4 (by decide +kernel)
theorem dRr_readInto_96 : decode (mB mRr_readInto) 96 = .ok (.invokestatic 45, 3) := op184 0 45 (by decide +kernel)
theorem dRr_readInto_99 : decode (mB mRr_readInto) 99 = .ok (.ifCond .eq 15, 3) := op153 0 15 (by decide +kernel)
theorem dRr_readInto_102 : decode (mB mRr_readInto) 102 = .ok (.aload_n 0, 1) := op42 (by decide +kernel)
theorem dRr_readInto_103 : decode (mB mRr_readInto) 103 = .ok (.getfield 9, 3) := op180 0 9 (by decide +kernel)
theorem dRr_readInto_106 : decode (mB mRr_readInto) 106 = .ok (.iconst 4, 1) := op7 (by decide +kernel)
theorem dRr_readInto_107 : decode (mB mRr_readInto) 107 = .ok (.invokevirtual 41, 3) := op182 0 41 (by decide +kernel)
theorem dRr_readInto_110 : decode (mB mRr_readInto) 110 = .ok (.pop, 1) := op87 (by decide +kernel)
theorem dRr_readInto_111 : decode (mB mRr_readInto) 111 = .ok (.goto 17, 3) := op167 0 17 (by decide +kernel)
theorem dRr_readInto_114 : decode (mB mRr_readInto) 114 = .ok (.iload_n 2, 1) := op28 (by decide +kernel)
theorem dRr_readInto_115 : decode (mB mRr_readInto) 115 = .ok (.iconst 1, 1) := op4 (by decide +kernel)
theorem dRr_readInto_116 : decode (mB mRr_readInto) 116 = .ok (.iload 4, 2) := op21 4 (by decide +kernel)
theorem dRr_readInto_118 : decode (mB mRr_readInto) 118 = .ok (.ishl, 1) := op120 (by decide +kernel)
theorem dRr_readInto_119 : decode (mB mRr_readInto) 119 = .ok (.ior, 1) := op128 (by decide +kernel)
theorem dRr_readInto_120 : decode (mB mRr_readInto) 120 = .ok (.istore_n 2, 1) := op61 (by decide +kernel)
theorem dRr_readInto_121 : decode (mB mRr_readInto) 121 = .ok (.aload_n 0, 1) := op42 (by decide +kernel)
theorem dRr_readInto_122 : decode (mB mRr_readInto) 122 = .ok (.aload_n 1, 1) := op43 (by decide +kernel)
theorem dRr_readInto_123 : decode (mB mRr_readInto) 123 = .ok (.iload 4, 2) := op21 4 (by decide +kernel)
theorem dRr_readInto_125 : decode (mB mRr_readInto) 125 = .ok (.invokevirtual 49, 3) := op182 0 49 (by decide +kernel)
theorem dRr_readInto_128 : decode (mB mRr_readInto) 128 = .ok (.aload_n 0, 1) := op42 (by decide +kernel)
theorem dRr_readInto_129 : decode (mB mRr_readInto) 129 = .ok (.getfield 9, 3) := op180 0 9 (by decide +kernel)
theorem dRr_readInto_132 : decode (mB mRr_readInto) 132 = .ok (.invokevirtual 53, 3) := op182 0 53 (by decide +kernel)
theorem dRr_readInto_135 : decode (mB mRr_readInto) 135 = .ok (.iinc 3 1, 3) := op132 3 1 (by decide +kernel)
theorem dRr_readInto_138 : decode (mB mRr_readInto) 138 = .ok (.goto (-116), 3) := op167 255 140 (by decide +kernel)
theorem dRr_readInto_141 : decode (mB mRr_readInto) 141 = .ok (.aload_n 0, 1) := op42 (by decide +kernel)
theorem dRr_readInto_142 : decode (mB mRr_readInto) 142 = .ok (.getfield 9, 3) := op180 0 9 (by decide +kernel)
theorem dRr_readInto_145 : decode (mB mRr_readInto) 145 = .ok (.getfield 28, 3) := op180 0 28 (by decide +kernel)
theorem dRr_readInto_148 : decode (mB mRr_readInto) 148 = .ok (.ifCond .ne 7, 3) := op154 0 7 (by decide +kernel)
theorem dRr_readInto_151 : decode (mB mRr_readInto) 151 = .ok (.iload_n 3, 1) := op29 (by decide +kernel)
theorem dRr_readInto_152 : decode (mB mRr_readInto) 152 = .ok (.goto 4, 3) := op167 0 4 (by decide +kernel)
theorem dRr_readInto_155 : decode (mB mRr_readInto) 155 = .ok (.iconst (-1), 1) := op2 (by decide +kernel)
theorem dRr_readInto_156 : decode (mB mRr_readInto) 156 = .ok (.ireturn, 1) := op172 (by decide +kernel)

theorem vRr_readInto_0 {M : Mm} {b : Nat × Nat} {K : Int32 → Mm → Prop} {v0 : Nat} {v1 : Nat} (kv1 : v1 % 64 = 3) 
    (h : CV mRu_clear [.ref v1] M (fun N => X mRr_readInto 4 [(0, .ref v0), (1, .ref v1)] [] N b (QI K))) : X mRr_readInto 0 [(0, .ref v0), (1, .ref v1)] [] M b (QI K) := by
  refine x_wf (fun hw => ?_)
  refine x_aload_n (pc := 0) dRr_readInto_0 rfl (q := 1) rfl ?_
  exact x_invV (pc := 1) dRr_readInto_1 (c := 3) (S := []) (As := []) mlRr_15 hRu_clear rfl (by decide) rfl kv1 ⟨by decide, by decide⟩ ⟨Nat.zero_le _, Nat.zero_le _⟩ rfl (Nat.le_of_ble_eq_true rfl) (aftV (b' := b) ⟨Nat.le_refl _, Nat.le_refl _⟩ (fun N h => h) h)

theorem vRr_readInto_4 {M : Mm} {b : Nat × Nat} {K : Int32 → Mm → Prop} {v0 : Nat} {v1 : Nat} {r1 : Nat} (kv0 : v0 % 64 = 4) (e1 : gr M v0 0 = some r1)
    (h : CV mTo_begin [.ref r1] M (fun N => X mRr_readInto 11 [(0, .ref v0), (1, .ref v1)] [] N b (QI K))) : X mRr_readInto 4 [(0, .ref v0), (1, .ref v1)] [] M b (QI K) := by
  refine x_wf (fun hw => ?_)
  refine x_aload_n (pc := 4) dRr_readInto_4 rfl (q := 0) rfl ?_
  refine x_getR (pc := 5) dRr_readInto_5 kv0 flRr_9 rfl e1 ?_
  exact x_invV (pc := 8) dRr_readInto_8 (c := 7) (S := []) (As := []) mlRr_20 hTo_begin rfl (by decide) rfl (wfk hw e1 kv0) ⟨by decide, by decide⟩ ⟨Nat.zero_le _, Nat.zero_le _⟩ rfl (Nat.le_of_ble_eq_true rfl) (aftV (b' := b) ⟨Nat.le_refl _, Nat.le_refl _⟩ (fun N h => h) h)

theorem vRr_readInto_11 {M : Mm} {b : Nat × Nat} {K : Int32 → Mm → Prop} {v0 : Nat} {v1 : Nat} {r1 : Nat} (kv0 : v0 % 64 = 4) (e1 : gr M v0 0 = some r1)
    (h : CV mTo_advance [.ref r1] M (fun N => X mRr_readInto 22 [(0, .ref v0), (1, .ref v1), (2, .int 0), (3, .int 0)] [] N b (QI K))) : X mRr_readInto 11 [(0, .ref v0), (1, .ref v1)] [] M b (QI K) := by
  refine x_wf (fun hw => ?_)
  refine x_iconst (pc := 11) dRr_readInto_11 (v := 0) rfl ?_
  refine x_istore_n (pc := 12) dRr_readInto_12 rfl (by decide) (L' := [(2, .int 0), (0, .ref v0), (1, .ref v1)]) rfl ?_
  refine x_iconst (pc := 13) dRr_readInto_13 (v := 0) rfl ?_
  refine x_istore_n (pc := 14) dRr_readInto_14 rfl (by decide) (L' := [(3, .int 0), (2, .int 0), (0, .ref v0), (1, .ref v1)]) rfl ?_
  refine x_aload_n (pc := 15) dRr_readInto_15 rfl (q := 2) rfl ?_
  refine x_getR (pc := 16) dRr_readInto_16 kv0 flRr_9 rfl e1 ?_
  exact x_invV (pc := 19) dRr_readInto_19 (c := 7) (S := []) (As := []) mlRr_25 hTo_advance rfl (by decide) rfl (wfk hw e1 kv0) ⟨by decide, by decide⟩ ⟨Nat.zero_le _, Nat.zero_le _⟩ rfl (Nat.le_of_ble_eq_true rfl) (aftV (b' := b) ⟨Nat.le_refl _, Nat.le_refl _⟩ (fun N h => x_loc [2, 3, 1, 0] rfl h) h)

theorem vRr_readInto_22 {M : Mm} {b : Nat × Nat} {K : Int32 → Mm → Prop} {v0 : Nat} {v1 : Nat} {v2 : Int32} {v3 : Int32} {r1 : Nat} (kv0 : v0 % 64 = 4) (e1 : gr M v0 0 = some r1)
    (h : (((400 ≤ v3) ∨ (¬ 400 ≤ v3 ∧ ¬ (gi M r1 5) = 0) ∨ (¬ 400 ≤ v3 ∧ (gi M r1 5) = 0 ∧ (gi M r1 1) = 1)) → (K (if (gi M r1 5) = 0 then v3 else (-1) : Int32) M)) ∧ ((¬ 400 ≤ v3 ∧ (gi M r1 5) = 0 ∧ ¬ (gi M r1 1) = 1 ∧ ¬ (gi M r1 1) = 2) → (X mRr_readInto 74 [(0, .ref v0), (1, .ref v1), (2, .int v2), (3, .int v3)] [.int (-1)] M b (QI K))) ∧ ((¬ 400 ≤ v3 ∧ (gi M r1 5) = 0 ∧ ¬ (gi M r1 1) = 1 ∧ (gi M r1 1) = 2) → (CI mTo_among [.ref r1, .ref (64 * 2 + 63)] M (fun rv N => X mRr_readInto 70 [(0, .ref v0), (1, .ref v1), (2, .int v2), (3, .int v3)] [.int rv] N b (QI K))))) : X mRr_readInto 22 [(0, .ref v0), (1, .ref v1), (2, .int v2), (3, .int v3)] [] M b (QI K) := by
  refine x_wf (fun hw => ?_)
  refine x_iload_n (pc := 22) dRr_readInto_22 rfl (q := 3) rfl ?_
  refine x_sipush (pc := 23) dRr_readInto_23 (v := 400) rfl ?_
  obtain ⟨g1_0, g1_1, g1_2⟩ := h
  have g1_k0 : (400 ≤ v3) ∨ (¬ 400 ≤ v3 ∧ ¬ (gi M r1 5) = 0) ∨ (¬ 400 ≤ v3 ∧ (gi M r1 5) = 0 ∧ (gi M r1 1) = 1) → X mRr_readInto 141 [(0, .ref v0), (1, .ref v1), (2, .int v2), (3, .int v3)] [] M b (QI K) := fun q => by
    have h := g1_0 q
    refine x_aload_n (pc := 141) dRr_readInto_141 rfl (q := 0) rfl ?_
    refine x_getR (pc := 142) dRr_readInto_142 kv0 flRr_9 rfl e1 ?_
    refine x_getI (pc := 145) dRr_readInto_145 (wfk hw e1 kv0) flRr_28 rfl ?_
    suffices hJ : X mRr_readInto 156 [(0, .ref v0), (1, .ref v1), (2, .int v2), (3, .int v3)] [.int (if (gi M r1 5) = 0 then v3 else (-1) : Int32)] M b (QI K) by
      refine x_if_ne (pc := 148) dRr_readInto_148 (t := 155) rfl (fun q5 => ?_) (fun q5 => ?_)
      · refine x_iconst (pc := 155) dRr_readInto_155 (v := (-1)) rfl ?_
        first | (rw [if_neg q5] at hJ; exact hJ) | (simp only [if_neg q5] at hJ ⊢; exact hJ)
      · refine x_iload_n (pc := 151) dRr_readInto_151 rfl (q := 3) rfl ?_
        refine x_goto (pc := 152) dRr_readInto_152 (t := 156) rfl ?_
        first | (rw [if_pos q5] at hJ; exact hJ) | (simp only [if_pos q5] at hJ ⊢; exact hJ)
    exact x_retQI (pc := 156) dRr_readInto_156 rfl rfl h
  refine x_icmp_ge (pc := 26) dRr_readInto_26 (t := 141) rfl (fun q1 => ?_) (fun q1 => ?_)
  · exact g1_k0 (Or.inl q1)
  · refine x_aload_n (pc := 29) dRr_readInto_29 rfl (q := 0) rfl ?_
    refine x_getR (pc := 30) dRr_readInto_30 kv0 flRr_9 rfl e1 ?_
    refine x_getI (pc := 33) dRr_readInto_33 (wfk hw e1 kv0) flRr_28 rfl ?_
    refine x_if_ne (pc := 36) dRr_readInto_36 (t := 141) rfl (fun q2 => ?_) (fun q2 => ?_)
    · exact g1_k0 (Or.inr (Or.inl ⟨q1, q2⟩))
    · refine x_aload_n (pc := 39) dRr_readInto_39 rfl (q := 0) rfl ?_
      refine x_getR (pc := 40) dRr_readInto_40 kv0 flRr_9 rfl e1 ?_
      refine x_getI (pc := 43) dRr_readInto_43 (wfk hw e1 kv0) flRr_32 rfl ?_
      refine x_iconst (pc := 46) dRr_readInto_46 (v := 1) rfl ?_
      refine x_icmp_eq (pc := 47) dRr_readInto_47 (t := 141) rfl (fun q3 => ?_) (fun q3 => ?_)
      · exact g1_k0 (Or.inr (Or.inr ⟨q1, q2, q3⟩))
      · refine x_aload_n (pc := 50) dRr_readInto_50 rfl (q := 0) rfl ?_
        refine x_getR (pc := 51) dRr_readInto_51 kv0 flRr_9 rfl e1 ?_
        refine x_getI (pc := 54) dRr_readInto_54 (wfk hw e1 kv0) flRr_32 rfl ?_
        refine x_iconst (pc := 57) dRr_readInto_57 (v := 2) rfl ?_
        refine x_icmp_ne (pc := 58) dRr_readInto_58 (t := 73) rfl (fun q4 => ?_) (fun q4 => ?_)
        · refine x_iconst (pc := 73) dRr_readInto_73 (v := (-1)) rfl ?_
          have h := g1_1 ⟨q1, q2, q3, q4⟩
          exact h
        · refine x_aload_n (pc := 61) dRr_readInto_61 rfl (q := 0) rfl ?_
          refine x_getR (pc := 62) dRr_readInto_62 kv0 flRr_9 rfl e1 ?_
          refine x_ldcS (pc := 65) dRr_readInto_65 (j := 2) (by decide) ⟨rfl, rfl⟩ ?_
          have h := g1_2 ⟨q1, q2, q3, q4⟩
          exact x_invV (pc := 67) dRr_readInto_67 (c := 7) (S := []) (As := [.ref (64 * 2 + 63)]) mlRr_37 hTo_among rfl (by decide) rfl (wfk hw e1 kv0) ⟨by decide, by decide⟩ ⟨Nat.zero_le _, Nat.zero_le _⟩ rfl (Nat.le_of_ble_eq_true rfl) (aftI (b' := b) ⟨Nat.le_refl _, Nat.le_refl _⟩ (fun rv N h => h) h)

theorem vRr_readInto_70 {M : Mm} {b : Nat × Nat} {K : Int32 → Mm → Prop} {v0 : Nat} {v1 : Nat} {v2 : Int32} {v3 : Int32} {w0 : Int32}  
    (h : X mRr_readInto 74 [(0, .ref v0), (1, .ref v1), (2, .int v2), (3, .int v3)] [.int w0] M b (QI K)) : X mRr_readInto 70 [(0, .ref v0), (1, .ref v1), (2, .int v2), (3, .int v3)] [.int w0] M b (QI K) := by
  refine x_wf (fun hw => ?_)
  refine x_goto (pc := 70) dRr_readInto_70 (t := 74) rfl ?_
  exact h

theorem vRr_readInto_74 {M : Mm} {b : Nat × Nat} {K : Int32 → Mm → Prop} {v0 : Nat} {v1 : Nat} {v2 : Int32} {v3 : Int32} {w0 : Int32} {r1 : Nat} (kv0 : v0 % 64 = 4) (e1 : gr M v0 0 = some r1)
    (h : (0 ≤ w0 → (CI mC_holds [.int v2, .int w0] M (fun rv N => X mRr_readInto 99 [(0, .ref v0), (1, .ref v1), (2, .int v2), (3, .int v3), (4, .int w0)] [.int rv] N b (QI K)))) ∧ (¬ 0 ≤ w0 → (CI mTo_fail [.ref r1, .int 2] M (fun rv N => X mRr_readInto 89 [(0, .ref v0), (1, .ref v1), (2, .int v2), (3, .int v3)] [.int rv] N b (QI K))))) : X mRr_readInto 74 [(0, .ref v0), (1, .ref v1), (2, .int v2), (3, .int v3)] [.int w0] M b (QI K) := by
  refine x_wf (fun hw => ?_)
  refine x_istore (pc := 74) dRr_readInto_74 (by decide) (L' := [(4, .int w0), (0, .ref v0), (1, .ref v1), (2, .int v2), (3, .int v3)]) rfl ?_
  refine x_iload (pc := 76) dRr_readInto_76 (q := 0) rfl ?_
  obtain ⟨g1_0, g1_1⟩ := h
  refine x_if_ge (pc := 78) dRr_readInto_78 (t := 93) rfl (fun q1 => ?_) (fun q1 => ?_)
  · refine x_iload_n (pc := 93) dRr_readInto_93 rfl (q := 3) rfl ?_
    refine x_iload (pc := 94) dRr_readInto_94 (q := 0) rfl ?_
    have h := g1_0 q1
    exact x_invSN (pc := 96) dRr_readInto_96 (S := []) (As := [.int v2, .int w0]) nlRr_45 hC_holds rfl ⟨by decide, by decide⟩ ⟨Nat.zero_le _, Nat.zero_le _⟩ rfl (Nat.le_of_ble_eq_true rfl) (aftI (b' := b) ⟨Nat.le_refl _, Nat.le_refl _⟩ (fun rv N h => x_loc [1, 2, 3, 4, 0] rfl h) h)
  · refine x_aload_n (pc := 81) dRr_readInto_81 rfl (q := 1) rfl ?_
    refine x_getR (pc := 82) dRr_readInto_82 kv0 flRr_9 rfl e1 ?_
    refine x_iconst (pc := 85) dRr_readInto_85 (v := 2) rfl ?_
    have h := g1_1 q1
    exact x_invV (pc := 86) dRr_readInto_86 (c := 7) (S := []) (As := [.int 2]) mlRr_41 hTo_fail rfl (by decide) rfl (wfk hw e1 kv0) ⟨by decide, by decide⟩ ⟨Nat.zero_le _, Nat.zero_le _⟩ rfl (Nat.le_of_ble_eq_true rfl) (aftI (b' := b) ⟨Nat.le_refl _, Nat.le_refl _⟩ (fun rv N h => x_loc [1, 2, 3, 4] rfl h) h)

theorem vRr_readInto_89 {M : Mm} {b : Nat × Nat} {K : Int32 → Mm → Prop} {v0 : Nat} {v1 : Nat} {v2 : Int32} {v3 : Int32} {w0 : Int32}  
    (h : X mRr_readInto 128 [(0, .ref v0), (1, .ref v1), (2, .int v2), (3, .int v3)] [] M b (QI K)) : X mRr_readInto 89 [(0, .ref v0), (1, .ref v1), (2, .int v2), (3, .int v3)] [.int w0] M b (QI K) := by
  refine x_wf (fun hw => ?_)
  refine x_pop (pc := 89) dRr_readInto_89 rfl ?_
  refine x_goto (pc := 90) dRr_readInto_90 (t := 128) rfl ?_
  exact h

theorem vRr_readInto_99 {M : Mm} {b : Nat × Nat} {K : Int32 → Mm → Prop} {v0 : Nat} {v1 : Nat} {v2 : Int32} {v3 : Int32} {v4 : Int32} {w0 : Int32} {r1 : Nat} (kv0 : v0 % 64 = 4) (e1 : gr M v0 0 = some r1)
    (h : (w0 = 0 → (CV mRr_tell [.ref v0, .ref v1, .int v4] M (fun N => X mRr_readInto 128 [(0, .ref v0), (1, .ref v1), (2, .int (v2 ||| ((1 : Int32) <<< (v4 &&& 31)))), (3, .int v3)] [] N b (QI K)))) ∧ (¬ w0 = 0 → (CI mTo_fail [.ref r1, .int 4] M (fun rv N => X mRr_readInto 110 [(0, .ref v0), (1, .ref v1), (2, .int v2), (3, .int v3)] [.int rv] N b (QI K))))) : X mRr_readInto 99 [(0, .ref v0), (1, .ref v1), (2, .int v2), (3, .int v3), (4, .int v4)] [.int w0] M b (QI K) := by
  refine x_wf (fun hw => ?_)
  obtain ⟨g1_0, g1_1⟩ := h
  refine x_if_eq (pc := 99) dRr_readInto_99 (t := 114) rfl (fun q1 => ?_) (fun q1 => ?_)
  · refine x_iload_n (pc := 114) dRr_readInto_114 rfl (q := 2) rfl ?_
    refine x_iconst (pc := 115) dRr_readInto_115 (v := 1) rfl ?_
    refine x_iload (pc := 116) dRr_readInto_116 (q := 4) rfl ?_
    refine x_ishl (pc := 118) dRr_readInto_118 ?_
    refine x_ior (pc := 119) dRr_readInto_119 ?_
    have h := g1_0 q1
    refine x_istore_n (pc := 120) dRr_readInto_120 rfl (by decide) (L' := [(2, .int (v2 ||| ((1 : Int32) <<< (v4 &&& 31)))), (0, .ref v0), (1, .ref v1), (3, .int v3), (4, .int v4)]) rfl ?_
    refine x_aload_n (pc := 121) dRr_readInto_121 rfl (q := 1) rfl ?_
    refine x_aload_n (pc := 122) dRr_readInto_122 rfl (q := 2) rfl ?_
    refine x_iload (pc := 123) dRr_readInto_123 (q := 4) rfl ?_
    exact x_invV (pc := 125) dRr_readInto_125 (c := 4) (S := []) (As := [.ref v1, .int v4]) mlRr_49 hRr_tell rfl (by decide) rfl kv0 ⟨by decide, by decide⟩ ⟨Nat.zero_le _, Nat.zero_le _⟩ rfl (Nat.le_of_ble_eq_true rfl) (aftV (b' := b) ⟨Nat.le_refl _, Nat.le_refl _⟩ (fun N h => x_loc [1, 2, 0, 3] rfl h) h)
  · refine x_aload_n (pc := 102) dRr_readInto_102 rfl (q := 0) rfl ?_
    refine x_getR (pc := 103) dRr_readInto_103 kv0 flRr_9 rfl e1 ?_
    refine x_iconst (pc := 106) dRr_readInto_106 (v := 4) rfl ?_
    have h := g1_1 q1
    exact x_invV (pc := 107) dRr_readInto_107 (c := 7) (S := []) (As := [.int 4]) mlRr_41 hTo_fail rfl (by decide) rfl (wfk hw e1 kv0) ⟨by decide, by decide⟩ ⟨Nat.zero_le _, Nat.zero_le _⟩ rfl (Nat.le_of_ble_eq_true rfl) (aftI (b' := b) ⟨Nat.le_refl _, Nat.le_refl _⟩ (fun rv N h => x_loc [0, 1, 2, 3] rfl h) h)

theorem vRr_readInto_110 {M : Mm} {b : Nat × Nat} {K : Int32 → Mm → Prop} {v0 : Nat} {v1 : Nat} {v2 : Int32} {v3 : Int32} {w0 : Int32}  
    (h : X mRr_readInto 128 [(0, .ref v0), (1, .ref v1), (2, .int v2), (3, .int v3)] [] M b (QI K)) : X mRr_readInto 110 [(0, .ref v0), (1, .ref v1), (2, .int v2), (3, .int v3)] [.int w0] M b (QI K) := by
  refine x_wf (fun hw => ?_)
  refine x_pop (pc := 110) dRr_readInto_110 rfl ?_
  refine x_goto (pc := 111) dRr_readInto_111 (t := 128) rfl ?_
  exact h

theorem vRr_readInto_128 {M : Mm} {b : Nat × Nat} {K : Int32 → Mm → Prop} {v0 : Nat} {v1 : Nat} {v2 : Int32} {v3 : Int32} {r1 : Nat} (kv0 : v0 % 64 = 4) (e1 : gr M v0 0 = some r1)
    (h : CV mTo_closeLine [.ref r1] M (fun N => X mRr_readInto 135 [(0, .ref v0), (1, .ref v1), (2, .int v2), (3, .int v3)] [] N b (QI K))) : X mRr_readInto 128 [(0, .ref v0), (1, .ref v1), (2, .int v2), (3, .int v3)] [] M b (QI K) := by
  refine x_wf (fun hw => ?_)
  refine x_aload_n (pc := 128) dRr_readInto_128 rfl (q := 0) rfl ?_
  refine x_getR (pc := 129) dRr_readInto_129 kv0 flRr_9 rfl e1 ?_
  exact x_invV (pc := 132) dRr_readInto_132 (c := 7) (S := []) (As := []) mlRr_53 hTo_closeLine rfl (by decide) rfl (wfk hw e1 kv0) ⟨by decide, by decide⟩ ⟨Nat.zero_le _, Nat.zero_le _⟩ rfl (Nat.le_of_ble_eq_true rfl) (aftV (b' := b) ⟨Nat.le_refl _, Nat.le_refl _⟩ (fun N h => h) h)

theorem vRr_readInto_135 {M : Mm} {b : Nat × Nat} {K : Int32 → Mm → Prop} {v0 : Nat} {v1 : Nat} {v2 : Int32} {v3 : Int32}  
    (h : X mRr_readInto 22 [(0, .ref v0), (1, .ref v1), (2, .int v2), (3, .int (v3 + 1))] [] M b (QI K)) : X mRr_readInto 135 [(0, .ref v0), (1, .ref v1), (2, .int v2), (3, .int v3)] [] M b (QI K) := by
  refine x_wf (fun hw => ?_)
  refine x_iinc (pc := 135) dRr_readInto_135 (q := 3) rfl (v := v3 + 1) rfl (by decide) (L' := [(3, .int (v3 + 1)), (0, .ref v0), (1, .ref v1), (2, .int v2)]) rfl ?_
  refine x_goto (pc := 138) dRr_readInto_138 (t := 22) rfl ?_
  exact x_loc [1, 2, 3, 0] rfl h

theorem dRr_tell_0 : decode (mB mRr_tell) 0 = .ok (.iload_n 2, 1) := op28 (by decide +kernel)
theorem dRr_tell_1 : decode (mB mRr_tell) 1 = .ok (.tableswitch 144 0 5 #[39, 53, 69, 77, 93, 107], 39) := by decide +kernel
theorem dRr_tell_40 : decode (mB mRr_tell) 40 = .ok (.aload_n 1, 1) := op43 (by decide +kernel)
theorem dRr_tell_41 : decode (mB mRr_tell) 41 = .ok (.aload_n 0, 1) := op42 (by decide +kernel)
theorem dRr_tell_42 : decode (mB mRr_tell) 42 = .ok (.getfield 9, 3) := op180 0 9 (by decide +kernel)
theorem dRr_tell_45 : decode (mB mRr_tell) 45 = .ok (.invokevirtual 56, 3) := op182 0 56 (by decide +kernel)
theorem dRr_tell_48 : decode (mB mRr_tell) 48 = .ok (.putfield 60, 3) := op181 0 60 (by decide +kernel)
theorem dRr_tell_51 : decode (mB mRr_tell) 51 = .ok (.goto 107, 3) := op167 0 107 (by decide +kernel)
theorem dRr_tell_54 : decode (mB mRr_tell) 54 = .ok (.aload_n 1, 1) := op43 (by decide +kernel)
theorem dRr_tell_55 : decode (mB mRr_tell) 55 = .ok (.aload_n 0, 1) := op42 (by decide +kernel)
theorem dRr_tell_56 : decode (mB mRr_tell) 56 = .ok (.getfield 9, 3) := op180 0 9 (by decide +kernel)
theorem dRr_tell_59 : decode (mB mRr_tell) 59 = .ok (.bipush 9, 2) := op16 9 (by decide +kernel)
theorem dRr_tell_61 : decode (mB mRr_tell) 61 = .ok (.invokevirtual 63, 3) := op182 0 63 (by decide +kernel)
theorem dRr_tell_64 : decode (mB mRr_tell) 64 = .ok (.putfield 66, 3) := op181 0 66 (by decide +kernel)
theorem dRr_tell_67 : decode (mB mRr_tell) 67 = .ok (.goto 91, 3) := op167 0 91 (by decide +kernel)
theorem dRr_tell_70 : decode (mB mRr_tell) 70 = .ok (.aload_n 1, 1) := op43 (by decide +kernel)
theorem dRr_tell_71 : decode (mB mRr_tell) 71 = .ok (.iconst 1, 1) := op4 (by decide +kernel)
theorem dRr_tell_72 : decode (mB mRr_tell) 72 = .ok (.putfield 69, 3) := op181 0 69 (by decide +kernel)
theorem dRr_tell_75 : decode (mB mRr_tell) 75 = .ok (.goto 83, 3) := op167 0 83 (by decide +kernel)
theorem dRr_tell_78 : decode (mB mRr_tell) 78 = .ok (.aload_n 1, 1) := op43 (by decide +kernel)
theorem dRr_tell_79 : decode (mB mRr_tell) 79 = .ok (.aload_n 0, 1) := op42 (by decide +kernel)
theorem dRr_tell_80 : decode (mB mRr_tell) 80 = .ok (.getfield 9, 3) := op180 0 9 (by decide +kernel)
theorem dRr_tell_83 : decode (mB mRr_tell) 83 = .ok (.ldc 73, 2) := op18 73 (by decide +kernel)
theorem dRr_tell_85 : decode (mB mRr_tell) 85 = .ok (.invokevirtual 75, 3) := op182 0 75 (by decide +kernel)
theorem dRr_tell_88 : decode (mB mRr_tell) 88 = .ok (.putfield 78, 3) := op181 0 78 (by decide +kernel)
theorem dRr_tell_91 : decode (mB mRr_tell) 91 = .ok (.goto 67, 3) := op167 0 67 (by decide +kernel)
theorem dRr_tell_94 : decode (mB mRr_tell) 94 = .ok (.aload_n 1, 1) := op43 (by decide +kernel)
theorem dRr_tell_95 : decode (mB mRr_tell) 95 = .ok (.aload_n 0, 1) := op42 (by decide +kernel)
theorem dRr_tell_96 : decode (mB mRr_tell) 96 = .ok (.getfield 9, 3) := op180 0 9 (by decide +kernel)
theorem dRr_tell_99 : decode (mB mRr_tell) 99 = .ok (.invokevirtual 81, 3) := op182 0 81 (by decide +kernel)
theorem dRr_tell_102 : decode (mB mRr_tell) 102 = .ok (.putfield 84, 3) := op181 0 84 (by decide +kernel)
theorem dRr_tell_105 : decode (mB mRr_tell) 105 = .ok (.goto 53, 3) := op167 0 53 (by decide +kernel)
theorem dRr_tell_108 : decode (mB mRr_tell) 108 = .ok (.aload_n 1, 1) := op43 (by decide +kernel)
theorem dRr_tell_109 : decode (mB mRr_tell) 109 = .ok (.aload_n 0, 1) := op42 (by decide +kernel)
theorem dRr_tell_110 : decode (mB mRr_tell) 110 = .ok (.getfield 9, 3) := op180 0 9 (by decide +kernel)
theorem dRr_tell_113 : decode (mB mRr_tell) 113 = .ok (.ldc 87, 2) := op18 87 (by decide +kernel)
theorem dRr_tell_115 : decode (mB mRr_tell) 115 = .ok (.invokevirtual 75, 3) := op182 0 75 (by decide +kernel)
theorem dRr_tell_118 : decode (mB mRr_tell) 118 = .ok (.putfield 89, 3) := op181 0 89 (by decide +kernel)
theorem dRr_tell_121 : decode (mB mRr_tell) 121 = .ok (.aload_n 1, 1) := op43 (by decide +kernel)
theorem dRr_tell_122 : decode (mB mRr_tell) 122 = .ok (.aload_n 1, 1) := op43 (by decide +kernel)
theorem dRr_tell_123 : decode (mB mRr_tell) 123 = .ok (.getfield 89, 3) := op180 0 89 (by decide +kernel)
theorem dRr_tell_126 : decode (mB mRr_tell) 126 = .ok (.iconst 1, 1) := op4 (by decide +kernel)
theorem dRr_tell_127 : decode (mB mRr_tell) 127 = .ok (.if_icmp .le 8, 3) := op164 0 8 (by decide +kernel)
theorem dRr_tell_130 : decode (mB mRr_tell) 130 = .ok (.bipush (-4), 2) := op16 252 (by decide +kernel)
theorem dRr_tell_132 : decode (mB mRr_tell) 132 = .ok (.goto 7, 3) := op167 0 7 (by decide +kernel)
theorem dRr_tell_135 : decode (mB mRr_tell) 135 = .ok (.aload_n 1, 1) := op43 (by decide +kernel)
theorem dRr_tell_136 : decode (mB mRr_tell) 136 = .ok (.getfield 89, 3) := op180 0 89 (by decide +kernel)
theorem dRr_tell_139 : decode (mB mRr_tell) 139 = .ok (.putfield 89, 3) := op181 0 89 (by decide +kernel)
theorem dRr_tell_142 : decode (mB mRr_tell) 142 = .ok (.goto 16, 3) := op167 0 16 (by decide +kernel)
theorem dRr_tell_145 : decode (mB mRr_tell) 145 = .ok (.aload_n 1, 1) := op43 (by decide +kernel)
theorem dRr_tell_146 : decode (mB mRr_tell) 146 = .ok (.aload_n 0, 1) := op42 (by decide +kernel)
theorem dRr_tell_147 : decode (mB mRr_tell) 147 = .ok (.getfield 9, 3) := op180 0 9 (by decide +kernel)
theorem dRr_tell_150 : decode (mB mRr_tell) 150 = .ok (.ldc 92, 2) := op18 92 (by decide +kernel)
theorem dRr_tell_152 : decode (mB mRr_tell) 152 = .ok (.invokevirtual 75, 3) := op182 0 75 (by decide +kernel)
theorem dRr_tell_155 : decode (mB mRr_tell) 155 = .ok (.putfield 94, 3) := op181 0 94 (by decide +kernel)
theorem dRr_tell_158 : decode (mB mRr_tell) 158 = .ok (.return_, 1) := op177 (by decide +kernel)

theorem vRr_tell_0 {M : Mm} {b : Nat × Nat} {K : Mm → Prop} {v0 : Nat} {v1 : Nat} {v2 : Int32} {r1 : Nat} (kv0 : v0 % 64 = 4) (kv1 : v1 % 64 = 3) (e1 : gr M v0 0 = some r1)
    (h : (v2 = 0 → (CI mTo_takeDoctors [.ref r1] M (fun rv N => X mRr_tell 48 [] [.int rv, .ref v1] N b (QV K)))) ∧ (v2 = 1 → (CI mTo_takeNumber [.ref r1, .int 9] M (fun rv N => X mRr_tell 64 [] [.int rv, .ref v1] N b (QV K)))) ∧ (v2 = 2 → (K (si M v1 2 1))) ∧ (v2 = 3 → (CI mTo_takeOneOf [.ref r1, .ref (64 * 3 + 63)] M (fun rv N => X mRr_tell 88 [] [.int rv, .ref v1] N b (QV K)))) ∧ (v2 = 4 → (CI mTo_takeDoctor [.ref r1] M (fun rv N => X mRr_tell 102 [] [.int rv, .ref v1] N b (QV K)))) ∧ (v2 = 5 → (CI mTo_takeOneOf [.ref r1, .ref (64 * 4 + 63)] M (fun rv N => X mRr_tell 118 [(1, .ref v1)] [.int rv, .ref v1] N b (QV K)))) ∧ (¬ v2 = 0 ∧ ¬ v2 = 1 ∧ ¬ v2 = 2 ∧ ¬ v2 = 3 ∧ ¬ v2 = 4 ∧ ¬ v2 = 5 → (CI mTo_takeOneOf [.ref r1, .ref (64 * 5 + 63)] M (fun rv N => X mRr_tell 155 [] [.int rv, .ref v1] N b (QV K))))) : X mRr_tell 0 [(0, .ref v0), (1, .ref v1), (2, .int v2)] [] M b (QV K) := by
  refine x_wf (fun hw => ?_)
  refine x_iload_n (pc := 0) dRr_tell_0 rfl (q := 2) rfl ?_
  obtain ⟨g1_0, g1_1, g1_2, g1_3, g1_4, g1_5, g1_6⟩ := h
  by_cases q1 : v2 = 0
  · refine x_tblIn (pc := 1) dRr_tell_1 (by rw [q1]; decide) (by rw [q1]; decide) (off := 39) (by rw [q1]; rfl) (t := 40) rfl ?_
    have h := g1_0 q1
    refine x_aload_n (pc := 40) dRr_tell_40 rfl (q := 1) rfl ?_
    refine x_aload_n (pc := 41) dRr_tell_41 rfl (q := 0) rfl ?_
    refine x_getR (pc := 42) dRr_tell_42 kv0 flRr_9 rfl e1 ?_
    exact x_invV (pc := 45) dRr_tell_45 (c := 7) (S := [.ref v1]) (As := []) mlRr_56 hTo_takeDoctors rfl (by decide) rfl (wfk hw e1 kv0) ⟨by decide, by decide⟩ ⟨Nat.zero_le _, Nat.zero_le _⟩ rfl (Nat.le_of_ble_eq_true rfl) (aftI (b' := b) ⟨Nat.le_refl _, Nat.le_refl _⟩ (fun rv N h => x_loc [] rfl h) h)
  by_cases q2 : v2 = 1
  · refine x_tblIn (pc := 1) dRr_tell_1 (by rw [q2]; decide) (by rw [q2]; decide) (off := 53) (by rw [q2]; rfl) (t := 54) rfl ?_
    have h := g1_1 q2
    refine x_aload_n (pc := 54) dRr_tell_54 rfl (q := 1) rfl ?_
    refine x_aload_n (pc := 55) dRr_tell_55 rfl (q := 0) rfl ?_
    refine x_getR (pc := 56) dRr_tell_56 kv0 flRr_9 rfl e1 ?_
    refine x_bipush (pc := 59) dRr_tell_59 (v := 9) rfl ?_
    exact x_invV (pc := 61) dRr_tell_61 (c := 7) (S := [.ref v1]) (As := [.int 9]) mlRr_63 hTo_takeNumber rfl (by decide) rfl (wfk hw e1 kv0) ⟨by decide, by decide⟩ ⟨Nat.zero_le _, Nat.zero_le _⟩ rfl (Nat.le_of_ble_eq_true rfl) (aftI (b' := b) ⟨Nat.le_refl _, Nat.le_refl _⟩ (fun rv N h => x_loc [] rfl h) h)
  by_cases q3 : v2 = 2
  · refine x_tblIn (pc := 1) dRr_tell_1 (by rw [q3]; decide) (by rw [q3]; decide) (off := 69) (by rw [q3]; rfl) (t := 70) rfl ?_
    have h := g1_2 q3
    refine x_aload_n (pc := 70) dRr_tell_70 rfl (q := 1) rfl ?_
    refine x_iconst (pc := 71) dRr_tell_71 (v := 1) rfl ?_
    refine x_putZ (pc := 72) dRr_tell_72 kv1 flRr_69 rfl rfl (Or.inr rfl) ?_
    refine x_goto (pc := 75) dRr_tell_75 (t := 158) rfl ?_
    exact x_retQV (pc := 158) dRr_tell_158 rfl h
  by_cases q4 : v2 = 3
  · refine x_tblIn (pc := 1) dRr_tell_1 (by rw [q4]; decide) (by rw [q4]; decide) (off := 77) (by rw [q4]; rfl) (t := 78) rfl ?_
    have h := g1_3 q4
    refine x_aload_n (pc := 78) dRr_tell_78 rfl (q := 1) rfl ?_
    refine x_aload_n (pc := 79) dRr_tell_79 rfl (q := 0) rfl ?_
    refine x_getR (pc := 80) dRr_tell_80 kv0 flRr_9 rfl e1 ?_
    refine x_ldcS (pc := 83) dRr_tell_83 (j := 3) (by decide) ⟨rfl, rfl⟩ ?_
    exact x_invV (pc := 85) dRr_tell_85 (c := 7) (S := [.ref v1]) (As := [.ref (64 * 3 + 63)]) mlRr_75 hTo_takeOneOf rfl (by decide) rfl (wfk hw e1 kv0) ⟨by decide, by decide⟩ ⟨Nat.zero_le _, Nat.zero_le _⟩ rfl (Nat.le_of_ble_eq_true rfl) (aftI (b' := b) ⟨Nat.le_refl _, Nat.le_refl _⟩ (fun rv N h => x_loc [] rfl h) h)
  by_cases q5 : v2 = 4
  · refine x_tblIn (pc := 1) dRr_tell_1 (by rw [q5]; decide) (by rw [q5]; decide) (off := 93) (by rw [q5]; rfl) (t := 94) rfl ?_
    have h := g1_4 q5
    refine x_aload_n (pc := 94) dRr_tell_94 rfl (q := 1) rfl ?_
    refine x_aload_n (pc := 95) dRr_tell_95 rfl (q := 0) rfl ?_
    refine x_getR (pc := 96) dRr_tell_96 kv0 flRr_9 rfl e1 ?_
    exact x_invV (pc := 99) dRr_tell_99 (c := 7) (S := [.ref v1]) (As := []) mlRr_81 hTo_takeDoctor rfl (by decide) rfl (wfk hw e1 kv0) ⟨by decide, by decide⟩ ⟨Nat.zero_le _, Nat.zero_le _⟩ rfl (Nat.le_of_ble_eq_true rfl) (aftI (b' := b) ⟨Nat.le_refl _, Nat.le_refl _⟩ (fun rv N h => x_loc [] rfl h) h)
  by_cases q6 : v2 = 5
  · refine x_tblIn (pc := 1) dRr_tell_1 (by rw [q6]; decide) (by rw [q6]; decide) (off := 107) (by rw [q6]; rfl) (t := 108) rfl ?_
    have h := g1_5 q6
    refine x_aload_n (pc := 108) dRr_tell_108 rfl (q := 1) rfl ?_
    refine x_aload_n (pc := 109) dRr_tell_109 rfl (q := 0) rfl ?_
    refine x_getR (pc := 110) dRr_tell_110 kv0 flRr_9 rfl e1 ?_
    refine x_ldcS (pc := 113) dRr_tell_113 (j := 4) (by decide) ⟨rfl, rfl⟩ ?_
    exact x_invV (pc := 115) dRr_tell_115 (c := 7) (S := [.ref v1]) (As := [.ref (64 * 4 + 63)]) mlRr_75 hTo_takeOneOf rfl (by decide) rfl (wfk hw e1 kv0) ⟨by decide, by decide⟩ ⟨Nat.zero_le _, Nat.zero_le _⟩ rfl (Nat.le_of_ble_eq_true rfl) (aftI (b' := b) ⟨Nat.le_refl _, Nat.le_refl _⟩ (fun rv N h => x_loc [1] rfl h) h)
  have h := g1_6 ⟨q1, q2, q3, q4, q5, q6⟩
  have hout : (v2).toInt < 0 ∨ 5 < (v2).toInt := tblout (fun (k : Int) h1 h2 => by
    rcases (show k = 0 ∨ k = 1 ∨ k = 2 ∨ k = 3 ∨ k = 4 ∨ k = 5 by omega) with rfl | rfl | rfl | rfl | rfl | rfl
    · exact q1
    · exact q2
    · exact q3
    · exact q4
    · exact q5
    · exact q6)
  refine x_tblOut (pc := 1) dRr_tell_1 hout (t := 145) rfl ?_
  refine x_aload_n (pc := 145) dRr_tell_145 rfl (q := 1) rfl ?_
  refine x_aload_n (pc := 146) dRr_tell_146 rfl (q := 0) rfl ?_
  refine x_getR (pc := 147) dRr_tell_147 kv0 flRr_9 rfl e1 ?_
  refine x_ldcS (pc := 150) dRr_tell_150 (j := 5) (by decide) ⟨rfl, rfl⟩ ?_
  exact x_invV (pc := 152) dRr_tell_152 (c := 7) (S := [.ref v1]) (As := [.ref (64 * 5 + 63)]) mlRr_75 hTo_takeOneOf rfl (by decide) rfl (wfk hw e1 kv0) ⟨by decide, by decide⟩ ⟨Nat.zero_le _, Nat.zero_le _⟩ rfl (Nat.le_of_ble_eq_true rfl) (aftI (b' := b) ⟨Nat.le_refl _, Nat.le_refl _⟩ (fun rv N h => x_loc [] rfl h) h)

theorem vRr_tell_48 {M : Mm} {b : Nat × Nat} {K : Mm → Prop} {w0 : Int32} {w1 : Nat} (kw1 : w1 % 64 = 3) 
    (h : K (si M w1 0 w0)) : X mRr_tell 48 [] [.int w0, .ref w1] M b (QV K) := by
  refine x_wf (fun hw => ?_)
  refine x_putI (pc := 48) dRr_tell_48 kw1 flRr_60 rfl rfl ?_
  refine x_goto (pc := 51) dRr_tell_51 (t := 158) rfl ?_
  exact x_retQV (pc := 158) dRr_tell_158 rfl h

theorem vRr_tell_64 {M : Mm} {b : Nat × Nat} {K : Mm → Prop} {w0 : Int32} {w1 : Nat} (kw1 : w1 % 64 = 3) 
    (h : K (si M w1 1 w0)) : X mRr_tell 64 [] [.int w0, .ref w1] M b (QV K) := by
  refine x_wf (fun hw => ?_)
  refine x_putI (pc := 64) dRr_tell_64 kw1 flRr_66 rfl rfl ?_
  refine x_goto (pc := 67) dRr_tell_67 (t := 158) rfl ?_
  exact x_retQV (pc := 158) dRr_tell_158 rfl h

theorem vRr_tell_88 {M : Mm} {b : Nat × Nat} {K : Mm → Prop} {w0 : Int32} {w1 : Nat} (kw1 : w1 % 64 = 3) 
    (h : K (si M w1 3 w0)) : X mRr_tell 88 [] [.int w0, .ref w1] M b (QV K) := by
  refine x_wf (fun hw => ?_)
  refine x_putI (pc := 88) dRr_tell_88 kw1 flRr_78 rfl rfl ?_
  refine x_goto (pc := 91) dRr_tell_91 (t := 158) rfl ?_
  exact x_retQV (pc := 158) dRr_tell_158 rfl h

theorem vRr_tell_102 {M : Mm} {b : Nat × Nat} {K : Mm → Prop} {w0 : Int32} {w1 : Nat} (kw1 : w1 % 64 = 3) 
    (h : K (si M w1 4 w0)) : X mRr_tell 102 [] [.int w0, .ref w1] M b (QV K) := by
  refine x_wf (fun hw => ?_)
  refine x_putI (pc := 102) dRr_tell_102 kw1 flRr_84 rfl rfl ?_
  refine x_goto (pc := 105) dRr_tell_105 (t := 158) rfl ?_
  exact x_retQV (pc := 158) dRr_tell_158 rfl h

theorem vRr_tell_118 {M : Mm} {b : Nat × Nat} {K : Mm → Prop} {v1 : Nat} {w0 : Int32} {w1 : Nat} (kw1 : w1 % 64 = 3) (kv1 : v1 % 64 = 3) 
    (h : K (si (si M w1 5 w0) v1 5 (if (gi (si M w1 5 w0) v1 5) ≤ 1 then (gi (si M w1 5 w0) v1 5) else (-4) : Int32))) : X mRr_tell 118 [(1, .ref v1)] [.int w0, .ref w1] M b (QV K) := by
  refine x_wf (fun hw => ?_)
  refine x_putI (pc := 118) dRr_tell_118 kw1 flRr_89 rfl rfl ?_
  refine x_aload_n (pc := 121) dRr_tell_121 rfl (q := 0) rfl ?_
  refine x_aload_n (pc := 122) dRr_tell_122 rfl (q := 0) rfl ?_
  refine x_getI (pc := 123) dRr_tell_123 kv1 flRr_89 rfl ?_
  refine x_iconst (pc := 126) dRr_tell_126 (v := 1) rfl ?_
  suffices hJ : X mRr_tell 139 [(1, .ref v1)] [.int (if (gi (si M w1 5 w0) v1 5) ≤ 1 then (gi (si M w1 5 w0) v1 5) else (-4) : Int32), .ref v1] (si M w1 5 w0) b (QV K) by
    refine x_icmp_le (pc := 127) dRr_tell_127 (t := 135) rfl (fun q1 => ?_) (fun q1 => ?_)
    · refine x_aload_n (pc := 135) dRr_tell_135 rfl (q := 0) rfl ?_
      refine x_getI (pc := 136) dRr_tell_136 kv1 flRr_89 rfl ?_
      first | (rw [if_pos q1] at hJ; exact hJ) | (simp only [if_pos q1] at hJ ⊢; exact hJ)
    · refine x_bipush (pc := 130) dRr_tell_130 (v := (-4)) rfl ?_
      refine x_goto (pc := 132) dRr_tell_132 (t := 139) rfl ?_
      first | (rw [if_neg q1] at hJ; exact hJ) | (simp only [if_neg q1] at hJ ⊢; exact hJ)
  refine x_putI (pc := 139) dRr_tell_139 kv1 flRr_89 rfl rfl ?_
  refine x_goto (pc := 142) dRr_tell_142 (t := 158) rfl ?_
  exact x_retQV (pc := 158) dRr_tell_158 rfl h

theorem vRr_tell_155 {M : Mm} {b : Nat × Nat} {K : Mm → Prop} {w0 : Int32} {w1 : Nat} (kw1 : w1 % 64 = 3) 
    (h : K (si M w1 6 w0)) : X mRr_tell 155 [] [.int w0, .ref w1] M b (QV K) := by
  refine x_wf (fun hw => ?_)
  refine x_putI (pc := 155) dRr_tell_155 kw1 flRr_94 rfl rfl ?_
  exact x_retQV (pc := 158) dRr_tell_158 rfl h

