theorem dM_findGame_0 : decode (mB mM_findGame) 0 = .ok (.aload_n 0, 1) := op42 (by decide +kernel)
theorem dM_findGame_1 : decode (mB mM_findGame) 1 = .ok (.getfield 29, 3) := op180 0 29 (by decide +kernel)
theorem dM_findGame_4 : decode (mB mM_findGame) 4 = .ok (.istore_n 2, 1) := op61 (by decide +kernel)
theorem dM_findGame_5 : decode (mB mM_findGame) 5 = .ok (.iconst 0, 1) := op3 (by decide +kernel)
theorem dM_findGame_6 : decode (mB mM_findGame) 6 = .ok (.istore_n 3, 1) := op62 (by decide +kernel)
theorem dM_findGame_7 : decode (mB mM_findGame) 7 = .ok (.iload_n 3, 1) := op29 (by decide +kernel)
theorem dM_findGame_8 : decode (mB mM_findGame) 8 = .ok (.bipush 64, 2) := op16 64 (by decide +kernel)
theorem dM_findGame_10 : decode (mB mM_findGame) 10 = .ok (.if_icmp .ge 52, 3) := op162 0 52 (by decide +kernel)
theorem dM_findGame_13 : decode (mB mM_findGame) 13 = .ok (.aload_n 0, 1) := op42 (by decide +kernel)
theorem dM_findGame_14 : decode (mB mM_findGame) 14 = .ok (.iload_n 3, 1) := op29 (by decide +kernel)
theorem dM_findGame_15 : decode (mB mM_findGame) 15 = .ok (.putfield 29, 3) := op181 0 29 (by decide +kernel)
theorem dM_findGame_18 : decode (mB mM_findGame) 18 = .ok (.aload_n 0, 1) := op42 (by decide +kernel)
theorem dM_findGame_19 : decode (mB mM_findGame) 19 = .ok (.invokevirtual 319, 3) := op182 1 63 (by decide +kernel)
theorem dM_findGame_22 : decode (mB mM_findGame) 22 = .ok (.aload_n 0, 1) := op42 (by decide +kernel)
theorem dM_findGame_23 : decode (mB mM_findGame) 23 = .ok (.getfield 82, 3) := op180 0 82 (by decide +kernel)
theorem dM_findGame_26 : decode (mB mM_findGame) 26 = .ok (.iload_n 3, 1) := op29 (by decide +kernel)
theorem dM_findGame_27 : decode (mB mM_findGame) 27 = .ok (.aload_n 0, 1) := op42 (by decide +kernel)
theorem dM_findGame_28 : decode (mB mM_findGame) 28 = .ok (.getfield 67, 3) := op180 0 67 (by decide +kernel)
theorem dM_findGame_31 : decode (mB mM_findGame) 31 = .ok (.iload_n 1, 1) := op27 (by decide +kernel)
theorem dM_findGame_32 : decode (mB mM_findGame) 32 = .ok (.iaload, 1) := op46 (by decide +kernel)
theorem dM_findGame_33 : decode (mB mM_findGame) 33 = .ok (.iconst 1, 1) := op4 (by decide +kernel)
theorem dM_findGame_34 : decode (mB mM_findGame) 34 = .ok (.if_icmp .ne 7, 3) := op160 0 7 (by decide +kernel)
theorem dM_findGame_37 : decode (mB mM_findGame) 37 = .ok (.iconst 1, 1) := op4 (by decide +kernel)
theorem dM_findGame_38 : decode (mB mM_findGame) 38 = .ok (.goto 17, 3) := op167 0 17 (by decide +kernel)
theorem dM_findGame_41 : decode (mB mM_findGame) 41 = .ok (.aload_n 0, 1) := op42 (by decide +kernel)
theorem dM_findGame_42 : decode (mB mM_findGame) 42 = .ok (.getfield 67, 3) := op180 0 67 (by decide +kernel)
theorem dM_findGame_45 : decode (mB mM_findGame) 45 = .ok (.iload_n 1, 1) := op27 (by decide +kernel)
theorem dM_findGame_46 : decode (mB mM_findGame) 46 = .ok (.iaload, 1) := op46 (by decide +kernel)
theorem dM_findGame_47 : decode (mB mM_findGame) 47 = .ok (.ifCond .ne 7, 3) := op154 0 7 (by decide +kernel)
theorem dM_findGame_50 : decode (mB mM_findGame) 50 = .ok (.iconst (-1), 1) := op2 (by decide +kernel)
theorem dM_findGame_51 : decode (mB mM_findGame) 51 = .ok (.goto 4, 3) := op167 0 4 (by decide +kernel)
theorem dM_findGame_54 : decode (mB mM_findGame) 54 = .ok (.iconst 0, 1) := op3 (by decide +kernel)
theorem dM_findGame_55 : decode (mB mM_findGame) 55 = .ok (.iastore, 1) := op79 (by decide +kernel)
theorem dM_findGame_56 : decode (mB mM_findGame) 56 = .ok (.iinc 3 1, 3) := op132 3 1 (by decide +kernel)
theorem dM_findGame_59 : decode (mB mM_findGame) 59 = .ok (.goto (-52), 3) := op167 255 204 (by decide +kernel)
theorem dM_findGame_62 : decode (mB mM_findGame) 62 = .ok (.aload_n 0, 1) := op42 (by decide +kernel)
theorem dM_findGame_63 : decode (mB mM_findGame) 63 = .ok (.iload_n 2, 1) := op28 (by decide +kernel)
theorem dM_findGame_64 : decode (mB mM_findGame) 64 = .ok (.putfield 29, 3) := op181 0 29 (by decide +kernel)
theorem dM_findGame_67 : decode (mB mM_findGame) 67 = .ok (.bipush 63, 2) := op16 63 (by decide +kernel)
theorem dM_findGame_69 : decode (mB mM_findGame) 69 = .ok (.istore_n 3, 1) := op62 (by decide +kernel)
theorem dM_findGame_70 : decode (mB mM_findGame) 70 = .ok (.iload_n 3, 1) := op29 (by decide +kernel)
theorem dM_findGame_71 : decode (mB mM_findGame) 71 = .ok (.ifCond .lt 136, 3) := op155 0 136 (by decide +kernel)
theorem dM_findGame_74 : decode (mB mM_findGame) 74 = .ok (.iconst 0, 1) := op3 (by decide +kernel)
theorem dM_findGame_75 : decode (mB mM_findGame) 75 = .ok (.istore 4, 2) := op54 4 (by decide +kernel)
theorem dM_findGame_77 : decode (mB mM_findGame) 77 = .ok (.iload 4, 2) := op21 4 (by decide +kernel)
theorem dM_findGame_79 : decode (mB mM_findGame) 79 = .ok (.iconst 2, 1) := op5 (by decide +kernel)
theorem dM_findGame_80 : decode (mB mM_findGame) 80 = .ok (.if_icmp .ge 53, 3) := op162 0 53 (by decide +kernel)
theorem dM_findGame_83 : decode (mB mM_findGame) 83 = .ok (.aload_n 0, 1) := op42 (by decide +kernel)
theorem dM_findGame_84 : decode (mB mM_findGame) 84 = .ok (.getfield 85, 3) := op180 0 85 (by decide +kernel)
theorem dM_findGame_87 : decode (mB mM_findGame) 87 = .ok (.iconst 4, 1) := op7 (by decide +kernel)
theorem dM_findGame_88 : decode (mB mM_findGame) 88 = .ok (.iload_n 3, 1) := op29 (by decide +kernel)
theorem dM_findGame_89 : decode (mB mM_findGame) 89 = .ok (.imul, 1) := op104 (by decide +kernel)
theorem dM_findGame_90 : decode (mB mM_findGame) 90 = .ok (.iconst 2, 1) := op5 (by decide +kernel)
theorem dM_findGame_91 : decode (mB mM_findGame) 91 = .ok (.iload 4, 2) := op21 4 (by decide +kernel)
theorem dM_findGame_93 : decode (mB mM_findGame) 93 = .ok (.imul, 1) := op104 (by decide +kernel)
theorem dM_findGame_94 : decode (mB mM_findGame) 94 = .ok (.iadd, 1) := op96 (by decide +kernel)
theorem dM_findGame_95 : decode (mB mM_findGame) 95 = .ok (.iconst 1, 1) := op4 (by decide +kernel)
theorem dM_findGame_96 : decode (mB mM_findGame) 96 = .ok (.iadd, 1) := op96 (by decide +kernel)
theorem dM_findGame_97 : decode (mB mM_findGame) 97 = .ok (.iload_n 3, 1) := op29 (by decide +kernel)
theorem dM_findGame_98 : decode (mB mM_findGame) 98 = .ok (.bipush 63, 2) := op16 63 (by decide +kernel)
theorem dM_findGame_100 : decode (mB mM_findGame) 100 = .ok (.if_icmp .ne 13, 3) := op160 0 13 (by decide +kernel)
theorem dM_findGame_103 : decode (mB mM_findGame) 103 = .ok (.aload_n 0, 1) := op42 (by decide +kernel)
theorem dM_findGame_104 : decode (mB mM_findGame) 104 = .ok (.getfield 82, 3) := op180 0 82 (by decide +kernel)
theorem dM_findGame_107 : decode (mB mM_findGame) 107 = .ok (.bipush 63, 2) := op16 63 (by decide +kernel)
theorem dM_findGame_109 : decode (mB mM_findGame) 109 = .ok (.iaload, 1) := op46 (by decide +kernel)
theorem dM_findGame_110 : decode (mB mM_findGame) 110 = .ok (.goto 16, 3) := op167 0 16 (by decide +kernel)
theorem dM_findGame_113 : decode (mB mM_findGame) 113 = .ok (.aload_n 0, 1) := op42 (by decide +kernel)
theorem dM_findGame_114 : decode (mB mM_findGame) 114 = .ok (.iload_n 3, 1) := op29 (by decide +kernel)
theorem dM_findGame_115 : decode (mB mM_findGame) 115 = .ok (.iload 4, 2) := op21 4 (by decide +kernel)
theorem dM_findGame_117 : decode (mB mM_findGame) 117 = .ok (.aload_n 0, 1) := op42 (by decide +kernel)
theorem dM_findGame_118 : decode (mB mM_findGame) 118 = .ok (.getfield 82, 3) := op180 0 82 (by decide +kernel)
theorem dM_findGame_121 : decode (mB mM_findGame) 121 = .ok (.iload_n 3, 1) := op29 (by decide +kernel)
theorem dM_findGame_122 : decode (mB mM_findGame) 122 = .ok (.iaload, 1) := op46 (by decide +kernel)
theorem dM_findGame_123 : decode (mB mM_findGame) 123 = .ok (.invokevirtual 344, 3) := op182 1 88 (by decide +kernel)
theorem dM_findGame_126 : decode (mB mM_findGame) 126 = .ok (.iastore, 1) := op79 (by decide +kernel)
theorem dM_findGame_127 : decode (mB mM_findGame) 127 = .ok (.iinc 4 1, 3) := op132 4 1 (by decide +kernel)
theorem dM_findGame_130 : decode (mB mM_findGame) 130 = .ok (.goto (-53), 3) := op167 255 203 (by decide +kernel)
theorem dM_findGame_133 : decode (mB mM_findGame) 133 = .ok (.iconst 0, 1) := op3 (by decide +kernel)
theorem dM_findGame_134 : decode (mB mM_findGame) 134 = .ok (.istore 4, 2) := op54 4 (by decide +kernel)
theorem dM_findGame_136 : decode (mB mM_findGame) 136 = .ok (.iload 4, 2) := op21 4 (by decide +kernel)
theorem dM_findGame_138 : decode (mB mM_findGame) 138 = .ok (.iconst 2, 1) := op5 (by decide +kernel)
theorem dM_findGame_139 : decode (mB mM_findGame) 139 = .ok (.if_icmp .ge 62, 3) := op162 0 62 (by decide +kernel)
theorem dM_findGame_142 : decode (mB mM_findGame) 142 = .ok (.aload_n 0, 1) := op42 (by decide +kernel)
theorem dM_findGame_143 : decode (mB mM_findGame) 143 = .ok (.getfield 85, 3) := op180 0 85 (by decide +kernel)
theorem dM_findGame_146 : decode (mB mM_findGame) 146 = .ok (.iconst 4, 1) := op7 (by decide +kernel)
theorem dM_findGame_147 : decode (mB mM_findGame) 147 = .ok (.iload_n 3, 1) := op29 (by decide +kernel)
theorem dM_findGame_148 : decode (mB mM_findGame) 148 = .ok (.imul, 1) := op104 (by decide +kernel)
theorem dM_findGame_149 : decode (mB mM_findGame) 149 = .ok (.iconst 2, 1) := op5 (by decide +kernel)
theorem dM_findGame_150 : decode (mB mM_findGame) 150 = .ok (.iload 4, 2) := op21 4 (by decide +kernel)
theorem dM_findGame_152 : decode (mB mM_findGame) 152 = .ok (.imul, 1) := op104 (by decide +kernel)
theorem dM_findGame_153 : decode (mB mM_findGame) 153 = .ok (.iadd, 1) := op96 (by decide +kernel)
theorem dM_findGame_154 : decode (mB mM_findGame) 154 = .ok (.iload_n 3, 1) := op29 (by decide +kernel)
theorem dM_findGame_155 : decode (mB mM_findGame) 155 = .ok (.bipush 63, 2) := op16 63 (by decide +kernel)
theorem dM_findGame_157 : decode (mB mM_findGame) 157 = .ok (.if_icmp .ne 13, 3) := op160 0 13 (by decide +kernel)
theorem dM_findGame_160 : decode (mB mM_findGame) 160 = .ok (.aload_n 0, 1) := op42 (by decide +kernel)
theorem dM_findGame_161 : decode (mB mM_findGame) 161 = .ok (.getfield 82, 3) := op180 0 82 (by decide +kernel)
theorem dM_findGame_164 : decode (mB mM_findGame) 164 = .ok (.bipush 63, 2) := op16 63 (by decide +kernel)
theorem dM_findGame_166 : decode (mB mM_findGame) 166 = .ok (.iaload, 1) := op46 (by decide +kernel)
theorem dM_findGame_167 : decode (mB mM_findGame) 167 = .ok (.goto 27, 3) := op167 0 27 (by decide +kernel)
theorem dM_findGame_170 : decode (mB mM_findGame) 170 = .ok (.aload_n 0, 1) := op42 (by decide +kernel)
theorem dM_findGame_171 : decode (mB mM_findGame) 171 = .ok (.iload_n 3, 1) := op29 (by decide +kernel)
theorem dM_findGame_172 : decode (mB mM_findGame) 172 = .ok (.iload 4, 2) := op21 4 (by decide +kernel)
theorem dM_findGame_174 : decode (mB mM_findGame) 174 = .ok (.aload_n 0, 1) := op42 (by decide +kernel)
theorem dM_findGame_175 : decode (mB mM_findGame) 175 = .ok (.getfield 85, 3) := op180 0 85 (by decide +kernel)
theorem dM_findGame_178 : decode (mB mM_findGame) 178 = .ok (.iconst 4, 1) := op7 (by decide +kernel)
theorem dM_findGame_179 : decode (mB mM_findGame) 179 = .ok (.iload_n 3, 1) := op29 (by decide +kernel)
theorem dM_findGame_180 : decode (mB mM_findGame) 180 = .ok (.imul, 1) := op104 (by decide +kernel)
theorem dM_findGame_181 : decode (mB mM_findGame) 181 = .ok (.iconst 2, 1) := op5 (by decide +kernel)
theorem dM_findGame_182 : decode (mB mM_findGame) 182 = .ok (.iconst 1, 1) := op4 (by decide +kernel)
theorem dM_findGame_183 : decode (mB mM_findGame) 183 = .ok (.iload 4, 2) := op21 4 (by decide +kernel)
theorem dM_findGame_185 : decode (mB mM_findGame) 185 = .ok (.isub, 1) := op100 (by decide +kernel)
theorem dM_findGame_186 : decode (mB mM_findGame) 186 = .ok (.imul, 1) := op104 (by decide +kernel)
theorem dM_findGame_187 : decode (mB mM_findGame) 187 = .ok (.iadd, 1) := op96 (by decide +kernel)
theorem dM_findGame_188 : decode (mB mM_findGame) 188 = .ok (.iconst 1, 1) := op4 (by decide +kernel)
theorem dM_findGame_189 : decode (mB mM_findGame) 189 = .ok (.iadd, 1) := op96 (by decide +kernel)
theorem dM_findGame_190 : decode (mB mM_findGame) 190 = .ok (.iaload, 1) := op46 (by decide +kernel)
theorem dM_findGame_191 : decode (mB mM_findGame) 191 = .ok (.invokevirtual 344, 3) := op182 1 88 (by decide +kernel)
theorem dM_findGame_194 : decode (mB mM_findGame) 194 = .ok (.iastore, 1) := op79 (by decide +kernel)
theorem dM_findGame_195 : decode (mB mM_findGame) 195 = .ok (.iinc 4 1, 3) := op132 4 1 (by decide +kernel)
theorem dM_findGame_198 : decode (mB mM_findGame) 198 = .ok (.goto (-62), 3) := op167 255 194 (by decide +kernel)
theorem dM_findGame_201 : decode (mB mM_findGame) 201 = .ok (.iinc 3 (-1), 3) := op132 3 255 (by decide +kernel)
theorem dM_findGame_204 : decode (mB mM_findGame) 204 = .ok (.goto (-134), 3) := op167 255 122 (by decide +kernel)
theorem dM_findGame_207 : decode (mB mM_findGame) 207 = .ok (.return_, 1) := op177 (by decide +kernel)

theorem vM_findGame_0 {M : Mm} {b : Nat × Nat} {K : Mm → Prop} {v0 : Nat} {v1 : Int32} (kv0 : v0 % 64 = 11) 
    (h : X mM_findGame 7 [(0, .ref v0), (1, .int v1), (2, .int (gi M v0 9)), (3, .int 0)] [] M b (QV K)) : X mM_findGame 0 [(0, .ref v0), (1, .int v1)] [] M b (QV K) := by
  refine x_wf (fun hw => ?_)
  refine x_aload_n (pc := 0) dM_findGame_0 rfl (q := 0) rfl ?_
  refine x_getI (pc := 1) dM_findGame_1 kv0 flM_29 rfl ?_
  refine x_istore_n (pc := 4) dM_findGame_4 rfl (by decide) (L' := [(2, .int (gi M v0 9)), (0, .ref v0), (1, .int v1)]) rfl ?_
  refine x_iconst (pc := 5) dM_findGame_5 (v := 0) rfl ?_
  refine x_istore_n (pc := 6) dM_findGame_6 rfl (by decide) (L' := [(3, .int 0), (2, .int (gi M v0 9)), (0, .ref v0), (1, .int v1)]) rfl ?_
  exact x_loc [2, 3, 1, 0] rfl h

theorem vM_findGame_7 {M : Mm} {b : Nat × Nat} {K : Mm → Prop} {v0 : Nat} {v1 : Int32} {v2 : Int32} {v3 : Int32} (kv0 : v0 % 64 = 11) 
    (h : (64 ≤ v3 → (X mM_findGame 70 [(0, .ref v0), (3, .int 63)] [] (si M v0 9 v2) b (QV K))) ∧ (¬ 64 ≤ v3 → (CV mM_findAll [.ref v0] (si M v0 9 v3) (fun N => X mM_findGame 22 [(0, .ref v0), (1, .int v1), (2, .int v2), (3, .int v3)] [] N b (QV K))))) : X mM_findGame 7 [(0, .ref v0), (1, .int v1), (2, .int v2), (3, .int v3)] [] M b (QV K) := by
  refine x_wf (fun hw => ?_)
  refine x_iload_n (pc := 7) dM_findGame_7 rfl (q := 3) rfl ?_
  refine x_bipush (pc := 8) dM_findGame_8 (v := 64) rfl ?_
  obtain ⟨g1_0, g1_1⟩ := h
  refine x_icmp_ge (pc := 10) dM_findGame_10 (t := 62) rfl (fun q1 => ?_) (fun q1 => ?_)
  · refine x_aload_n (pc := 62) dM_findGame_62 rfl (q := 0) rfl ?_
    refine x_iload_n (pc := 63) dM_findGame_63 rfl (q := 2) rfl ?_
    have h := g1_0 q1
    refine x_putI (pc := 64) dM_findGame_64 kv0 flM_29 rfl rfl ?_
    refine x_bipush (pc := 67) dM_findGame_67 (v := 63) rfl ?_
    refine x_istore_n (pc := 69) dM_findGame_69 rfl (by decide) (L' := [(3, .int 63), (0, .ref v0), (1, .int v1), (2, .int v2)]) rfl ?_
    exact x_loc [1, 0] rfl h
  · refine x_aload_n (pc := 13) dM_findGame_13 rfl (q := 0) rfl ?_
    refine x_iload_n (pc := 14) dM_findGame_14 rfl (q := 3) rfl ?_
    have h := g1_1 q1
    refine x_putI (pc := 15) dM_findGame_15 kv0 flM_29 rfl rfl ?_
    refine x_aload_n (pc := 18) dM_findGame_18 rfl (q := 0) rfl ?_
    exact x_invV (pc := 19) dM_findGame_19 (c := 11) (S := []) (As := []) mlM_319 hM_findAll rfl (by decide) rfl kv0 ⟨by decide, by decide⟩ ⟨Nat.zero_le _, Nat.zero_le _⟩ rfl (Nat.le_of_ble_eq_true rfl) (aftV (b' := b) ⟨Nat.le_refl _, Nat.le_refl _⟩ (fun N h => h) h)

theorem vM_findGame_22 {M : Mm} {b : Nat × Nat} {K : Mm → Prop} {v0 : Nat} {v1 : Int32} {v2 : Int32} {v3 : Int32} {r1 : Nat} {r2 : Nat} (kv0 : v0 % 64 = 11) (e1 : gr M v0 37 = some r1) (e2 : gr M v0 30 = some r2)
    (h : vp_in v1 64 ∧ ((¬ (gi M r2 (v1).toNatClampNeg) = 1 → vp_in v1 64) ∧ (vp_in v3 64 ∧ (X mM_findGame 7 [(0, .ref v0), (1, .int v1), (2, .int v2), (3, .int (v3 + 1))] [] (si M r1 (v3).toNatClampNeg (if (gi M r2 (v1).toNatClampNeg) = 1 then 1 else (if (gi M r2 (v1).toNatClampNeg) = 0 then (-1) else 0 : Int32) : Int32)) b (QV K))))) : X mM_findGame 22 [(0, .ref v0), (1, .int v1), (2, .int v2), (3, .int v3)] [] M b (QV K) := by
  refine x_wf (fun hw => ?_)
  refine x_aload_n (pc := 22) dM_findGame_22 rfl (q := 0) rfl ?_
  refine x_getR (pc := 23) dM_findGame_23 kv0 flM_82 rfl e1 ?_
  refine x_iload_n (pc := 26) dM_findGame_26 rfl (q := 3) rfl ?_
  refine x_aload_n (pc := 27) dM_findGame_27 rfl (q := 0) rfl ?_
  refine x_getR (pc := 28) dM_findGame_28 kv0 flM_67 rfl e2 ?_
  refine x_iload_n (pc := 31) dM_findGame_31 rfl (q := 1) rfl ?_
  obtain ⟨s501, h⟩ := h
  refine x_aldIj (pc := 32) (j := (v1).toNatClampNeg) (Or.inl ⟨rfl, rfl⟩) dM_findGame_32 (wfk hw e2 kv0) ak_14 rfl s501 ?_
  refine x_iconst (pc := 33) dM_findGame_33 (v := 1) rfl ?_
  obtain ⟨s2, h⟩ := h
  suffices hJ : X mM_findGame 55 [(0, .ref v0), (1, .int v1), (2, .int v2), (3, .int v3)] [.int (if (gi M r2 (v1).toNatClampNeg) = 1 then 1 else (if (gi M r2 (v1).toNatClampNeg) = 0 then (-1) else 0 : Int32) : Int32), .int v3, .ref r1] M b (QV K) by
    refine x_icmp_ne (pc := 34) dM_findGame_34 (t := 41) rfl (fun q1 => ?_) (fun q1 => ?_)
    · refine x_aload_n (pc := 41) dM_findGame_41 rfl (q := 0) rfl ?_
      refine x_getR (pc := 42) dM_findGame_42 kv0 flM_67 rfl e2 ?_
      refine x_iload_n (pc := 45) dM_findGame_45 rfl (q := 1) rfl ?_
      refine x_aldIj (pc := 46) (j := (v1).toNatClampNeg) (Or.inl ⟨rfl, rfl⟩) dM_findGame_46 (wfk hw e2 kv0) ak_14 rfl (s2 q1) ?_
      refine x_if_ne (pc := 47) dM_findGame_47 (t := 54) rfl (fun q2 => ?_) (fun q2 => ?_)
      · refine x_iconst (pc := 54) dM_findGame_54 (v := 0) rfl ?_
        first | (rw [if_neg q1, if_neg q2] at hJ; exact hJ) | (simp only [if_neg q1, if_neg q2] at hJ ⊢; exact hJ)
      · refine x_iconst (pc := 50) dM_findGame_50 (v := (-1)) rfl ?_
        refine x_goto (pc := 51) dM_findGame_51 (t := 55) rfl ?_
        first | (rw [if_neg q1, if_pos q2] at hJ; exact hJ) | (simp only [if_neg q1, if_pos q2] at hJ ⊢; exact hJ)
    · refine x_iconst (pc := 37) dM_findGame_37 (v := 1) rfl ?_
      refine x_goto (pc := 38) dM_findGame_38 (t := 55) rfl ?_
      first | (rw [if_pos q1] at hJ; exact hJ) | (simp only [if_pos q1] at hJ ⊢; exact hJ)
  obtain ⟨s503, h⟩ := h
  refine x_astIj (pc := 55) (j := (v3).toNatClampNeg) (v := (if (gi M r2 (v1).toNatClampNeg) = 1 then 1 else (if (gi M r2 (v1).toNatClampNeg) = 0 then (-1) else 0 : Int32) : Int32)) (Or.inl ⟨rfl, rfl, rfl⟩) dM_findGame_55 (wfk hw e1 kv0) ak_14 rfl s503 ?_
  refine x_iinc (pc := 56) dM_findGame_56 (q := 3) rfl (v := v3 + 1) rfl (by decide) (L' := [(3, .int (v3 + 1)), (0, .ref v0), (1, .int v1), (2, .int v2)]) rfl ?_
  refine x_goto (pc := 59) dM_findGame_59 (t := 7) rfl ?_
  exact x_loc [1, 2, 3, 0] rfl h

theorem vM_findGame_70 {M : Mm} {b : Nat × Nat} {K : Mm → Prop} {v0 : Nat} {v3 : Int32}  
    (h : (v3 < 0 → (K M)) ∧ (¬ v3 < 0 → (X mM_findGame 77 [(0, .ref v0), (3, .int v3), (4, .int 0)] [] M b (QV K)))) : X mM_findGame 70 [(0, .ref v0), (3, .int v3)] [] M b (QV K) := by
  refine x_wf (fun hw => ?_)
  refine x_iload_n (pc := 70) dM_findGame_70 rfl (q := 1) rfl ?_
  obtain ⟨g1_0, g1_1⟩ := h
  refine x_if_lt (pc := 71) dM_findGame_71 (t := 207) rfl (fun q1 => ?_) (fun q1 => ?_)
  · have h := g1_0 q1
    exact x_retQV (pc := 207) dM_findGame_207 rfl h
  · refine x_iconst (pc := 74) dM_findGame_74 (v := 0) rfl ?_
    have h := g1_1 q1
    refine x_istore (pc := 75) dM_findGame_75 (by decide) (L' := [(4, .int 0), (0, .ref v0), (3, .int v3)]) rfl ?_
    exact x_loc [1, 2, 0] rfl h

theorem vM_findGame_77 {M : Mm} {b : Nat × Nat} {K : Mm → Prop} {v0 : Nat} {v3 : Int32} {v4 : Int32} {r1 : Nat} {r2 : Nat} (kv0 : v0 % 64 = 11) (e1 : gr M v0 38 = some r1) (e2 : gr M v0 37 = some r2)
    (h : (¬ 2 ≤ v4 ∧ ¬ v3 = 63 → vp_in v3 64) ∧ (2 ≤ v4 → (X mM_findGame 136 [(0, .ref v0), (3, .int v3), (4, .int 0)] [] M b (QV K))) ∧ ((¬ 2 ≤ v4 ∧ ¬ v3 = 63) → (CI mM_bestTurn [.ref v0, .int v3, .int v4, .int (gi M r2 (v3).toNatClampNeg)] M (fun rv N => X mM_findGame 126 [(0, .ref v0), (3, .int v3), (4, .int v4)] [.int rv, .int (((4 * v3) + (2 * v4)) + 1), .ref r1] N b (QV K)))) ∧ ((¬ 2 ≤ v4 ∧ v3 = 63) → (X mM_findGame 126 [(0, .ref v0), (3, .int v3), (4, .int v4)] [.int (gi M r2 63), .int (((4 * v3) + (2 * v4)) + 1), .ref r1] M b (QV K)))) : X mM_findGame 77 [(0, .ref v0), (3, .int v3), (4, .int v4)] [] M b (QV K) := by
  refine x_wf (fun hw => ?_)
  refine x_iload (pc := 77) dM_findGame_77 (q := 2) rfl ?_
  refine x_iconst (pc := 79) dM_findGame_79 (v := 2) rfl ?_
  obtain ⟨s1, g1_0, g1_1, g1_2⟩ := h
  refine x_icmp_ge (pc := 80) dM_findGame_80 (t := 133) rfl (fun q1 => ?_) (fun q1 => ?_)
  · refine x_iconst (pc := 133) dM_findGame_133 (v := 0) rfl ?_
    have h := g1_0 q1
    refine x_istore (pc := 134) dM_findGame_134 (by decide) (L' := [(4, .int 0), (0, .ref v0), (3, .int v3)]) rfl ?_
    exact x_loc [1, 2, 0] rfl h
  · refine x_aload_n (pc := 83) dM_findGame_83 rfl (q := 0) rfl ?_
    refine x_getR (pc := 84) dM_findGame_84 kv0 flM_85 rfl e1 ?_
    refine x_iconst (pc := 87) dM_findGame_87 (v := 4) rfl ?_
    refine x_iload_n (pc := 88) dM_findGame_88 rfl (q := 1) rfl ?_
    refine x_imul (pc := 89) dM_findGame_89 ?_
    refine x_iconst (pc := 90) dM_findGame_90 (v := 2) rfl ?_
    refine x_iload (pc := 91) dM_findGame_91 (q := 2) rfl ?_
    refine x_imul (pc := 93) dM_findGame_93 ?_
    refine x_iadd (pc := 94) dM_findGame_94 ?_
    refine x_iconst (pc := 95) dM_findGame_95 (v := 1) rfl ?_
    refine x_iadd (pc := 96) dM_findGame_96 ?_
    refine x_iload_n (pc := 97) dM_findGame_97 rfl (q := 1) rfl ?_
    refine x_bipush (pc := 98) dM_findGame_98 (v := 63) rfl ?_
    refine x_icmp_ne (pc := 100) dM_findGame_100 (t := 113) rfl (fun q2 => ?_) (fun q2 => ?_)
    · refine x_aload_n (pc := 113) dM_findGame_113 rfl (q := 0) rfl ?_
      refine x_iload_n (pc := 114) dM_findGame_114 rfl (q := 1) rfl ?_
      refine x_iload (pc := 115) dM_findGame_115 (q := 2) rfl ?_
      refine x_aload_n (pc := 117) dM_findGame_117 rfl (q := 0) rfl ?_
      refine x_getR (pc := 118) dM_findGame_118 kv0 flM_82 rfl e2 ?_
      refine x_iload_n (pc := 121) dM_findGame_121 rfl (q := 1) rfl ?_
      refine x_aldIj (pc := 122) (j := (v3).toNatClampNeg) (Or.inl ⟨rfl, rfl⟩) dM_findGame_122 (wfk hw e2 kv0) ak_14 rfl (s1 ⟨q1, q2⟩) ?_
      have h := g1_1 ⟨q1, q2⟩
      exact x_invV (pc := 123) dM_findGame_123 (c := 11) (S := [.int (((4 * v3) + (2 * v4)) + 1), .ref r1]) (As := [.int v3, .int v4, .int (gi M r2 (v3).toNatClampNeg)]) mlM_344 hM_bestTurn rfl (by decide) rfl kv0 ⟨by decide, by decide⟩ ⟨Nat.zero_le _, Nat.zero_le _⟩ rfl (Nat.le_of_ble_eq_true rfl) (aftI (b' := b) ⟨Nat.le_refl _, Nat.le_refl _⟩ (fun rv N h => h) h)
    · refine x_aload_n (pc := 103) dM_findGame_103 rfl (q := 0) rfl ?_
      refine x_getR (pc := 104) dM_findGame_104 kv0 flM_82 rfl e2 ?_
      refine x_bipush (pc := 107) dM_findGame_107 (v := 63) rfl ?_
      refine x_aldIj (pc := 109) (j := 63) (Or.inl ⟨rfl, rfl⟩) dM_findGame_109 (wfk hw e2 kv0) ak_14 (by decide) (by unfold vp_in; decide) ?_
      refine x_goto (pc := 110) dM_findGame_110 (t := 126) rfl ?_
      have h := g1_2 ⟨q1, q2⟩
      exact h

theorem vM_findGame_126 {M : Mm} {b : Nat × Nat} {K : Mm → Prop} {v0 : Nat} {v3 : Int32} {v4 : Int32} {w0 : Int32} {w1 : Int32} {w2 : Nat} (kw2 : w2 % 64 = 30) 
    (h : vp_in w1 256 ∧ (X mM_findGame 77 [(0, .ref v0), (3, .int v3), (4, .int (v4 + 1))] [] (si M w2 (w1).toNatClampNeg w0) b (QV K))) : X mM_findGame 126 [(0, .ref v0), (3, .int v3), (4, .int v4)] [.int w0, .int w1, .ref w2] M b (QV K) := by
  refine x_wf (fun hw => ?_)
  obtain ⟨s501, h⟩ := h
  refine x_astIj (pc := 126) (j := (w1).toNatClampNeg) (v := w0) (Or.inl ⟨rfl, rfl, rfl⟩) dM_findGame_126 kw2 ak_30 rfl s501 ?_
  refine x_iinc (pc := 127) dM_findGame_127 (q := 2) rfl (v := v4 + 1) rfl (by decide) (L' := [(4, .int (v4 + 1)), (0, .ref v0), (3, .int v3)]) rfl ?_
  refine x_goto (pc := 130) dM_findGame_130 (t := 77) rfl ?_
  exact x_loc [1, 2, 0] rfl h

theorem vM_findGame_136 {M : Mm} {b : Nat × Nat} {K : Mm → Prop} {v0 : Nat} {v3 : Int32} {v4 : Int32} {r1 : Nat} {r2 : Nat} (kv0 : v0 % 64 = 11) (e1 : gr M v0 38 = some r1) (e2 : gr M v0 37 = some r2)
    (h : (¬ 2 ≤ v4 ∧ ¬ v3 = 63 → vp_in (((4 * v3) + (2 * (1 - v4))) + 1) 256) ∧ (2 ≤ v4 → (X mM_findGame 70 [(0, .ref v0), (3, .int (v3 + (-1)))] [] M b (QV K))) ∧ ((¬ 2 ≤ v4 ∧ ¬ v3 = 63) → (CI mM_bestTurn [.ref v0, .int v3, .int v4, .int (gi M r1 (((4 * v3) + (2 * (1 - v4))) + 1).toNatClampNeg)] M (fun rv N => X mM_findGame 194 [(0, .ref v0), (3, .int v3), (4, .int v4)] [.int rv, .int ((4 * v3) + (2 * v4)), .ref r1] N b (QV K)))) ∧ ((¬ 2 ≤ v4 ∧ v3 = 63) → (X mM_findGame 194 [(0, .ref v0), (3, .int v3), (4, .int v4)] [.int (gi M r2 63), .int ((4 * v3) + (2 * v4)), .ref r1] M b (QV K)))) : X mM_findGame 136 [(0, .ref v0), (3, .int v3), (4, .int v4)] [] M b (QV K) := by
  refine x_wf (fun hw => ?_)
  refine x_iload (pc := 136) dM_findGame_136 (q := 2) rfl ?_
  refine x_iconst (pc := 138) dM_findGame_138 (v := 2) rfl ?_
  obtain ⟨s1, g1_0, g1_1, g1_2⟩ := h
  refine x_icmp_ge (pc := 139) dM_findGame_139 (t := 201) rfl (fun q1 => ?_) (fun q1 => ?_)
  · have h := g1_0 q1
    refine x_iinc (pc := 201) dM_findGame_201 (q := 1) rfl (v := v3 + (-1)) rfl (by decide) (L' := [(3, .int (v3 + (-1))), (0, .ref v0), (4, .int v4)]) rfl ?_
    refine x_goto (pc := 204) dM_findGame_204 (t := 70) rfl ?_
    exact x_loc [1, 0] rfl h
  · refine x_aload_n (pc := 142) dM_findGame_142 rfl (q := 0) rfl ?_
    refine x_getR (pc := 143) dM_findGame_143 kv0 flM_85 rfl e1 ?_
    refine x_iconst (pc := 146) dM_findGame_146 (v := 4) rfl ?_
    refine x_iload_n (pc := 147) dM_findGame_147 rfl (q := 1) rfl ?_
    refine x_imul (pc := 148) dM_findGame_148 ?_
    refine x_iconst (pc := 149) dM_findGame_149 (v := 2) rfl ?_
    refine x_iload (pc := 150) dM_findGame_150 (q := 2) rfl ?_
    refine x_imul (pc := 152) dM_findGame_152 ?_
    refine x_iadd (pc := 153) dM_findGame_153 ?_
    refine x_iload_n (pc := 154) dM_findGame_154 rfl (q := 1) rfl ?_
    refine x_bipush (pc := 155) dM_findGame_155 (v := 63) rfl ?_
    refine x_icmp_ne (pc := 157) dM_findGame_157 (t := 170) rfl (fun q2 => ?_) (fun q2 => ?_)
    · refine x_aload_n (pc := 170) dM_findGame_170 rfl (q := 0) rfl ?_
      refine x_iload_n (pc := 171) dM_findGame_171 rfl (q := 1) rfl ?_
      refine x_iload (pc := 172) dM_findGame_172 (q := 2) rfl ?_
      refine x_aload_n (pc := 174) dM_findGame_174 rfl (q := 0) rfl ?_
      refine x_getR (pc := 175) dM_findGame_175 kv0 flM_85 rfl e1 ?_
      refine x_iconst (pc := 178) dM_findGame_178 (v := 4) rfl ?_
      refine x_iload_n (pc := 179) dM_findGame_179 rfl (q := 1) rfl ?_
      refine x_imul (pc := 180) dM_findGame_180 ?_
      refine x_iconst (pc := 181) dM_findGame_181 (v := 2) rfl ?_
      refine x_iconst (pc := 182) dM_findGame_182 (v := 1) rfl ?_
      refine x_iload (pc := 183) dM_findGame_183 (q := 2) rfl ?_
      refine x_isub (pc := 185) dM_findGame_185 ?_
      refine x_imul (pc := 186) dM_findGame_186 ?_
      refine x_iadd (pc := 187) dM_findGame_187 ?_
      refine x_iconst (pc := 188) dM_findGame_188 (v := 1) rfl ?_
      refine x_iadd (pc := 189) dM_findGame_189 ?_
      refine x_aldIj (pc := 190) (j := (((4 * v3) + (2 * (1 - v4))) + 1).toNatClampNeg) (Or.inl ⟨rfl, rfl⟩) dM_findGame_190 (wfk hw e1 kv0) ak_30 rfl (s1 ⟨q1, q2⟩) ?_
      have h := g1_1 ⟨q1, q2⟩
      exact x_invV (pc := 191) dM_findGame_191 (c := 11) (S := [.int ((4 * v3) + (2 * v4)), .ref r1]) (As := [.int v3, .int v4, .int (gi M r1 (((4 * v3) + (2 * (1 - v4))) + 1).toNatClampNeg)]) mlM_344 hM_bestTurn rfl (by decide) rfl kv0 ⟨by decide, by decide⟩ ⟨Nat.zero_le _, Nat.zero_le _⟩ rfl (Nat.le_of_ble_eq_true rfl) (aftI (b' := b) ⟨Nat.le_refl _, Nat.le_refl _⟩ (fun rv N h => h) h)
    · refine x_aload_n (pc := 160) dM_findGame_160 rfl (q := 0) rfl ?_
      refine x_getR (pc := 161) dM_findGame_161 kv0 flM_82 rfl e2 ?_
      refine x_bipush (pc := 164) dM_findGame_164 (v := 63) rfl ?_
      refine x_aldIj (pc := 166) (j := 63) (Or.inl ⟨rfl, rfl⟩) dM_findGame_166 (wfk hw e2 kv0) ak_14 (by decide) (by unfold vp_in; decide) ?_
      refine x_goto (pc := 167) dM_findGame_167 (t := 194) rfl ?_
      have h := g1_2 ⟨q1, q2⟩
      exact h

theorem vM_findGame_194 {M : Mm} {b : Nat × Nat} {K : Mm → Prop} {v0 : Nat} {v3 : Int32} {v4 : Int32} {w0 : Int32} {w1 : Int32} {w2 : Nat} (kw2 : w2 % 64 = 30) 
    (h : vp_in w1 256 ∧ (X mM_findGame 136 [(0, .ref v0), (3, .int v3), (4, .int (v4 + 1))] [] (si M w2 (w1).toNatClampNeg w0) b (QV K))) : X mM_findGame 194 [(0, .ref v0), (3, .int v3), (4, .int v4)] [.int w0, .int w1, .ref w2] M b (QV K) := by
  refine x_wf (fun hw => ?_)
  obtain ⟨s501, h⟩ := h
  refine x_astIj (pc := 194) (j := (w1).toNatClampNeg) (v := w0) (Or.inl ⟨rfl, rfl, rfl⟩) dM_findGame_194 kw2 ak_30 rfl s501 ?_
  refine x_iinc (pc := 195) dM_findGame_195 (q := 2) rfl (v := v4 + 1) rfl (by decide) (L' := [(4, .int (v4 + 1)), (0, .ref v0), (3, .int v3)]) rfl ?_
  refine x_goto (pc := 198) dM_findGame_198 (t := 136) rfl ?_
  exact x_loc [1, 2, 0] rfl h

theorem dM_bestTurn_0 : decode (mB mM_bestTurn) 0 = .ok (.iload_n 2, 1) := op28 (by decide +kernel)
theorem dM_bestTurn_1 : decode (mB mM_bestTurn) 1 = .ok (.iconst 1, 1) := op4 (by decide +kernel)
theorem dM_bestTurn_2 : decode (mB mM_bestTurn) 2 = .ok (.if_icmp .ne 7, 3) := op160 0 7 (by decide +kernel)
theorem dM_bestTurn_5 : decode (mB mM_bestTurn) 5 = .ok (.iload_n 3, 1) := op29 (by decide +kernel)
theorem dM_bestTurn_6 : decode (mB mM_bestTurn) 6 = .ok (.goto 5, 3) := op167 0 5 (by decide +kernel)
theorem dM_bestTurn_9 : decode (mB mM_bestTurn) 9 = .ok (.iload_n 3, 1) := op29 (by decide +kernel)
theorem dM_bestTurn_10 : decode (mB mM_bestTurn) 10 = .ok (.ineg, 1) := op116 (by decide +kernel)
theorem dM_bestTurn_11 : decode (mB mM_bestTurn) 11 = .ok (.istore 4, 2) := op54 4 (by decide +kernel)
theorem dM_bestTurn_13 : decode (mB mM_bestTurn) 13 = .ok (.aload_n 0, 1) := op42 (by decide +kernel)
theorem dM_bestTurn_14 : decode (mB mM_bestTurn) 14 = .ok (.bipush 6, 2) := op16 6 (by decide +kernel)
theorem dM_bestTurn_16 : decode (mB mM_bestTurn) 16 = .ok (.putfield 341, 3) := op181 1 85 (by decide +kernel)
theorem dM_bestTurn_19 : decode (mB mM_bestTurn) 19 = .ok (.iconst 0, 1) := op3 (by decide +kernel)
theorem dM_bestTurn_20 : decode (mB mM_bestTurn) 20 = .ok (.istore 5, 2) := op54 5 (by decide +kernel)
theorem dM_bestTurn_22 : decode (mB mM_bestTurn) 22 = .ok (.iconst 0, 1) := op3 (by decide +kernel)
theorem dM_bestTurn_23 : decode (mB mM_bestTurn) 23 = .ok (.istore 6, 2) := op54 6 (by decide +kernel)
theorem dM_bestTurn_25 : decode (mB mM_bestTurn) 25 = .ok (.iload 6, 2) := op21 6 (by decide +kernel)
theorem dM_bestTurn_27 : decode (mB mM_bestTurn) 27 = .ok (.bipush 6, 2) := op16 6 (by decide +kernel)
theorem dM_bestTurn_29 : decode (mB mM_bestTurn) 29 = .ok (.if_icmp .ge 131, 3) := op162 0 131 (by decide +kernel)
theorem dM_bestTurn_32 : decode (mB mM_bestTurn) 32 = .ok (.iload_n 1, 1) := op27 (by decide +kernel)
theorem dM_bestTurn_33 : decode (mB mM_bestTurn) 33 = .ok (.iload 6, 2) := op21 6 (by decide +kernel)
theorem dM_bestTurn_35 : decode (mB mM_bestTurn) 35 = .ok (.ishr, 1) := op122 (by decide +kernel)
theorem dM_bestTurn_36 : decode (mB mM_bestTurn) 36 = .ok (.iconst 1, 1) := op4 (by decide +kernel)
theorem dM_bestTurn_37 : decode (mB mM_bestTurn) 37 = .ok (.iand, 1) := op126 (by decide +kernel)
theorem dM_bestTurn_38 : decode (mB mM_bestTurn) 38 = .ok (.ifCond .ne 116, 3) := op154 0 116 (by decide +kernel)
theorem dM_bestTurn_41 : decode (mB mM_bestTurn) 41 = .ok (.aload_n 0, 1) := op42 (by decide +kernel)
theorem dM_bestTurn_42 : decode (mB mM_bestTurn) 42 = .ok (.getfield 85, 3) := op180 0 85 (by decide +kernel)
theorem dM_bestTurn_45 : decode (mB mM_bestTurn) 45 = .ok (.iconst 4, 1) := op7 (by decide +kernel)
theorem dM_bestTurn_46 : decode (mB mM_bestTurn) 46 = .ok (.iload_n 1, 1) := op27 (by decide +kernel)
theorem dM_bestTurn_47 : decode (mB mM_bestTurn) 47 = .ok (.iconst 1, 1) := op4 (by decide +kernel)
theorem dM_bestTurn_48 : decode (mB mM_bestTurn) 48 = .ok (.iload 6, 2) := op21 6 (by decide +kernel)
theorem dM_bestTurn_50 : decode (mB mM_bestTurn) 50 = .ok (.ishl, 1) := op120 (by decide +kernel)
theorem dM_bestTurn_51 : decode (mB mM_bestTurn) 51 = .ok (.ior, 1) := op128 (by decide +kernel)
theorem dM_bestTurn_52 : decode (mB mM_bestTurn) 52 = .ok (.imul, 1) := op104 (by decide +kernel)
theorem dM_bestTurn_53 : decode (mB mM_bestTurn) 53 = .ok (.iconst 2, 1) := op5 (by decide +kernel)
theorem dM_bestTurn_54 : decode (mB mM_bestTurn) 54 = .ok (.iconst 1, 1) := op4 (by decide +kernel)
theorem dM_bestTurn_55 : decode (mB mM_bestTurn) 55 = .ok (.iload_n 2, 1) := op28 (by decide +kernel)
theorem dM_bestTurn_56 : decode (mB mM_bestTurn) 56 = .ok (.isub, 1) := op100 (by decide +kernel)
theorem dM_bestTurn_57 : decode (mB mM_bestTurn) 57 = .ok (.imul, 1) := op104 (by decide +kernel)
theorem dM_bestTurn_58 : decode (mB mM_bestTurn) 58 = .ok (.iadd, 1) := op96 (by decide +kernel)
theorem dM_bestTurn_59 : decode (mB mM_bestTurn) 59 = .ok (.iaload, 1) := op46 (by decide +kernel)
theorem dM_bestTurn_60 : decode (mB mM_bestTurn) 60 = .ok (.istore 7, 2) := op54 7 (by decide +kernel)
theorem dM_bestTurn_62 : decode (mB mM_bestTurn) 62 = .ok (.iload_n 2, 1) := op28 (by decide +kernel)
theorem dM_bestTurn_63 : decode (mB mM_bestTurn) 63 = .ok (.iconst 1, 1) := op4 (by decide +kernel)
theorem dM_bestTurn_64 : decode (mB mM_bestTurn) 64 = .ok (.if_icmp .ne 8, 3) := op160 0 8 (by decide +kernel)
theorem dM_bestTurn_67 : decode (mB mM_bestTurn) 67 = .ok (.iload 7, 2) := op21 7 (by decide +kernel)
theorem dM_bestTurn_69 : decode (mB mM_bestTurn) 69 = .ok (.goto 6, 3) := op167 0 6 (by decide +kernel)
theorem dM_bestTurn_72 : decode (mB mM_bestTurn) 72 = .ok (.iload 7, 2) := op21 7 (by decide +kernel)
theorem dM_bestTurn_74 : decode (mB mM_bestTurn) 74 = .ok (.ineg, 1) := op116 (by decide +kernel)
theorem dM_bestTurn_75 : decode (mB mM_bestTurn) 75 = .ok (.istore 7, 2) := op54 7 (by decide +kernel)
theorem dM_bestTurn_77 : decode (mB mM_bestTurn) 77 = .ok (.iload 7, 2) := op21 7 (by decide +kernel)
theorem dM_bestTurn_79 : decode (mB mM_bestTurn) 79 = .ok (.iload 4, 2) := op21 4 (by decide +kernel)
theorem dM_bestTurn_81 : decode (mB mM_bestTurn) 81 = .ok (.if_icmp .gt 15, 3) := op163 0 15 (by decide +kernel)
theorem dM_bestTurn_84 : decode (mB mM_bestTurn) 84 = .ok (.iload 7, 2) := op21 7 (by decide +kernel)
theorem dM_bestTurn_86 : decode (mB mM_bestTurn) 86 = .ok (.iload 4, 2) := op21 4 (by decide +kernel)
theorem dM_bestTurn_88 : decode (mB mM_bestTurn) 88 = .ok (.if_icmp .ne 12, 3) := op160 0 12 (by decide +kernel)
theorem dM_bestTurn_91 : decode (mB mM_bestTurn) 91 = .ok (.iload 5, 2) := op21 5 (by decide +kernel)
theorem dM_bestTurn_93 : decode (mB mM_bestTurn) 93 = .ok (.ifCond .ne 7, 3) := op154 0 7 (by decide +kernel)
theorem dM_bestTurn_96 : decode (mB mM_bestTurn) 96 = .ok (.iconst 1, 1) := op4 (by decide +kernel)
theorem dM_bestTurn_97 : decode (mB mM_bestTurn) 97 = .ok (.goto 4, 3) := op167 0 4 (by decide +kernel)
theorem dM_bestTurn_100 : decode (mB mM_bestTurn) 100 = .ok (.iconst 0, 1) := op3 (by decide +kernel)
theorem dM_bestTurn_101 : decode (mB mM_bestTurn) 101 = .ok (.istore 8, 2) := op54 8 (by decide +kernel)
theorem dM_bestTurn_103 : decode (mB mM_bestTurn) 103 = .ok (.aload_n 0, 1) := op42 (by decide +kernel)
theorem dM_bestTurn_104 : decode (mB mM_bestTurn) 104 = .ok (.iload 8, 2) := op21 8 (by decide +kernel)
theorem dM_bestTurn_106 : decode (mB mM_bestTurn) 106 = .ok (.ifCond .eq 8, 3) := op153 0 8 (by decide +kernel)
theorem dM_bestTurn_109 : decode (mB mM_bestTurn) 109 = .ok (.iload 6, 2) := op21 6 (by decide +kernel)
theorem dM_bestTurn_111 : decode (mB mM_bestTurn) 111 = .ok (.goto 7, 3) := op167 0 7 (by decide +kernel)
theorem dM_bestTurn_114 : decode (mB mM_bestTurn) 114 = .ok (.aload_n 0, 1) := op42 (by decide +kernel)
theorem dM_bestTurn_115 : decode (mB mM_bestTurn) 115 = .ok (.getfield 341, 3) := op180 1 85 (by decide +kernel)
theorem dM_bestTurn_118 : decode (mB mM_bestTurn) 118 = .ok (.putfield 341, 3) := op181 1 85 (by decide +kernel)
theorem dM_bestTurn_121 : decode (mB mM_bestTurn) 121 = .ok (.iload 5, 2) := op21 5 (by decide +kernel)
theorem dM_bestTurn_123 : decode (mB mM_bestTurn) 123 = .ok (.ifCond .ne 8, 3) := op154 0 8 (by decide +kernel)
theorem dM_bestTurn_126 : decode (mB mM_bestTurn) 126 = .ok (.iload 8, 2) := op21 8 (by decide +kernel)
theorem dM_bestTurn_128 : decode (mB mM_bestTurn) 128 = .ok (.ifCond .eq 7, 3) := op153 0 7 (by decide +kernel)
theorem dM_bestTurn_131 : decode (mB mM_bestTurn) 131 = .ok (.iconst 1, 1) := op4 (by decide +kernel)
theorem dM_bestTurn_132 : decode (mB mM_bestTurn) 132 = .ok (.goto 4, 3) := op167 0 4 (by decide +kernel)
theorem dM_bestTurn_135 : decode (mB mM_bestTurn) 135 = .ok (.iconst 0, 1) := op3 (by decide +kernel)
theorem dM_bestTurn_136 : decode (mB mM_bestTurn) 136 = .ok (.istore 5, 2) := op54 5 (by decide +kernel)
theorem dM_bestTurn_138 : decode (mB mM_bestTurn) 138 = .ok (.iload 7, 2) := op21 7 (by decide +kernel)
theorem dM_bestTurn_140 : decode (mB mM_bestTurn) 140 = .ok (.iload 4, 2) := op21 4 (by decide +kernel)
theorem dM_bestTurn_142 : decode (mB mM_bestTurn) 142 = .ok (.if_icmp .le 8, 3) := op164 0 8 (by decide +kernel)
theorem dM_bestTurn_145 : decode (mB mM_bestTurn) 145 = .ok (.iload 7, 2) := op21 7 (by decide +kernel)
theorem dM_bestTurn_147 : decode (mB mM_bestTurn) 147 = .ok (.goto 5, 3) := op167 0 5 (by decide +kernel)
theorem dM_bestTurn_150 : decode (mB mM_bestTurn) 150 = .ok (.iload 4, 2) := op21 4 (by decide +kernel)
theorem dM_bestTurn_152 : decode (mB mM_bestTurn) 152 = .ok (.istore 4, 2) := op54 4 (by decide +kernel)
theorem dM_bestTurn_154 : decode (mB mM_bestTurn) 154 = .ok (.iinc 6 1, 3) := op132 6 1 (by decide +kernel)
theorem dM_bestTurn_157 : decode (mB mM_bestTurn) 157 = .ok (.goto (-132), 3) := op167 255 124 (by decide +kernel)
theorem dM_bestTurn_160 : decode (mB mM_bestTurn) 160 = .ok (.iload_n 2, 1) := op28 (by decide +kernel)
theorem dM_bestTurn_161 : decode (mB mM_bestTurn) 161 = .ok (.iconst 1, 1) := op4 (by decide +kernel)
theorem dM_bestTurn_162 : decode (mB mM_bestTurn) 162 = .ok (.if_icmp .ne 8, 3) := op160 0 8 (by decide +kernel)
theorem dM_bestTurn_165 : decode (mB mM_bestTurn) 165 = .ok (.iload 4, 2) := op21 4 (by decide +kernel)
theorem dM_bestTurn_167 : decode (mB mM_bestTurn) 167 = .ok (.goto 6, 3) := op167 0 6 (by decide +kernel)
theorem dM_bestTurn_170 : decode (mB mM_bestTurn) 170 = .ok (.iload 4, 2) := op21 4 (by decide +kernel)
theorem dM_bestTurn_172 : decode (mB mM_bestTurn) 172 = .ok (.ineg, 1) := op116 (by decide +kernel)
theorem dM_bestTurn_173 : decode (mB mM_bestTurn) 173 = .ok (.ireturn, 1) := op172 (by decide +kernel)

theorem vM_bestTurn_0 {M : Mm} {b : Nat × Nat} {K : Int32 → Mm → Prop} {v0 : Nat} {v1 : Int32} {v2 : Int32} {v3 : Int32} (kv0 : v0 % 64 = 11) 
    (h : X mM_bestTurn 25 [(0, .ref v0), (1, .int v1), (2, .int v2), (4, .int (if v2 = 1 then v3 else (-v3) : Int32)), (5, .int 0), (6, .int 0)] [] (si M v0 39 6) b (QI K)) : X mM_bestTurn 0 [(0, .ref v0), (1, .int v1), (2, .int v2), (3, .int v3)] [] M b (QI K) := by
  refine x_wf (fun hw => ?_)
  refine x_iload_n (pc := 0) dM_bestTurn_0 rfl (q := 2) rfl ?_
  refine x_iconst (pc := 1) dM_bestTurn_1 (v := 1) rfl ?_
  suffices hJ : X mM_bestTurn 11 [(0, .ref v0), (1, .int v1), (2, .int v2), (3, .int v3)] [.int (if v2 = 1 then v3 else (-v3) : Int32)] M b (QI K) by
    refine x_icmp_ne (pc := 2) dM_bestTurn_2 (t := 9) rfl (fun q1 => ?_) (fun q1 => ?_)
    · refine x_iload_n (pc := 9) dM_bestTurn_9 rfl (q := 3) rfl ?_
      refine x_ineg (pc := 10) dM_bestTurn_10 ?_
      first | (rw [if_neg q1] at hJ; exact hJ) | (simp only [if_neg q1] at hJ ⊢; exact hJ)
    · refine x_iload_n (pc := 5) dM_bestTurn_5 rfl (q := 3) rfl ?_
      refine x_goto (pc := 6) dM_bestTurn_6 (t := 11) rfl ?_
      first | (rw [if_pos q1] at hJ; exact hJ) | (simp only [if_pos q1] at hJ ⊢; exact hJ)
  refine x_istore (pc := 11) dM_bestTurn_11 (by decide) (L' := [(4, .int (if v2 = 1 then v3 else (-v3) : Int32)), (0, .ref v0), (1, .int v1), (2, .int v2), (3, .int v3)]) rfl ?_
  refine x_aload_n (pc := 13) dM_bestTurn_13 rfl (q := 1) rfl ?_
  refine x_bipush (pc := 14) dM_bestTurn_14 (v := 6) rfl ?_
  refine x_putI (pc := 16) dM_bestTurn_16 kv0 flM_341 rfl rfl ?_
  refine x_iconst (pc := 19) dM_bestTurn_19 (v := 0) rfl ?_
  refine x_istore (pc := 20) dM_bestTurn_20 (by decide) (L' := [(5, .int 0), (4, .int (if v2 = 1 then v3 else (-v3) : Int32)), (0, .ref v0), (1, .int v1), (2, .int v2), (3, .int v3)]) rfl ?_
  refine x_iconst (pc := 22) dM_bestTurn_22 (v := 0) rfl ?_
  refine x_istore (pc := 23) dM_bestTurn_23 (by decide) (L' := [(6, .int 0), (5, .int 0), (4, .int (if v2 = 1 then v3 else (-v3) : Int32)), (0, .ref v0), (1, .int v1), (2, .int v2), (3, .int v3)]) rfl ?_
  exact x_loc [3, 4, 5, 2, 1, 0] rfl h

theorem vM_bestTurn_25 {M : Mm} {b : Nat × Nat} {K : Int32 → Mm → Prop} {v0 : Nat} {v1 : Int32} {v2 : Int32} {v4 : Int32} {v5 : Int32} {v6 : Int32} {r1 : Nat} (kv0 : v0 % 64 = 11) (e1 : gr M v0 38 = some r1)
    (h : (¬ 6 ≤ v6 ∧ ((v1 >>> (v6 &&& 31)) &&& 1) = 0 → vp_in ((4 * (v1 ||| ((1 : Int32) <<< (v6 &&& 31)))) + (2 * (1 - v2))) 256) ∧ ((6 ≤ v6 ∧ ¬ v2 = 1) → (K (-v4) M)) ∧ ((6 ≤ v6 ∧ v2 = 1) → (K v4 M)) ∧ ((¬ 6 ≤ v6 ∧ ¬ ((v1 >>> (v6 &&& 31)) &&& 1) = 0) → (X mM_bestTurn 25 [(0, .ref v0), (1, .int v1), (2, .int v2), (4, .int v4), (5, .int v5), (6, .int (v6 + 1))] [] M b (QI K))) ∧ ((¬ 6 ≤ v6 ∧ ((v1 >>> (v6 &&& 31)) &&& 1) = 0) → ((((v4 < (if v2 = 1 then (gi M r1 ((4 * (v1 ||| ((1 : Int32) <<< (v6 &&& 31)))) + (2 * (1 - v2))).toNatClampNeg) else (-(gi M r1 ((4 * (v1 ||| ((1 : Int32) <<< (v6 &&& 31)))) + (2 * (1 - v2))).toNatClampNeg)) : Int32)) ∨ (¬ v4 < (if v2 = 1 then (gi M r1 ((4 * (v1 ||| ((1 : Int32) <<< (v6 &&& 31)))) + (2 * (1 - v2))).toNatClampNeg) else (-(gi M r1 ((4 * (v1 ||| ((1 : Int32) <<< (v6 &&& 31)))) + (2 * (1 - v2))).toNatClampNeg)) : Int32) ∧ (if v2 = 1 then (gi M r1 ((4 * (v1 ||| ((1 : Int32) <<< (v6 &&& 31)))) + (2 * (1 - v2))).toNatClampNeg) else (-(gi M r1 ((4 * (v1 ||| ((1 : Int32) <<< (v6 &&& 31)))) + (2 * (1 - v2))).toNatClampNeg)) : Int32) = v4 ∧ v5 = 0)) → (X mM_bestTurn 101 [(0, .ref v0), (1, .int v1), (2, .int v2), (4, .int v4), (5, .int v5), (6, .int v6), (7, .int (if v2 = 1 then (gi M r1 ((4 * (v1 ||| ((1 : Int32) <<< (v6 &&& 31)))) + (2 * (1 - v2))).toNatClampNeg) else (-(gi M r1 ((4 * (v1 ||| ((1 : Int32) <<< (v6 &&& 31)))) + (2 * (1 - v2))).toNatClampNeg)) : Int32))] [.int 1] M b (QI K))) ∧ (((¬ v4 < (if v2 = 1 then (gi M r1 ((4 * (v1 ||| ((1 : Int32) <<< (v6 &&& 31)))) + (2 * (1 - v2))).toNatClampNeg) else (-(gi M r1 ((4 * (v1 ||| ((1 : Int32) <<< (v6 &&& 31)))) + (2 * (1 - v2))).toNatClampNeg)) : Int32) ∧ ¬ (if v2 = 1 then (gi M r1 ((4 * (v1 ||| ((1 : Int32) <<< (v6 &&& 31)))) + (2 * (1 - v2))).toNatClampNeg) else (-(gi M r1 ((4 * (v1 ||| ((1 : Int32) <<< (v6 &&& 31)))) + (2 * (1 - v2))).toNatClampNeg)) : Int32) = v4) ∨ (¬ v4 < (if v2 = 1 then (gi M r1 ((4 * (v1 ||| ((1 : Int32) <<< (v6 &&& 31)))) + (2 * (1 - v2))).toNatClampNeg) else (-(gi M r1 ((4 * (v1 ||| ((1 : Int32) <<< (v6 &&& 31)))) + (2 * (1 - v2))).toNatClampNeg)) : Int32) ∧ (if v2 = 1 then (gi M r1 ((4 * (v1 ||| ((1 : Int32) <<< (v6 &&& 31)))) + (2 * (1 - v2))).toNatClampNeg) else (-(gi M r1 ((4 * (v1 ||| ((1 : Int32) <<< (v6 &&& 31)))) + (2 * (1 - v2))).toNatClampNeg)) : Int32) = v4 ∧ ¬ v5 = 0)) → (X mM_bestTurn 101 [(0, .ref v0), (1, .int v1), (2, .int v2), (4, .int v4), (5, .int v5), (6, .int v6), (7, .int (if v2 = 1 then (gi M r1 ((4 * (v1 ||| ((1 : Int32) <<< (v6 &&& 31)))) + (2 * (1 - v2))).toNatClampNeg) else (-(gi M r1 ((4 * (v1 ||| ((1 : Int32) <<< (v6 &&& 31)))) + (2 * (1 - v2))).toNatClampNeg)) : Int32))] [.int 0] M b (QI K)))))) : X mM_bestTurn 25 [(0, .ref v0), (1, .int v1), (2, .int v2), (4, .int v4), (5, .int v5), (6, .int v6)] [] M b (QI K) := by
  refine x_wf (fun hw => ?_)
  refine x_iload (pc := 25) dM_bestTurn_25 (q := 5) rfl ?_
  refine x_bipush (pc := 27) dM_bestTurn_27 (v := 6) rfl ?_
  obtain ⟨s1, g1_0, g1_1, g1_2, g1_3⟩ := h
  refine x_icmp_ge (pc := 29) dM_bestTurn_29 (t := 160) rfl (fun q1 => ?_) (fun q1 => ?_)
  · refine x_iload_n (pc := 160) dM_bestTurn_160 rfl (q := 2) rfl ?_
    refine x_iconst (pc := 161) dM_bestTurn_161 (v := 1) rfl ?_
    refine x_icmp_ne (pc := 162) dM_bestTurn_162 (t := 170) rfl (fun q2 => ?_) (fun q2 => ?_)
    · refine x_iload (pc := 170) dM_bestTurn_170 (q := 3) rfl ?_
      refine x_ineg (pc := 172) dM_bestTurn_172 ?_
      have h := g1_0 ⟨q1, q2⟩
      exact x_retQI (pc := 173) dM_bestTurn_173 rfl rfl h
    · refine x_iload (pc := 165) dM_bestTurn_165 (q := 3) rfl ?_
      refine x_goto (pc := 167) dM_bestTurn_167 (t := 173) rfl ?_
      have h := g1_1 ⟨q1, q2⟩
      exact x_retQI (pc := 173) dM_bestTurn_173 rfl rfl h
  · refine x_iload_n (pc := 32) dM_bestTurn_32 rfl (q := 1) rfl ?_
    refine x_iload (pc := 33) dM_bestTurn_33 (q := 5) rfl ?_
    refine x_ishr (pc := 35) dM_bestTurn_35 ?_
    refine x_iconst (pc := 36) dM_bestTurn_36 (v := 1) rfl ?_
    refine x_iand (pc := 37) dM_bestTurn_37 ?_
    refine x_if_ne (pc := 38) dM_bestTurn_38 (t := 154) rfl (fun q3 => ?_) (fun q3 => ?_)
    · have h := g1_2 ⟨q1, q3⟩
      refine x_iinc (pc := 154) dM_bestTurn_154 (q := 5) rfl (v := v6 + 1) rfl (by decide) (L' := [(6, .int (v6 + 1)), (0, .ref v0), (1, .int v1), (2, .int v2), (4, .int v4), (5, .int v5)]) rfl ?_
      refine x_goto (pc := 157) dM_bestTurn_157 (t := 25) rfl ?_
      exact x_loc [1, 2, 3, 4, 5, 0] rfl h
    · refine x_aload_n (pc := 41) dM_bestTurn_41 rfl (q := 0) rfl ?_
      refine x_getR (pc := 42) dM_bestTurn_42 kv0 flM_85 rfl e1 ?_
      refine x_iconst (pc := 45) dM_bestTurn_45 (v := 4) rfl ?_
      refine x_iload_n (pc := 46) dM_bestTurn_46 rfl (q := 1) rfl ?_
      refine x_iconst (pc := 47) dM_bestTurn_47 (v := 1) rfl ?_
      refine x_iload (pc := 48) dM_bestTurn_48 (q := 5) rfl ?_
      refine x_ishl (pc := 50) dM_bestTurn_50 ?_
      refine x_ior (pc := 51) dM_bestTurn_51 ?_
      refine x_imul (pc := 52) dM_bestTurn_52 ?_
      refine x_iconst (pc := 53) dM_bestTurn_53 (v := 2) rfl ?_
      refine x_iconst (pc := 54) dM_bestTurn_54 (v := 1) rfl ?_
      refine x_iload_n (pc := 55) dM_bestTurn_55 rfl (q := 2) rfl ?_
      refine x_isub (pc := 56) dM_bestTurn_56 ?_
      refine x_imul (pc := 57) dM_bestTurn_57 ?_
      refine x_iadd (pc := 58) dM_bestTurn_58 ?_
      refine x_aldIj (pc := 59) (j := ((4 * (v1 ||| ((1 : Int32) <<< (v6 &&& 31)))) + (2 * (1 - v2))).toNatClampNeg) (Or.inl ⟨rfl, rfl⟩) dM_bestTurn_59 (wfk hw e1 kv0) ak_30 rfl (s1 ⟨q1, q3⟩) ?_
      have h := g1_3 ⟨q1, q3⟩
      refine x_istore (pc := 60) dM_bestTurn_60 (by decide) (L' := [(7, .int (gi M r1 ((4 * (v1 ||| ((1 : Int32) <<< (v6 &&& 31)))) + (2 * (1 - v2))).toNatClampNeg)), (0, .ref v0), (1, .int v1), (2, .int v2), (4, .int v4), (5, .int v5), (6, .int v6)]) rfl ?_
      refine x_iload_n (pc := 62) dM_bestTurn_62 rfl (q := 3) rfl ?_
      refine x_iconst (pc := 63) dM_bestTurn_63 (v := 1) rfl ?_
      suffices hJ : X mM_bestTurn 75 [(7, .int (gi M r1 ((4 * (v1 ||| ((1 : Int32) <<< (v6 &&& 31)))) + (2 * (1 - v2))).toNatClampNeg)), (0, .ref v0), (1, .int v1), (2, .int v2), (4, .int v4), (5, .int v5), (6, .int v6)] [.int (if v2 = 1 then (gi M r1 ((4 * (v1 ||| ((1 : Int32) <<< (v6 &&& 31)))) + (2 * (1 - v2))).toNatClampNeg) else (-(gi M r1 ((4 * (v1 ||| ((1 : Int32) <<< (v6 &&& 31)))) + (2 * (1 - v2))).toNatClampNeg)) : Int32)] M b (QI K) by
        refine x_icmp_ne (pc := 64) dM_bestTurn_64 (t := 72) rfl (fun q4 => ?_) (fun q4 => ?_)
        · refine x_iload (pc := 72) dM_bestTurn_72 (q := 0) rfl ?_
          refine x_ineg (pc := 74) dM_bestTurn_74 ?_
          first | (rw [if_neg q4] at hJ; exact hJ) | (simp only [if_neg q4] at hJ ⊢; exact hJ)
        · refine x_iload (pc := 67) dM_bestTurn_67 (q := 0) rfl ?_
          refine x_goto (pc := 69) dM_bestTurn_69 (t := 75) rfl ?_
          first | (rw [if_pos q4] at hJ; exact hJ) | (simp only [if_pos q4] at hJ ⊢; exact hJ)
      refine x_istore (pc := 75) dM_bestTurn_75 (by decide) (L' := [(7, .int (if v2 = 1 then (gi M r1 ((4 * (v1 ||| ((1 : Int32) <<< (v6 &&& 31)))) + (2 * (1 - v2))).toNatClampNeg) else (-(gi M r1 ((4 * (v1 ||| ((1 : Int32) <<< (v6 &&& 31)))) + (2 * (1 - v2))).toNatClampNeg)) : Int32)), (0, .ref v0), (1, .int v1), (2, .int v2), (4, .int v4), (5, .int v5), (6, .int v6)]) rfl ?_
      refine x_iload (pc := 77) dM_bestTurn_77 (q := 0) rfl ?_
      refine x_iload (pc := 79) dM_bestTurn_79 (q := 4) rfl ?_
      obtain ⟨g2_0, g2_1⟩ := h
      have g2_k0 : (v4 < (if v2 = 1 then (gi M r1 ((4 * (v1 ||| ((1 : Int32) <<< (v6 &&& 31)))) + (2 * (1 - v2))).toNatClampNeg) else (-(gi M r1 ((4 * (v1 ||| ((1 : Int32) <<< (v6 &&& 31)))) + (2 * (1 - v2))).toNatClampNeg)) : Int32)) ∨ (¬ v4 < (if v2 = 1 then (gi M r1 ((4 * (v1 ||| ((1 : Int32) <<< (v6 &&& 31)))) + (2 * (1 - v2))).toNatClampNeg) else (-(gi M r1 ((4 * (v1 ||| ((1 : Int32) <<< (v6 &&& 31)))) + (2 * (1 - v2))).toNatClampNeg)) : Int32) ∧ (if v2 = 1 then (gi M r1 ((4 * (v1 ||| ((1 : Int32) <<< (v6 &&& 31)))) + (2 * (1 - v2))).toNatClampNeg) else (-(gi M r1 ((4 * (v1 ||| ((1 : Int32) <<< (v6 &&& 31)))) + (2 * (1 - v2))).toNatClampNeg)) : Int32) = v4 ∧ v5 = 0) → X mM_bestTurn 96 [(7, .int (if v2 = 1 then (gi M r1 ((4 * (v1 ||| ((1 : Int32) <<< (v6 &&& 31)))) + (2 * (1 - v2))).toNatClampNeg) else (-(gi M r1 ((4 * (v1 ||| ((1 : Int32) <<< (v6 &&& 31)))) + (2 * (1 - v2))).toNatClampNeg)) : Int32)), (0, .ref v0), (1, .int v1), (2, .int v2), (4, .int v4), (5, .int v5), (6, .int v6)] [] M b (QI K) := fun q => by
        have h := g2_0 q
        refine x_iconst (pc := 96) dM_bestTurn_96 (v := 1) rfl ?_
        refine x_goto (pc := 97) dM_bestTurn_97 (t := 101) rfl ?_
        exact x_loc [1, 2, 3, 4, 5, 6, 0] rfl h
      have g2_k1 : (¬ v4 < (if v2 = 1 then (gi M r1 ((4 * (v1 ||| ((1 : Int32) <<< (v6 &&& 31)))) + (2 * (1 - v2))).toNatClampNeg) else (-(gi M r1 ((4 * (v1 ||| ((1 : Int32) <<< (v6 &&& 31)))) + (2 * (1 - v2))).toNatClampNeg)) : Int32) ∧ ¬ (if v2 = 1 then (gi M r1 ((4 * (v1 ||| ((1 : Int32) <<< (v6 &&& 31)))) + (2 * (1 - v2))).toNatClampNeg) else (-(gi M r1 ((4 * (v1 ||| ((1 : Int32) <<< (v6 &&& 31)))) + (2 * (1 - v2))).toNatClampNeg)) : Int32) = v4) ∨ (¬ v4 < (if v2 = 1 then (gi M r1 ((4 * (v1 ||| ((1 : Int32) <<< (v6 &&& 31)))) + (2 * (1 - v2))).toNatClampNeg) else (-(gi M r1 ((4 * (v1 ||| ((1 : Int32) <<< (v6 &&& 31)))) + (2 * (1 - v2))).toNatClampNeg)) : Int32) ∧ (if v2 = 1 then (gi M r1 ((4 * (v1 ||| ((1 : Int32) <<< (v6 &&& 31)))) + (2 * (1 - v2))).toNatClampNeg) else (-(gi M r1 ((4 * (v1 ||| ((1 : Int32) <<< (v6 &&& 31)))) + (2 * (1 - v2))).toNatClampNeg)) : Int32) = v4 ∧ ¬ v5 = 0) → X mM_bestTurn 100 [(7, .int (if v2 = 1 then (gi M r1 ((4 * (v1 ||| ((1 : Int32) <<< (v6 &&& 31)))) + (2 * (1 - v2))).toNatClampNeg) else (-(gi M r1 ((4 * (v1 ||| ((1 : Int32) <<< (v6 &&& 31)))) + (2 * (1 - v2))).toNatClampNeg)) : Int32)), (0, .ref v0), (1, .int v1), (2, .int v2), (4, .int v4), (5, .int v5), (6, .int v6)] [] M b (QI K) := fun q => by
        have h := g2_1 q
        refine x_iconst (pc := 100) dM_bestTurn_100 (v := 0) rfl ?_
        exact x_loc [1, 2, 3, 4, 5, 6, 0] rfl h
      refine x_icmp_gt (pc := 81) dM_bestTurn_81 (t := 96) rfl (fun q5 => ?_) (fun q5 => ?_)
      · exact g2_k0 (Or.inl q5)
      · refine x_iload (pc := 84) dM_bestTurn_84 (q := 0) rfl ?_
        refine x_iload (pc := 86) dM_bestTurn_86 (q := 4) rfl ?_
        refine x_icmp_ne (pc := 88) dM_bestTurn_88 (t := 100) rfl (fun q6 => ?_) (fun q6 => ?_)
        · exact g2_k1 (Or.inl ⟨q5, q6⟩)
        · refine x_iload (pc := 91) dM_bestTurn_91 (q := 5) rfl ?_
          refine x_if_ne (pc := 93) dM_bestTurn_93 (t := 100) rfl (fun q7 => ?_) (fun q7 => ?_)
          · exact g2_k1 (Or.inr ⟨q5, q6, q7⟩)
          · exact g2_k0 (Or.inr ⟨q5, q6, q7⟩)

theorem vM_bestTurn_101 {M : Mm} {b : Nat × Nat} {K : Int32 → Mm → Prop} {v0 : Nat} {v1 : Int32} {v2 : Int32} {v4 : Int32} {v5 : Int32} {v6 : Int32} {v7 : Int32} {w0 : Int32} (kv0 : v0 % 64 = 11) 
    (h : (((¬ v5 = 0) ∨ (v5 = 0 ∧ ¬ w0 = 0)) → (X mM_bestTurn 136 [(0, .ref v0), (1, .int v1), (2, .int v2), (4, .int v4), (6, .int v6), (7, .int v7)] [.int 1] (si M v0 39 (if w0 = 0 then (gi M v0 39) else v6 : Int32)) b (QI K))) ∧ ((v5 = 0 ∧ w0 = 0) → (X mM_bestTurn 136 [(0, .ref v0), (1, .int v1), (2, .int v2), (4, .int v4), (6, .int v6), (7, .int v7)] [.int 0] (si M v0 39 (if w0 = 0 then (gi M v0 39) else v6 : Int32)) b (QI K)))) : X mM_bestTurn 101 [(0, .ref v0), (1, .int v1), (2, .int v2), (4, .int v4), (5, .int v5), (6, .int v6), (7, .int v7)] [.int w0] M b (QI K) := by
  refine x_wf (fun hw => ?_)
  refine x_istore (pc := 101) dM_bestTurn_101 (by decide) (L' := [(8, .int w0), (0, .ref v0), (1, .int v1), (2, .int v2), (4, .int v4), (5, .int v5), (6, .int v6), (7, .int v7)]) rfl ?_
  refine x_aload_n (pc := 103) dM_bestTurn_103 rfl (q := 1) rfl ?_
  refine x_iload (pc := 104) dM_bestTurn_104 (q := 0) rfl ?_
  suffices hJ : X mM_bestTurn 118 [(8, .int w0), (0, .ref v0), (1, .int v1), (2, .int v2), (4, .int v4), (5, .int v5), (6, .int v6), (7, .int v7)] [.int (if w0 = 0 then (gi M v0 39) else v6 : Int32), .ref v0] M b (QI K) by
    refine x_if_eq (pc := 106) dM_bestTurn_106 (t := 114) rfl (fun q1 => ?_) (fun q1 => ?_)
    · refine x_aload_n (pc := 114) dM_bestTurn_114 rfl (q := 1) rfl ?_
      refine x_getI (pc := 115) dM_bestTurn_115 kv0 flM_341 rfl ?_
      first | (rw [if_pos q1] at hJ; exact hJ) | (simp only [if_pos q1] at hJ ⊢; exact hJ)
    · refine x_iload (pc := 109) dM_bestTurn_109 (q := 6) rfl ?_
      refine x_goto (pc := 111) dM_bestTurn_111 (t := 118) rfl ?_
      first | (rw [if_neg q1] at hJ; exact hJ) | (simp only [if_neg q1] at hJ ⊢; exact hJ)
  refine x_putI (pc := 118) dM_bestTurn_118 kv0 flM_341 rfl rfl ?_
  refine x_iload (pc := 121) dM_bestTurn_121 (q := 5) rfl ?_
  obtain ⟨g1_0, g1_1⟩ := h
  have g1_k0 : (¬ v5 = 0) ∨ (v5 = 0 ∧ ¬ w0 = 0) → X mM_bestTurn 131 [(8, .int w0), (0, .ref v0), (1, .int v1), (2, .int v2), (4, .int v4), (5, .int v5), (6, .int v6), (7, .int v7)] [] (si M v0 39 (if w0 = 0 then (gi M v0 39) else v6 : Int32)) b (QI K) := fun q => by
    have h := g1_0 q
    refine x_iconst (pc := 131) dM_bestTurn_131 (v := 1) rfl ?_
    refine x_goto (pc := 132) dM_bestTurn_132 (t := 136) rfl ?_
    exact x_loc [1, 2, 3, 4, 6, 7] rfl h
  refine x_if_ne (pc := 123) dM_bestTurn_123 (t := 131) rfl (fun q2 => ?_) (fun q2 => ?_)
  · exact g1_k0 (Or.inl q2)
  · refine x_iload (pc := 126) dM_bestTurn_126 (q := 0) rfl ?_
    refine x_if_eq (pc := 128) dM_bestTurn_128 (t := 135) rfl (fun q3 => ?_) (fun q3 => ?_)
    · refine x_iconst (pc := 135) dM_bestTurn_135 (v := 0) rfl ?_
      have h := g1_1 ⟨q2, q3⟩
      exact x_loc [1, 2, 3, 4, 6, 7] rfl h
    · exact g1_k0 (Or.inr ⟨q2, q3⟩)

theorem vM_bestTurn_136 {M : Mm} {b : Nat × Nat} {K : Int32 → Mm → Prop} {v0 : Nat} {v1 : Int32} {v2 : Int32} {v4 : Int32} {v6 : Int32} {v7 : Int32} {w0 : Int32}  
    (h : X mM_bestTurn 25 [(0, .ref v0), (1, .int v1), (2, .int v2), (4, .int (if v7 ≤ v4 then v4 else v7 : Int32)), (5, .int w0), (6, .int (v6 + 1))] [] M b (QI K)) : X mM_bestTurn 136 [(0, .ref v0), (1, .int v1), (2, .int v2), (4, .int v4), (6, .int v6), (7, .int v7)] [.int w0] M b (QI K) := by
  refine x_wf (fun hw => ?_)
  refine x_istore (pc := 136) dM_bestTurn_136 (by decide) (L' := [(5, .int w0), (0, .ref v0), (1, .int v1), (2, .int v2), (4, .int v4), (6, .int v6), (7, .int v7)]) rfl ?_
  refine x_iload (pc := 138) dM_bestTurn_138 (q := 6) rfl ?_
  refine x_iload (pc := 140) dM_bestTurn_140 (q := 4) rfl ?_
  suffices hJ : X mM_bestTurn 152 [(5, .int w0), (0, .ref v0), (1, .int v1), (2, .int v2), (4, .int v4), (6, .int v6), (7, .int v7)] [.int (if v7 ≤ v4 then v4 else v7 : Int32)] M b (QI K) by
    refine x_icmp_le (pc := 142) dM_bestTurn_142 (t := 150) rfl (fun q1 => ?_) (fun q1 => ?_)
    · refine x_iload (pc := 150) dM_bestTurn_150 (q := 4) rfl ?_
      first | (rw [if_pos q1] at hJ; exact hJ) | (simp only [if_pos q1] at hJ ⊢; exact hJ)
    · refine x_iload (pc := 145) dM_bestTurn_145 (q := 6) rfl ?_
      refine x_goto (pc := 147) dM_bestTurn_147 (t := 152) rfl ?_
      first | (rw [if_neg q1] at hJ; exact hJ) | (simp only [if_neg q1] at hJ ⊢; exact hJ)
  refine x_istore (pc := 152) dM_bestTurn_152 (by decide) (L' := [(4, .int (if v7 ≤ v4 then v4 else v7 : Int32)), (5, .int w0), (0, .ref v0), (1, .int v1), (2, .int v2), (6, .int v6), (7, .int v7)]) rfl ?_
  refine x_iinc (pc := 154) dM_bestTurn_154 (q := 5) rfl (v := v6 + 1) rfl (by decide) (L' := [(6, .int (v6 + 1)), (4, .int (if v7 ≤ v4 then v4 else v7 : Int32)), (5, .int w0), (0, .ref v0), (1, .int v1), (2, .int v2), (7, .int v7)]) rfl ?_
  refine x_goto (pc := 157) dM_bestTurn_157 (t := 25) rfl ?_
  exact x_loc [3, 4, 5, 1, 2, 0] rfl h

theorem dM_turn_0 : decode (mB mM_turn) 0 = .ok (.iload_n 1, 1) := op27 (by decide +kernel)
theorem dM_turn_1 : decode (mB mM_turn) 1 = .ok (.i2l, 1) := op133 (by decide +kernel)
theorem dM_turn_2 : decode (mB mM_turn) 2 = .ok (.lconst 0, 1) := op9 (by decide +kernel)
theorem dM_turn_3 : decode (mB mM_turn) 3 = .ok (.ldc2_w 204, 3) := op20 0 204 (by decide +kernel)
theorem dM_turn_6 : decode (mB mM_turn) 6 = .ok (.invokestatic 126, 3) := op184 0 126 (by decide +kernel)
theorem dM_turn_9 : decode (mB mM_turn) 9 = .ok (.ifCond .ne 5, 3) := op154 0 5 (by decide +kernel)
theorem dM_turn_12 : decode (mB mM_turn) 12 = .ok (.iconst (-1), 1) := op2 (by decide +kernel)
theorem dM_turn_13 : decode (mB mM_turn) 13 = .ok (.ireturn, 1) := op172 (by decide +kernel)
theorem dM_turn_14 : decode (mB mM_turn) 14 = .ok (.aload_n 0, 1) := op42 (by decide +kernel)
theorem dM_turn_15 : decode (mB mM_turn) 15 = .ok (.invokevirtual 319, 3) := op182 1 63 (by decide +kernel)
theorem dM_turn_18 : decode (mB mM_turn) 18 = .ok (.aload_n 0, 1) := op42 (by decide +kernel)
theorem dM_turn_19 : decode (mB mM_turn) 19 = .ok (.invokevirtual 322, 3) := op182 1 66 (by decide +kernel)
theorem dM_turn_22 : decode (mB mM_turn) 22 = .ok (.bipush (-4), 2) := op16 252 (by decide +kernel)
theorem dM_turn_24 : decode (mB mM_turn) 24 = .ok (.istore_n 2, 1) := op61 (by decide +kernel)
theorem dM_turn_25 : decode (mB mM_turn) 25 = .ok (.bipush (-4), 2) := op16 252 (by decide +kernel)
theorem dM_turn_27 : decode (mB mM_turn) 27 = .ok (.istore_n 3, 1) := op62 (by decide +kernel)
theorem dM_turn_28 : decode (mB mM_turn) 28 = .ok (.bipush (-4), 2) := op16 252 (by decide +kernel)
theorem dM_turn_30 : decode (mB mM_turn) 30 = .ok (.istore 4, 2) := op54 4 (by decide +kernel)
theorem dM_turn_32 : decode (mB mM_turn) 32 = .ok (.bipush (-4), 2) := op16 252 (by decide +kernel)
theorem dM_turn_34 : decode (mB mM_turn) 34 = .ok (.istore 5, 2) := op54 5 (by decide +kernel)
theorem dM_turn_36 : decode (mB mM_turn) 36 = .ok (.iconst 0, 1) := op3 (by decide +kernel)
theorem dM_turn_37 : decode (mB mM_turn) 37 = .ok (.istore 6, 2) := op54 6 (by decide +kernel)
theorem dM_turn_39 : decode (mB mM_turn) 39 = .ok (.iload 6, 2) := op21 6 (by decide +kernel)
theorem dM_turn_41 : decode (mB mM_turn) 41 = .ok (.bipush 8, 2) := op16 8 (by decide +kernel)
theorem dM_turn_43 : decode (mB mM_turn) 43 = .ok (.if_icmp .ge 136, 3) := op162 0 136 (by decide +kernel)
theorem dM_turn_46 : decode (mB mM_turn) 46 = .ok (.iconst 0, 1) := op3 (by decide +kernel)
theorem dM_turn_47 : decode (mB mM_turn) 47 = .ok (.istore 7, 2) := op54 7 (by decide +kernel)
theorem dM_turn_49 : decode (mB mM_turn) 49 = .ok (.iload 7, 2) := op21 7 (by decide +kernel)
theorem dM_turn_51 : decode (mB mM_turn) 51 = .ok (.sipush 128, 3) := op17 0 128 (by decide +kernel)
theorem dM_turn_54 : decode (mB mM_turn) 54 = .ok (.if_icmp .ge 113, 3) := op162 0 113 (by decide +kernel)
theorem dM_turn_57 : decode (mB mM_turn) 57 = .ok (.aload_n 0, 1) := op42 (by decide +kernel)
theorem dM_turn_58 : decode (mB mM_turn) 58 = .ok (.getfield 36, 3) := op180 0 36 (by decide +kernel)
theorem dM_turn_61 : decode (mB mM_turn) 61 = .ok (.iconst 0, 1) := op3 (by decide +kernel)
theorem dM_turn_62 : decode (mB mM_turn) 62 = .ok (.iaload, 1) := op46 (by decide +kernel)
theorem dM_turn_63 : decode (mB mM_turn) 63 = .ok (.iload 6, 2) := op21 6 (by decide +kernel)
theorem dM_turn_65 : decode (mB mM_turn) 65 = .ok (.ishr, 1) := op122 (by decide +kernel)
theorem dM_turn_66 : decode (mB mM_turn) 66 = .ok (.iconst 1, 1) := op4 (by decide +kernel)
theorem dM_turn_67 : decode (mB mM_turn) 67 = .ok (.iand, 1) := op126 (by decide +kernel)
theorem dM_turn_68 : decode (mB mM_turn) 68 = .ok (.iconst 1, 1) := op4 (by decide +kernel)
theorem dM_turn_69 : decode (mB mM_turn) 69 = .ok (.if_icmp .ne 98, 3) := op160 0 98 (by decide +kernel)
theorem dM_turn_72 : decode (mB mM_turn) 72 = .ok (.aload_n 0, 1) := op42 (by decide +kernel)
theorem dM_turn_73 : decode (mB mM_turn) 73 = .ok (.iload 6, 2) := op21 6 (by decide +kernel)
theorem dM_turn_75 : decode (mB mM_turn) 75 = .ok (.iload 7, 2) := op21 7 (by decide +kernel)
theorem dM_turn_77 : decode (mB mM_turn) 77 = .ok (.bipush 64, 2) := op16 64 (by decide +kernel)
theorem dM_turn_79 : decode (mB mM_turn) 79 = .ok (.idiv, 1) := op108 (by decide +kernel)
theorem dM_turn_80 : decode (mB mM_turn) 80 = .ok (.iload 7, 2) := op21 7 (by decide +kernel)
theorem dM_turn_82 : decode (mB mM_turn) 82 = .ok (.bipush 64, 2) := op16 64 (by decide +kernel)
theorem dM_turn_84 : decode (mB mM_turn) 84 = .ok (.irem, 1) := op112 (by decide +kernel)
theorem dM_turn_85 : decode (mB mM_turn) 85 = .ok (.invokevirtual 351, 3) := op182 1 95 (by decide +kernel)
theorem dM_turn_88 : decode (mB mM_turn) 88 = .ok (.istore 8, 2) := op54 8 (by decide +kernel)
theorem dM_turn_90 : decode (mB mM_turn) 90 = .ok (.iload 8, 2) := op21 8 (by decide +kernel)
theorem dM_turn_92 : decode (mB mM_turn) 92 = .ok (.iload_n 2, 1) := op28 (by decide +kernel)
theorem dM_turn_93 : decode (mB mM_turn) 93 = .ok (.if_icmp .le 7, 3) := op164 0 7 (by decide +kernel)
theorem dM_turn_96 : decode (mB mM_turn) 96 = .ok (.iconst 1, 1) := op4 (by decide +kernel)
theorem dM_turn_97 : decode (mB mM_turn) 97 = .ok (.goto 4, 3) := op167 0 4 (by decide +kernel)
theorem dM_turn_100 : decode (mB mM_turn) 100 = .ok (.iconst 0, 1) := op3 (by decide +kernel)
theorem dM_turn_101 : decode (mB mM_turn) 101 = .ok (.istore 9, 2) := op54 9 (by decide +kernel)
theorem dM_turn_103 : decode (mB mM_turn) 103 = .ok (.iload 9, 2) := op21 9 (by decide +kernel)
theorem dM_turn_105 : decode (mB mM_turn) 105 = .ok (.ifCond .eq 8, 3) := op153 0 8 (by decide +kernel)
theorem dM_turn_108 : decode (mB mM_turn) 108 = .ok (.iload 6, 2) := op21 6 (by decide +kernel)
theorem dM_turn_110 : decode (mB mM_turn) 110 = .ok (.goto 4, 3) := op167 0 4 (by decide +kernel)
theorem dM_turn_113 : decode (mB mM_turn) 113 = .ok (.iload_n 3, 1) := op29 (by decide +kernel)
theorem dM_turn_114 : decode (mB mM_turn) 114 = .ok (.istore_n 3, 1) := op62 (by decide +kernel)
theorem dM_turn_115 : decode (mB mM_turn) 115 = .ok (.iload 9, 2) := op21 9 (by decide +kernel)
theorem dM_turn_117 : decode (mB mM_turn) 117 = .ok (.ifCond .eq 11, 3) := op153 0 11 (by decide +kernel)
theorem dM_turn_120 : decode (mB mM_turn) 120 = .ok (.iload 7, 2) := op21 7 (by decide +kernel)
theorem dM_turn_122 : decode (mB mM_turn) 122 = .ok (.bipush 64, 2) := op16 64 (by decide +kernel)
theorem dM_turn_124 : decode (mB mM_turn) 124 = .ok (.idiv, 1) := op108 (by decide +kernel)
theorem dM_turn_125 : decode (mB mM_turn) 125 = .ok (.goto 5, 3) := op167 0 5 (by decide +kernel)
theorem dM_turn_128 : decode (mB mM_turn) 128 = .ok (.iload 4, 2) := op21 4 (by decide +kernel)
theorem dM_turn_130 : decode (mB mM_turn) 130 = .ok (.istore 4, 2) := op54 4 (by decide +kernel)
theorem dM_turn_132 : decode (mB mM_turn) 132 = .ok (.iload 9, 2) := op21 9 (by decide +kernel)
theorem dM_turn_134 : decode (mB mM_turn) 134 = .ok (.ifCond .eq 11, 3) := op153 0 11 (by decide +kernel)
theorem dM_turn_137 : decode (mB mM_turn) 137 = .ok (.iload 7, 2) := op21 7 (by decide +kernel)
theorem dM_turn_139 : decode (mB mM_turn) 139 = .ok (.bipush 64, 2) := op16 64 (by decide +kernel)
theorem dM_turn_141 : decode (mB mM_turn) 141 = .ok (.irem, 1) := op112 (by decide +kernel)
theorem dM_turn_142 : decode (mB mM_turn) 142 = .ok (.goto 5, 3) := op167 0 5 (by decide +kernel)
theorem dM_turn_145 : decode (mB mM_turn) 145 = .ok (.iload 5, 2) := op21 5 (by decide +kernel)
theorem dM_turn_147 : decode (mB mM_turn) 147 = .ok (.istore 5, 2) := op54 5 (by decide +kernel)
theorem dM_turn_149 : decode (mB mM_turn) 149 = .ok (.iload 9, 2) := op21 9 (by decide +kernel)
theorem dM_turn_151 : decode (mB mM_turn) 151 = .ok (.ifCond .eq 8, 3) := op153 0 8 (by decide +kernel)
theorem dM_turn_154 : decode (mB mM_turn) 154 = .ok (.iload 8, 2) := op21 8 (by decide +kernel)
theorem dM_turn_156 : decode (mB mM_turn) 156 = .ok (.goto 4, 3) := op167 0 4 (by decide +kernel)
theorem dM_turn_159 : decode (mB mM_turn) 159 = .ok (.iload_n 2, 1) := op28 (by decide +kernel)
theorem dM_turn_160 : decode (mB mM_turn) 160 = .ok (.istore_n 2, 1) := op61 (by decide +kernel)
theorem dM_turn_161 : decode (mB mM_turn) 161 = .ok (.iinc 7 1, 3) := op132 7 1 (by decide +kernel)
theorem dM_turn_164 : decode (mB mM_turn) 164 = .ok (.goto (-115), 3) := op167 255 141 (by decide +kernel)
theorem dM_turn_167 : decode (mB mM_turn) 167 = .ok (.aload_n 0, 1) := op42 (by decide +kernel)
theorem dM_turn_168 : decode (mB mM_turn) 168 = .ok (.iload 6, 2) := op21 6 (by decide +kernel)
theorem dM_turn_170 : decode (mB mM_turn) 170 = .ok (.invokevirtual 286, 3) := op182 1 30 (by decide +kernel)
theorem dM_turn_173 : decode (mB mM_turn) 173 = .ok (.iinc 6 1, 3) := op132 6 1 (by decide +kernel)
theorem dM_turn_176 : decode (mB mM_turn) 176 = .ok (.goto (-137), 3) := op167 255 119 (by decide +kernel)
theorem dM_turn_179 : decode (mB mM_turn) 179 = .ok (.iload_n 1, 1) := op27 (by decide +kernel)
theorem dM_turn_180 : decode (mB mM_turn) 180 = .ok (.ifCond .ne 7, 3) := op154 0 7 (by decide +kernel)
theorem dM_turn_183 : decode (mB mM_turn) 183 = .ok (.iload_n 2, 1) := op28 (by decide +kernel)
theorem dM_turn_184 : decode (mB mM_turn) 184 = .ok (.goto 24, 3) := op167 0 24 (by decide +kernel)
theorem dM_turn_187 : decode (mB mM_turn) 187 = .ok (.iload_n 1, 1) := op27 (by decide +kernel)
theorem dM_turn_188 : decode (mB mM_turn) 188 = .ok (.iconst 1, 1) := op4 (by decide +kernel)
theorem dM_turn_189 : decode (mB mM_turn) 189 = .ok (.if_icmp .ne 7, 3) := op160 0 7 (by decide +kernel)
theorem dM_turn_192 : decode (mB mM_turn) 192 = .ok (.iload_n 3, 1) := op29 (by decide +kernel)
theorem dM_turn_193 : decode (mB mM_turn) 193 = .ok (.goto 15, 3) := op167 0 15 (by decide +kernel)
theorem dM_turn_196 : decode (mB mM_turn) 196 = .ok (.iload_n 1, 1) := op27 (by decide +kernel)
theorem dM_turn_197 : decode (mB mM_turn) 197 = .ok (.iconst 2, 1) := op5 (by decide +kernel)
theorem dM_turn_198 : decode (mB mM_turn) 198 = .ok (.if_icmp .ne 8, 3) := op160 0 8 (by decide +kernel)
theorem dM_turn_201 : decode (mB mM_turn) 201 = .ok (.iload 4, 2) := op21 4 (by decide +kernel)
theorem dM_turn_203 : decode (mB mM_turn) 203 = .ok (.goto 5, 3) := op167 0 5 (by decide +kernel)
theorem dM_turn_206 : decode (mB mM_turn) 206 = .ok (.iload 5, 2) := op21 5 (by decide +kernel)
theorem dM_turn_208 : decode (mB mM_turn) 208 = .ok (.ireturn, 1) := op172 (by decide +kernel)

theorem vM_turn_0 {M : Mm} {b : Nat × Nat} {K : Int32 → Mm → Prop} {v0 : Nat} {v1 : Int32}  
    (h : CI mM_in [.long ((v1).toInt64), .long 0, .long 3] M (fun rv N => X mM_turn 9 [(0, .ref v0), (1, .int v1)] [.int rv] N b (QI K))) : X mM_turn 0 [(0, .ref v0), (1, .int v1)] [] M b (QI K) := by
  refine x_wf (fun hw => ?_)
  refine x_iload_n (pc := 0) dM_turn_0 rfl (q := 1) rfl ?_
  refine x_i2l (pc := 1) dM_turn_1 ?_
  refine x_lconst (pc := 2) dM_turn_2 (v := 0) rfl ?_
  refine x_ldc2 (pc := 3) dM_turn_3 klM_204 ?_
  exact x_invS (pc := 6) dM_turn_6 (S := []) (As := [.long ((v1).toInt64), .long 0, .long 3]) mlM_126 hM_in rfl ⟨by decide, by decide⟩ ⟨Nat.zero_le _, Nat.zero_le _⟩ rfl (Nat.le_of_ble_eq_true rfl) (aftI (b' := b) ⟨Nat.le_refl _, Nat.le_refl _⟩ (fun rv N h => h) h)

theorem vM_turn_9 {M : Mm} {b : Nat × Nat} {K : Int32 → Mm → Prop} {v0 : Nat} {v1 : Int32} {w0 : Int32} (kv0 : v0 % 64 = 11) 
    (h : (¬ w0 = 0 → (CV mM_findAll [.ref v0] M (fun N => X mM_turn 18 [(0, .ref v0), (1, .int v1)] [] N b (QI K)))) ∧ (w0 = 0 → (K (-1) M))) : X mM_turn 9 [(0, .ref v0), (1, .int v1)] [.int w0] M b (QI K) := by
  refine x_wf (fun hw => ?_)
  obtain ⟨g1_0, g1_1⟩ := h
  refine x_if_ne (pc := 9) dM_turn_9 (t := 14) rfl (fun q1 => ?_) (fun q1 => ?_)
  · refine x_aload_n (pc := 14) dM_turn_14 rfl (q := 0) rfl ?_
    have h := g1_0 q1
    exact x_invV (pc := 15) dM_turn_15 (c := 11) (S := []) (As := []) mlM_319 hM_findAll rfl (by decide) rfl kv0 ⟨by decide, by decide⟩ ⟨Nat.zero_le _, Nat.zero_le _⟩ rfl (Nat.le_of_ble_eq_true rfl) (aftV (b' := b) ⟨Nat.le_refl _, Nat.le_refl _⟩ (fun N h => h) h)
  · refine x_iconst (pc := 12) dM_turn_12 (v := (-1)) rfl ?_
    have h := g1_1 q1
    exact x_retQI (pc := 13) dM_turn_13 rfl rfl h

theorem vM_turn_18 {M : Mm} {b : Nat × Nat} {K : Int32 → Mm → Prop} {v0 : Nat} {v1 : Int32} (kv0 : v0 % 64 = 11) 
    (h : CV mM_keepHeld [.ref v0] M (fun N => X mM_turn 22 [(0, .ref v0), (1, .int v1)] [] N b (QI K))) : X mM_turn 18 [(0, .ref v0), (1, .int v1)] [] M b (QI K) := by
  refine x_wf (fun hw => ?_)
  refine x_aload_n (pc := 18) dM_turn_18 rfl (q := 0) rfl ?_
  exact x_invV (pc := 19) dM_turn_19 (c := 11) (S := []) (As := []) mlM_322 hM_keepHeld rfl (by decide) rfl kv0 ⟨by decide, by decide⟩ ⟨Nat.zero_le _, Nat.zero_le _⟩ rfl (Nat.le_of_ble_eq_true rfl) (aftV (b' := b) ⟨Nat.le_refl _, Nat.le_refl _⟩ (fun N h => h) h)

theorem vM_turn_22 {M : Mm} {b : Nat × Nat} {K : Int32 → Mm → Prop} {v0 : Nat} {v1 : Int32}  
    (h : X mM_turn 39 [(0, .ref v0), (1, .int v1), (2, .int (-4)), (3, .int (-4)), (4, .int (-4)), (5, .int (-4)), (6, .int 0)] [] M b (QI K)) : X mM_turn 22 [(0, .ref v0), (1, .int v1)] [] M b (QI K) := by
  refine x_wf (fun hw => ?_)
  refine x_bipush (pc := 22) dM_turn_22 (v := (-4)) rfl ?_
  refine x_istore_n (pc := 24) dM_turn_24 rfl (by decide) (L' := [(2, .int (-4)), (0, .ref v0), (1, .int v1)]) rfl ?_
  refine x_bipush (pc := 25) dM_turn_25 (v := (-4)) rfl ?_
  refine x_istore_n (pc := 27) dM_turn_27 rfl (by decide) (L' := [(3, .int (-4)), (2, .int (-4)), (0, .ref v0), (1, .int v1)]) rfl ?_
  refine x_bipush (pc := 28) dM_turn_28 (v := (-4)) rfl ?_
  refine x_istore (pc := 30) dM_turn_30 (by decide) (L' := [(4, .int (-4)), (3, .int (-4)), (2, .int (-4)), (0, .ref v0), (1, .int v1)]) rfl ?_
  refine x_bipush (pc := 32) dM_turn_32 (v := (-4)) rfl ?_
  refine x_istore (pc := 34) dM_turn_34 (by decide) (L' := [(5, .int (-4)), (4, .int (-4)), (3, .int (-4)), (2, .int (-4)), (0, .ref v0), (1, .int v1)]) rfl ?_
  refine x_iconst (pc := 36) dM_turn_36 (v := 0) rfl ?_
  refine x_istore (pc := 37) dM_turn_37 (by decide) (L' := [(6, .int 0), (5, .int (-4)), (4, .int (-4)), (3, .int (-4)), (2, .int (-4)), (0, .ref v0), (1, .int v1)]) rfl ?_
  exact x_loc [5, 6, 4, 3, 2, 1, 0] rfl h

theorem vM_turn_39 {M : Mm} {b : Nat × Nat} {K : Int32 → Mm → Prop} {v0 : Nat} {v1 : Int32} {v2 : Int32} {v3 : Int32} {v4 : Int32} {v5 : Int32} {v6 : Int32}  
    (h : ((8 ≤ v6 ∧ ¬ v1 = 0 ∧ ¬ v1 = 1 ∧ ¬ v1 = 2) → (K v5 M)) ∧ ((8 ≤ v6 ∧ ¬ v1 = 0 ∧ ¬ v1 = 1 ∧ v1 = 2) → (K v4 M)) ∧ ((8 ≤ v6 ∧ ¬ v1 = 0 ∧ v1 = 1) → (K v3 M)) ∧ ((8 ≤ v6 ∧ v1 = 0) → (K v2 M)) ∧ (¬ 8 ≤ v6 → (X mM_turn 49 [(0, .ref v0), (1, .int v1), (2, .int v2), (3, .int v3), (4, .int v4), (5, .int v5), (6, .int v6), (7, .int 0)] [] M b (QI K)))) : X mM_turn 39 [(0, .ref v0), (1, .int v1), (2, .int v2), (3, .int v3), (4, .int v4), (5, .int v5), (6, .int v6)] [] M b (QI K) := by
  refine x_wf (fun hw => ?_)
  refine x_iload (pc := 39) dM_turn_39 (q := 6) rfl ?_
  refine x_bipush (pc := 41) dM_turn_41 (v := 8) rfl ?_
  obtain ⟨g1_0, g1_1, g1_2, g1_3, g1_4⟩ := h
  refine x_icmp_ge (pc := 43) dM_turn_43 (t := 179) rfl (fun q1 => ?_) (fun q1 => ?_)
  · refine x_iload_n (pc := 179) dM_turn_179 rfl (q := 1) rfl ?_
    refine x_if_ne (pc := 180) dM_turn_180 (t := 187) rfl (fun q2 => ?_) (fun q2 => ?_)
    · refine x_iload_n (pc := 187) dM_turn_187 rfl (q := 1) rfl ?_
      refine x_iconst (pc := 188) dM_turn_188 (v := 1) rfl ?_
      refine x_icmp_ne (pc := 189) dM_turn_189 (t := 196) rfl (fun q3 => ?_) (fun q3 => ?_)
      · refine x_iload_n (pc := 196) dM_turn_196 rfl (q := 1) rfl ?_
        refine x_iconst (pc := 197) dM_turn_197 (v := 2) rfl ?_
        refine x_icmp_ne (pc := 198) dM_turn_198 (t := 206) rfl (fun q4 => ?_) (fun q4 => ?_)
        · refine x_iload (pc := 206) dM_turn_206 (q := 5) rfl ?_
          have h := g1_0 ⟨q1, q2, q3, q4⟩
          exact x_retQI (pc := 208) dM_turn_208 rfl rfl h
        · refine x_iload (pc := 201) dM_turn_201 (q := 4) rfl ?_
          refine x_goto (pc := 203) dM_turn_203 (t := 208) rfl ?_
          have h := g1_1 ⟨q1, q2, q3, q4⟩
          exact x_retQI (pc := 208) dM_turn_208 rfl rfl h
      · refine x_iload_n (pc := 192) dM_turn_192 rfl (q := 3) rfl ?_
        refine x_goto (pc := 193) dM_turn_193 (t := 208) rfl ?_
        have h := g1_2 ⟨q1, q2, q3⟩
        exact x_retQI (pc := 208) dM_turn_208 rfl rfl h
    · refine x_iload_n (pc := 183) dM_turn_183 rfl (q := 2) rfl ?_
      refine x_goto (pc := 184) dM_turn_184 (t := 208) rfl ?_
      have h := g1_3 ⟨q1, q2⟩
      exact x_retQI (pc := 208) dM_turn_208 rfl rfl h
  · refine x_iconst (pc := 46) dM_turn_46 (v := 0) rfl ?_
    have h := g1_4 q1
    refine x_istore (pc := 47) dM_turn_47 (by decide) (L' := [(7, .int 0), (0, .ref v0), (1, .int v1), (2, .int v2), (3, .int v3), (4, .int v4), (5, .int v5), (6, .int v6)]) rfl ?_
    exact x_loc [1, 2, 3, 4, 5, 6, 7, 0] rfl h

theorem vM_turn_49 {M : Mm} {b : Nat × Nat} {K : Int32 → Mm → Prop} {v0 : Nat} {v1 : Int32} {v2 : Int32} {v3 : Int32} {v4 : Int32} {v5 : Int32} {v6 : Int32} {v7 : Int32} {r1 : Nat} (kv0 : v0 % 64 = 11) (e1 : gr M v0 18 = some r1)
    (h : (((128 ≤ v7) ∨ (¬ 128 ≤ v7 ∧ ¬ (((gi M r1 0) >>> (v6 &&& 31)) &&& 1) = 1)) → (CV mM_findOne [.ref v0, .int v6] M (fun N => X mM_turn 173 [(0, .ref v0), (1, .int v1), (2, .int v2), (3, .int v3), (4, .int v4), (5, .int v5), (6, .int v6)] [] N b (QI K)))) ∧ ((¬ 128 ≤ v7 ∧ (((gi M r1 0) >>> (v6 &&& 31)) &&& 1) = 1) → (CI mM_turnsBy [.ref v0, .int v6, .int (v7 / 64), .int (v7 - v7 / 64 * 64)] M (fun rv N => X mM_turn 88 [(0, .ref v0), (1, .int v1), (2, .int v2), (3, .int v3), (4, .int v4), (5, .int v5), (6, .int v6), (7, .int v7)] [.int rv] N b (QI K))))) : X mM_turn 49 [(0, .ref v0), (1, .int v1), (2, .int v2), (3, .int v3), (4, .int v4), (5, .int v5), (6, .int v6), (7, .int v7)] [] M b (QI K) := by
  refine x_wf (fun hw => ?_)
  refine x_iload (pc := 49) dM_turn_49 (q := 7) rfl ?_
  refine x_sipush (pc := 51) dM_turn_51 (v := 128) rfl ?_
  obtain ⟨g1_0, g1_1⟩ := h
  have g1_k0 : (128 ≤ v7) ∨ (¬ 128 ≤ v7 ∧ ¬ (((gi M r1 0) >>> (v6 &&& 31)) &&& 1) = 1) → X mM_turn 167 [(0, .ref v0), (1, .int v1), (2, .int v2), (3, .int v3), (4, .int v4), (5, .int v5), (6, .int v6), (7, .int v7)] [] M b (QI K) := fun q => by
    have h := g1_0 q
    refine x_aload_n (pc := 167) dM_turn_167 rfl (q := 0) rfl ?_
    refine x_iload (pc := 168) dM_turn_168 (q := 6) rfl ?_
    exact x_invV (pc := 170) dM_turn_170 (c := 11) (S := []) (As := [.int v6]) mlM_286 hM_findOne rfl (by decide) rfl kv0 ⟨by decide, by decide⟩ ⟨Nat.zero_le _, Nat.zero_le _⟩ rfl (Nat.le_of_ble_eq_true rfl) (aftV (b' := b) ⟨Nat.le_refl _, Nat.le_refl _⟩ (fun N h => x_loc [0, 1, 2, 3, 4, 5, 6] rfl h) h)
  refine x_icmp_ge (pc := 54) dM_turn_54 (t := 167) rfl (fun q1 => ?_) (fun q1 => ?_)
  · exact g1_k0 (Or.inl q1)
  · refine x_aload_n (pc := 57) dM_turn_57 rfl (q := 0) rfl ?_
    refine x_getR (pc := 58) dM_turn_58 kv0 flM_36 rfl e1 ?_
    refine x_iconst (pc := 61) dM_turn_61 (v := 0) rfl ?_
    refine x_aldIj (pc := 62) (j := 0) (Or.inl ⟨rfl, rfl⟩) dM_turn_62 (wfk hw e1 kv0) ak_15 (by decide) (by unfold vp_in; decide) ?_
    refine x_iload (pc := 63) dM_turn_63 (q := 6) rfl ?_
    refine x_ishr (pc := 65) dM_turn_65 ?_
    refine x_iconst (pc := 66) dM_turn_66 (v := 1) rfl ?_
    refine x_iand (pc := 67) dM_turn_67 ?_
    refine x_iconst (pc := 68) dM_turn_68 (v := 1) rfl ?_
    refine x_icmp_ne (pc := 69) dM_turn_69 (t := 167) rfl (fun q2 => ?_) (fun q2 => ?_)
    · exact g1_k0 (Or.inr ⟨q1, q2⟩)
    · refine x_aload_n (pc := 72) dM_turn_72 rfl (q := 0) rfl ?_
      refine x_iload (pc := 73) dM_turn_73 (q := 6) rfl ?_
      refine x_iload (pc := 75) dM_turn_75 (q := 7) rfl ?_
      refine x_bipush (pc := 77) dM_turn_77 (v := 64) rfl ?_
      refine x_idiv (pc := 79) dM_turn_79 (by decide) ?_
      refine x_iload (pc := 80) dM_turn_80 (q := 7) rfl ?_
      refine x_bipush (pc := 82) dM_turn_82 (v := 64) rfl ?_
      refine x_irem (pc := 84) dM_turn_84 (by decide) ?_
      have h := g1_1 ⟨q1, q2⟩
      exact x_invV (pc := 85) dM_turn_85 (c := 11) (S := []) (As := [.int v6, .int (v7 / 64), .int (v7 - v7 / 64 * 64)]) mlM_351 hM_turnsBy rfl (by decide) rfl kv0 ⟨by decide, by decide⟩ ⟨Nat.zero_le _, Nat.zero_le _⟩ rfl (Nat.le_of_ble_eq_true rfl) (aftI (b' := b) ⟨Nat.le_refl _, Nat.le_refl _⟩ (fun rv N h => h) h)

theorem vM_turn_88 {M : Mm} {b : Nat × Nat} {K : Int32 → Mm → Prop} {v0 : Nat} {v1 : Int32} {v2 : Int32} {v3 : Int32} {v4 : Int32} {v5 : Int32} {v6 : Int32} {v7 : Int32} {w0 : Int32}  
    (h : X mM_turn 49 [(0, .ref v0), (1, .int v1), (2, .int (if (if w0 ≤ v2 then 0 else 1 : Int32) = 0 then v2 else w0 : Int32)), (3, .int (if (if w0 ≤ v2 then 0 else 1 : Int32) = 0 then v3 else v6 : Int32)), (4, .int (if (if w0 ≤ v2 then 0 else 1 : Int32) = 0 then v4 else (v7 / 64) : Int32)), (5, .int (if (if w0 ≤ v2 then 0 else 1 : Int32) = 0 then v5 else (v7 - v7 / 64 * 64) : Int32)), (6, .int v6), (7, .int (v7 + 1))] [] M b (QI K)) : X mM_turn 88 [(0, .ref v0), (1, .int v1), (2, .int v2), (3, .int v3), (4, .int v4), (5, .int v5), (6, .int v6), (7, .int v7)] [.int w0] M b (QI K) := by
  refine x_wf (fun hw => ?_)
  refine x_istore (pc := 88) dM_turn_88 (by decide) (L' := [(8, .int w0), (0, .ref v0), (1, .int v1), (2, .int v2), (3, .int v3), (4, .int v4), (5, .int v5), (6, .int v6), (7, .int v7)]) rfl ?_
  refine x_iload (pc := 90) dM_turn_90 (q := 0) rfl ?_
  refine x_iload_n (pc := 92) dM_turn_92 rfl (q := 3) rfl ?_
  suffices hJ : X mM_turn 101 [(8, .int w0), (0, .ref v0), (1, .int v1), (2, .int v2), (3, .int v3), (4, .int v4), (5, .int v5), (6, .int v6), (7, .int v7)] [.int (if w0 ≤ v2 then 0 else 1 : Int32)] M b (QI K) by
    refine x_icmp_le (pc := 93) dM_turn_93 (t := 100) rfl (fun q1 => ?_) (fun q1 => ?_)
    · refine x_iconst (pc := 100) dM_turn_100 (v := 0) rfl ?_
      first | (rw [if_pos q1] at hJ; exact hJ) | (simp only [if_pos q1] at hJ ⊢; exact hJ)
    · refine x_iconst (pc := 96) dM_turn_96 (v := 1) rfl ?_
      refine x_goto (pc := 97) dM_turn_97 (t := 101) rfl ?_
      first | (rw [if_neg q1] at hJ; exact hJ) | (simp only [if_neg q1] at hJ ⊢; exact hJ)
  refine x_istore (pc := 101) dM_turn_101 (by decide) (L' := [(9, .int (if w0 ≤ v2 then 0 else 1 : Int32)), (8, .int w0), (0, .ref v0), (1, .int v1), (2, .int v2), (3, .int v3), (4, .int v4), (5, .int v5), (6, .int v6), (7, .int v7)]) rfl ?_
  refine x_iload (pc := 103) dM_turn_103 (q := 0) rfl ?_
  suffices hJ : X mM_turn 114 [(9, .int (if w0 ≤ v2 then 0 else 1 : Int32)), (8, .int w0), (0, .ref v0), (1, .int v1), (2, .int v2), (3, .int v3), (4, .int v4), (5, .int v5), (6, .int v6), (7, .int v7)] [.int (if (if w0 ≤ v2 then 0 else 1 : Int32) = 0 then v3 else v6 : Int32)] M b (QI K) by
    refine x_if_eq (pc := 105) dM_turn_105 (t := 113) rfl (fun q2 => ?_) (fun q2 => ?_)
    · refine x_iload_n (pc := 113) dM_turn_113 rfl (q := 5) rfl ?_
      first | (rw [if_pos q2] at hJ; exact hJ) | (simp only [if_pos q2] at hJ ⊢; exact hJ)
    · refine x_iload (pc := 108) dM_turn_108 (q := 8) rfl ?_
      refine x_goto (pc := 110) dM_turn_110 (t := 114) rfl ?_
      first | (rw [if_neg q2] at hJ; exact hJ) | (simp only [if_neg q2] at hJ ⊢; exact hJ)
  refine x_istore_n (pc := 114) dM_turn_114 rfl (by decide) (L' := [(3, .int (if (if w0 ≤ v2 then 0 else 1 : Int32) = 0 then v3 else v6 : Int32)), (9, .int (if w0 ≤ v2 then 0 else 1 : Int32)), (8, .int w0), (0, .ref v0), (1, .int v1), (2, .int v2), (4, .int v4), (5, .int v5), (6, .int v6), (7, .int v7)]) rfl ?_
  refine x_iload (pc := 115) dM_turn_115 (q := 1) rfl ?_
  suffices hJ : X mM_turn 130 [(3, .int (if (if w0 ≤ v2 then 0 else 1 : Int32) = 0 then v3 else v6 : Int32)), (9, .int (if w0 ≤ v2 then 0 else 1 : Int32)), (8, .int w0), (0, .ref v0), (1, .int v1), (2, .int v2), (4, .int v4), (5, .int v5), (6, .int v6), (7, .int v7)] [.int (if (if w0 ≤ v2 then 0 else 1 : Int32) = 0 then v4 else (v7 / 64) : Int32)] M b (QI K) by
    refine x_if_eq (pc := 117) dM_turn_117 (t := 128) rfl (fun q3 => ?_) (fun q3 => ?_)
    · refine x_iload (pc := 128) dM_turn_128 (q := 6) rfl ?_
      first | (rw [if_pos q3] at hJ; exact hJ) | (simp only [if_pos q3] at hJ ⊢; exact hJ)
    · refine x_iload (pc := 120) dM_turn_120 (q := 9) rfl ?_
      refine x_bipush (pc := 122) dM_turn_122 (v := 64) rfl ?_
      refine x_idiv (pc := 124) dM_turn_124 (by decide) ?_
      refine x_goto (pc := 125) dM_turn_125 (t := 130) rfl ?_
      first | (rw [if_neg q3] at hJ; exact hJ) | (simp only [if_neg q3] at hJ ⊢; exact hJ)
  refine x_istore (pc := 130) dM_turn_130 (by decide) (L' := [(4, .int (if (if w0 ≤ v2 then 0 else 1 : Int32) = 0 then v4 else (v7 / 64) : Int32)), (3, .int (if (if w0 ≤ v2 then 0 else 1 : Int32) = 0 then v3 else v6 : Int32)), (9, .int (if w0 ≤ v2 then 0 else 1 : Int32)), (8, .int w0), (0, .ref v0), (1, .int v1), (2, .int v2), (5, .int v5), (6, .int v6), (7, .int v7)]) rfl ?_
  refine x_iload (pc := 132) dM_turn_132 (q := 2) rfl ?_
  suffices hJ : X mM_turn 147 [(4, .int (if (if w0 ≤ v2 then 0 else 1 : Int32) = 0 then v4 else (v7 / 64) : Int32)), (3, .int (if (if w0 ≤ v2 then 0 else 1 : Int32) = 0 then v3 else v6 : Int32)), (9, .int (if w0 ≤ v2 then 0 else 1 : Int32)), (8, .int w0), (0, .ref v0), (1, .int v1), (2, .int v2), (5, .int v5), (6, .int v6), (7, .int v7)] [.int (if (if w0 ≤ v2 then 0 else 1 : Int32) = 0 then v5 else (v7 - v7 / 64 * 64) : Int32)] M b (QI K) by
    refine x_if_eq (pc := 134) dM_turn_134 (t := 145) rfl (fun q4 => ?_) (fun q4 => ?_)
    · refine x_iload (pc := 145) dM_turn_145 (q := 7) rfl ?_
      first | (rw [if_pos q4] at hJ; exact hJ) | (simp only [if_pos q4] at hJ ⊢; exact hJ)
    · refine x_iload (pc := 137) dM_turn_137 (q := 9) rfl ?_
      refine x_bipush (pc := 139) dM_turn_139 (v := 64) rfl ?_
      refine x_irem (pc := 141) dM_turn_141 (by decide) ?_
      refine x_goto (pc := 142) dM_turn_142 (t := 147) rfl ?_
      first | (rw [if_neg q4] at hJ; exact hJ) | (simp only [if_neg q4] at hJ ⊢; exact hJ)
  refine x_istore (pc := 147) dM_turn_147 (by decide) (L' := [(5, .int (if (if w0 ≤ v2 then 0 else 1 : Int32) = 0 then v5 else (v7 - v7 / 64 * 64) : Int32)), (4, .int (if (if w0 ≤ v2 then 0 else 1 : Int32) = 0 then v4 else (v7 / 64) : Int32)), (3, .int (if (if w0 ≤ v2 then 0 else 1 : Int32) = 0 then v3 else v6 : Int32)), (9, .int (if w0 ≤ v2 then 0 else 1 : Int32)), (8, .int w0), (0, .ref v0), (1, .int v1), (2, .int v2), (6, .int v6), (7, .int v7)]) rfl ?_
  refine x_iload (pc := 149) dM_turn_149 (q := 3) rfl ?_
  suffices hJ : X mM_turn 160 [(5, .int (if (if w0 ≤ v2 then 0 else 1 : Int32) = 0 then v5 else (v7 - v7 / 64 * 64) : Int32)), (4, .int (if (if w0 ≤ v2 then 0 else 1 : Int32) = 0 then v4 else (v7 / 64) : Int32)), (3, .int (if (if w0 ≤ v2 then 0 else 1 : Int32) = 0 then v3 else v6 : Int32)), (9, .int (if w0 ≤ v2 then 0 else 1 : Int32)), (8, .int w0), (0, .ref v0), (1, .int v1), (2, .int v2), (6, .int v6), (7, .int v7)] [.int (if (if w0 ≤ v2 then 0 else 1 : Int32) = 0 then v2 else w0 : Int32)] M b (QI K) by
    refine x_if_eq (pc := 151) dM_turn_151 (t := 159) rfl (fun q5 => ?_) (fun q5 => ?_)
    · refine x_iload_n (pc := 159) dM_turn_159 rfl (q := 7) rfl ?_
      first | (rw [if_pos q5] at hJ; exact hJ) | (simp only [if_pos q5] at hJ ⊢; exact hJ)
    · refine x_iload (pc := 154) dM_turn_154 (q := 4) rfl ?_
      refine x_goto (pc := 156) dM_turn_156 (t := 160) rfl ?_
      first | (rw [if_neg q5] at hJ; exact hJ) | (simp only [if_neg q5] at hJ ⊢; exact hJ)
  refine x_istore_n (pc := 160) dM_turn_160 rfl (by decide) (L' := [(2, .int (if (if w0 ≤ v2 then 0 else 1 : Int32) = 0 then v2 else w0 : Int32)), (5, .int (if (if w0 ≤ v2 then 0 else 1 : Int32) = 0 then v5 else (v7 - v7 / 64 * 64) : Int32)), (4, .int (if (if w0 ≤ v2 then 0 else 1 : Int32) = 0 then v4 else (v7 / 64) : Int32)), (3, .int (if (if w0 ≤ v2 then 0 else 1 : Int32) = 0 then v3 else v6 : Int32)), (9, .int (if w0 ≤ v2 then 0 else 1 : Int32)), (8, .int w0), (0, .ref v0), (1, .int v1), (6, .int v6), (7, .int v7)]) rfl ?_
  refine x_iinc (pc := 161) dM_turn_161 (q := 9) rfl (v := v7 + 1) rfl (by decide) (L' := [(7, .int (v7 + 1)), (2, .int (if (if w0 ≤ v2 then 0 else 1 : Int32) = 0 then v2 else w0 : Int32)), (5, .int (if (if w0 ≤ v2 then 0 else 1 : Int32) = 0 then v5 else (v7 - v7 / 64 * 64) : Int32)), (4, .int (if (if w0 ≤ v2 then 0 else 1 : Int32) = 0 then v4 else (v7 / 64) : Int32)), (3, .int (if (if w0 ≤ v2 then 0 else 1 : Int32) = 0 then v3 else v6 : Int32)), (9, .int (if w0 ≤ v2 then 0 else 1 : Int32)), (8, .int w0), (0, .ref v0), (1, .int v1), (6, .int v6)]) rfl ?_
  refine x_goto (pc := 164) dM_turn_164 (t := 49) rfl ?_
  exact x_loc [7, 8, 1, 4, 3, 2, 9, 0] rfl h

theorem vM_turn_173 {M : Mm} {b : Nat × Nat} {K : Int32 → Mm → Prop} {v0 : Nat} {v1 : Int32} {v2 : Int32} {v3 : Int32} {v4 : Int32} {v5 : Int32} {v6 : Int32}  
    (h : X mM_turn 39 [(0, .ref v0), (1, .int v1), (2, .int v2), (3, .int v3), (4, .int v4), (5, .int v5), (6, .int (v6 + 1))] [] M b (QI K)) : X mM_turn 173 [(0, .ref v0), (1, .int v1), (2, .int v2), (3, .int v3), (4, .int v4), (5, .int v5), (6, .int v6)] [] M b (QI K) := by
  refine x_wf (fun hw => ?_)
  refine x_iinc (pc := 173) dM_turn_173 (q := 6) rfl (v := v6 + 1) rfl (by decide) (L' := [(6, .int (v6 + 1)), (0, .ref v0), (1, .int v1), (2, .int v2), (3, .int v3), (4, .int v4), (5, .int v5)]) rfl ?_
  refine x_goto (pc := 176) dM_turn_176 (t := 39) rfl ?_
  exact x_loc [1, 2, 3, 4, 5, 6, 0] rfl h

theorem dM_turnsBy_0 : decode (mB mM_turnsBy) 0 = .ok (.aload_n 0, 1) := op42 (by decide +kernel)
theorem dM_turnsBy_1 : decode (mB mM_turnsBy) 1 = .ok (.getfield 112, 3) := op180 0 112 (by decide +kernel)
theorem dM_turnsBy_4 : decode (mB mM_turnsBy) 4 = .ok (.istore 4, 2) := op54 4 (by decide +kernel)
theorem dM_turnsBy_6 : decode (mB mM_turnsBy) 6 = .ok (.aload_n 0, 1) := op42 (by decide +kernel)
theorem dM_turnsBy_7 : decode (mB mM_turnsBy) 7 = .ok (.getfield 7, 3) := op180 0 7 (by decide +kernel)
theorem dM_turnsBy_10 : decode (mB mM_turnsBy) 10 = .ok (.bipush 10, 2) := op16 10 (by decide +kernel)
theorem dM_turnsBy_12 : decode (mB mM_turnsBy) 12 = .ok (.iload 4, 2) := op21 4 (by decide +kernel)
theorem dM_turnsBy_14 : decode (mB mM_turnsBy) 14 = .ok (.imul, 1) := op104 (by decide +kernel)
theorem dM_turnsBy_15 : decode (mB mM_turnsBy) 15 = .ok (.iconst 0, 1) := op3 (by decide +kernel)
theorem dM_turnsBy_16 : decode (mB mM_turnsBy) 16 = .ok (.iastore, 1) := op79 (by decide +kernel)
theorem dM_turnsBy_17 : decode (mB mM_turnsBy) 17 = .ok (.aload_n 0, 1) := op42 (by decide +kernel)
theorem dM_turnsBy_18 : decode (mB mM_turnsBy) 18 = .ok (.getfield 7, 3) := op180 0 7 (by decide +kernel)
theorem dM_turnsBy_21 : decode (mB mM_turnsBy) 21 = .ok (.bipush 10, 2) := op16 10 (by decide +kernel)
theorem dM_turnsBy_23 : decode (mB mM_turnsBy) 23 = .ok (.iload 4, 2) := op21 4 (by decide +kernel)
theorem dM_turnsBy_25 : decode (mB mM_turnsBy) 25 = .ok (.imul, 1) := op104 (by decide +kernel)
theorem dM_turnsBy_26 : decode (mB mM_turnsBy) 26 = .ok (.iconst 1, 1) := op4 (by decide +kernel)
theorem dM_turnsBy_27 : decode (mB mM_turnsBy) 27 = .ok (.iadd, 1) := op96 (by decide +kernel)
theorem dM_turnsBy_28 : decode (mB mM_turnsBy) 28 = .ok (.iload_n 1, 1) := op27 (by decide +kernel)
theorem dM_turnsBy_29 : decode (mB mM_turnsBy) 29 = .ok (.iastore, 1) := op79 (by decide +kernel)
theorem dM_turnsBy_30 : decode (mB mM_turnsBy) 30 = .ok (.aload_n 0, 1) := op42 (by decide +kernel)
theorem dM_turnsBy_31 : decode (mB mM_turnsBy) 31 = .ok (.getfield 7, 3) := op180 0 7 (by decide +kernel)
theorem dM_turnsBy_34 : decode (mB mM_turnsBy) 34 = .ok (.bipush 10, 2) := op16 10 (by decide +kernel)
theorem dM_turnsBy_36 : decode (mB mM_turnsBy) 36 = .ok (.iload 4, 2) := op21 4 (by decide +kernel)
theorem dM_turnsBy_38 : decode (mB mM_turnsBy) 38 = .ok (.imul, 1) := op104 (by decide +kernel)
theorem dM_turnsBy_39 : decode (mB mM_turnsBy) 39 = .ok (.iconst 2, 1) := op5 (by decide +kernel)
theorem dM_turnsBy_40 : decode (mB mM_turnsBy) 40 = .ok (.iadd, 1) := op96 (by decide +kernel)
theorem dM_turnsBy_41 : decode (mB mM_turnsBy) 41 = .ok (.iconst 0, 1) := op3 (by decide +kernel)
theorem dM_turnsBy_42 : decode (mB mM_turnsBy) 42 = .ok (.iastore, 1) := op79 (by decide +kernel)
theorem dM_turnsBy_43 : decode (mB mM_turnsBy) 43 = .ok (.aload_n 0, 1) := op42 (by decide +kernel)
theorem dM_turnsBy_44 : decode (mB mM_turnsBy) 44 = .ok (.getfield 7, 3) := op180 0 7 (by decide +kernel)
theorem dM_turnsBy_47 : decode (mB mM_turnsBy) 47 = .ok (.bipush 10, 2) := op16 10 (by decide +kernel)
theorem dM_turnsBy_49 : decode (mB mM_turnsBy) 49 = .ok (.iload 4, 2) := op21 4 (by decide +kernel)
theorem dM_turnsBy_51 : decode (mB mM_turnsBy) 51 = .ok (.imul, 1) := op104 (by decide +kernel)
theorem dM_turnsBy_52 : decode (mB mM_turnsBy) 52 = .ok (.iconst 3, 1) := op6 (by decide +kernel)
theorem dM_turnsBy_53 : decode (mB mM_turnsBy) 53 = .ok (.iadd, 1) := op96 (by decide +kernel)
theorem dM_turnsBy_54 : decode (mB mM_turnsBy) 54 = .ok (.iload_n 3, 1) := op29 (by decide +kernel)
theorem dM_turnsBy_55 : decode (mB mM_turnsBy) 55 = .ok (.iastore, 1) := op79 (by decide +kernel)
theorem dM_turnsBy_56 : decode (mB mM_turnsBy) 56 = .ok (.aload_n 0, 1) := op42 (by decide +kernel)
theorem dM_turnsBy_57 : decode (mB mM_turnsBy) 57 = .ok (.getfield 7, 3) := op180 0 7 (by decide +kernel)
theorem dM_turnsBy_60 : decode (mB mM_turnsBy) 60 = .ok (.bipush 10, 2) := op16 10 (by decide +kernel)
theorem dM_turnsBy_62 : decode (mB mM_turnsBy) 62 = .ok (.iload 4, 2) := op21 4 (by decide +kernel)
theorem dM_turnsBy_64 : decode (mB mM_turnsBy) 64 = .ok (.imul, 1) := op104 (by decide +kernel)
theorem dM_turnsBy_65 : decode (mB mM_turnsBy) 65 = .ok (.iconst 4, 1) := op7 (by decide +kernel)
theorem dM_turnsBy_66 : decode (mB mM_turnsBy) 66 = .ok (.iadd, 1) := op96 (by decide +kernel)
theorem dM_turnsBy_67 : decode (mB mM_turnsBy) 67 = .ok (.iconst 0, 1) := op3 (by decide +kernel)
theorem dM_turnsBy_68 : decode (mB mM_turnsBy) 68 = .ok (.iastore, 1) := op79 (by decide +kernel)
theorem dM_turnsBy_69 : decode (mB mM_turnsBy) 69 = .ok (.aload_n 0, 1) := op42 (by decide +kernel)
theorem dM_turnsBy_70 : decode (mB mM_turnsBy) 70 = .ok (.getfield 7, 3) := op180 0 7 (by decide +kernel)
theorem dM_turnsBy_73 : decode (mB mM_turnsBy) 73 = .ok (.bipush 10, 2) := op16 10 (by decide +kernel)
theorem dM_turnsBy_75 : decode (mB mM_turnsBy) 75 = .ok (.iload 4, 2) := op21 4 (by decide +kernel)
theorem dM_turnsBy_77 : decode (mB mM_turnsBy) 77 = .ok (.imul, 1) := op104 (by decide +kernel)
theorem dM_turnsBy_78 : decode (mB mM_turnsBy) 78 = .ok (.iconst 5, 1) := op8 (by decide +kernel)
theorem dM_turnsBy_79 : decode (mB mM_turnsBy) 79 = .ok (.iadd, 1) := op96 (by decide +kernel)
theorem dM_turnsBy_80 : decode (mB mM_turnsBy) 80 = .ok (.iload_n 2, 1) := op28 (by decide +kernel)
theorem dM_turnsBy_81 : decode (mB mM_turnsBy) 81 = .ok (.iastore, 1) := op79 (by decide +kernel)
theorem dM_turnsBy_82 : decode (mB mM_turnsBy) 82 = .ok (.aload_n 0, 1) := op42 (by decide +kernel)
theorem dM_turnsBy_83 : decode (mB mM_turnsBy) 83 = .ok (.getfield 7, 3) := op180 0 7 (by decide +kernel)
theorem dM_turnsBy_86 : decode (mB mM_turnsBy) 86 = .ok (.bipush 10, 2) := op16 10 (by decide +kernel)
theorem dM_turnsBy_88 : decode (mB mM_turnsBy) 88 = .ok (.iload 4, 2) := op21 4 (by decide +kernel)
theorem dM_turnsBy_90 : decode (mB mM_turnsBy) 90 = .ok (.imul, 1) := op104 (by decide +kernel)
theorem dM_turnsBy_91 : decode (mB mM_turnsBy) 91 = .ok (.bipush 6, 2) := op16 6 (by decide +kernel)
theorem dM_turnsBy_93 : decode (mB mM_turnsBy) 93 = .ok (.iadd, 1) := op96 (by decide +kernel)
theorem dM_turnsBy_94 : decode (mB mM_turnsBy) 94 = .ok (.bipush (-4), 2) := op16 252 (by decide +kernel)
theorem dM_turnsBy_96 : decode (mB mM_turnsBy) 96 = .ok (.iastore, 1) := op79 (by decide +kernel)
theorem dM_turnsBy_97 : decode (mB mM_turnsBy) 97 = .ok (.aload_n 0, 1) := op42 (by decide +kernel)
theorem dM_turnsBy_98 : decode (mB mM_turnsBy) 98 = .ok (.getfield 7, 3) := op180 0 7 (by decide +kernel)
theorem dM_turnsBy_101 : decode (mB mM_turnsBy) 101 = .ok (.bipush 10, 2) := op16 10 (by decide +kernel)
theorem dM_turnsBy_103 : decode (mB mM_turnsBy) 103 = .ok (.iload 4, 2) := op21 4 (by decide +kernel)
theorem dM_turnsBy_105 : decode (mB mM_turnsBy) 105 = .ok (.imul, 1) := op104 (by decide +kernel)
theorem dM_turnsBy_106 : decode (mB mM_turnsBy) 106 = .ok (.bipush 7, 2) := op16 7 (by decide +kernel)
theorem dM_turnsBy_108 : decode (mB mM_turnsBy) 108 = .ok (.iadd, 1) := op96 (by decide +kernel)
theorem dM_turnsBy_109 : decode (mB mM_turnsBy) 109 = .ok (.bipush (-4), 2) := op16 252 (by decide +kernel)
theorem dM_turnsBy_111 : decode (mB mM_turnsBy) 111 = .ok (.iastore, 1) := op79 (by decide +kernel)
theorem dM_turnsBy_112 : decode (mB mM_turnsBy) 112 = .ok (.aload_n 0, 1) := op42 (by decide +kernel)
theorem dM_turnsBy_113 : decode (mB mM_turnsBy) 113 = .ok (.dup, 1) := op89 (by decide +kernel)
theorem dM_turnsBy_114 : decode (mB mM_turnsBy) 114 = .ok (.getfield 112, 3) := op180 0 112 (by decide +kernel)
theorem dM_turnsBy_117 : decode (mB mM_turnsBy) 117 = .ok (.iconst 1, 1) := op4 (by decide +kernel)
theorem dM_turnsBy_118 : decode (mB mM_turnsBy) 118 = .ok (.iadd, 1) := op96 (by decide +kernel)
theorem dM_turnsBy_119 : decode (mB mM_turnsBy) 119 = .ok (.putfield 112, 3) := op181 0 112 (by decide +kernel)
theorem dM_turnsBy_122 : decode (mB mM_turnsBy) 122 = .ok (.aload_n 0, 1) := op42 (by decide +kernel)
theorem dM_turnsBy_123 : decode (mB mM_turnsBy) 123 = .ok (.dup, 1) := op89 (by decide +kernel)
theorem dM_turnsBy_124 : decode (mB mM_turnsBy) 124 = .ok (.getfield 241, 3) := op180 0 241 (by decide +kernel)
theorem dM_turnsBy_127 : decode (mB mM_turnsBy) 127 = .ok (.iconst 1, 1) := op4 (by decide +kernel)
theorem dM_turnsBy_128 : decode (mB mM_turnsBy) 128 = .ok (.iload 4, 2) := op21 4 (by decide +kernel)
theorem dM_turnsBy_130 : decode (mB mM_turnsBy) 130 = .ok (.ishl, 1) := op120 (by decide +kernel)
theorem dM_turnsBy_131 : decode (mB mM_turnsBy) 131 = .ok (.iconst 1, 1) := op4 (by decide +kernel)
theorem dM_turnsBy_132 : decode (mB mM_turnsBy) 132 = .ok (.isub, 1) := op100 (by decide +kernel)
theorem dM_turnsBy_133 : decode (mB mM_turnsBy) 133 = .ok (.iand, 1) := op126 (by decide +kernel)
theorem dM_turnsBy_134 : decode (mB mM_turnsBy) 134 = .ok (.putfield 241, 3) := op181 0 241 (by decide +kernel)
theorem dM_turnsBy_137 : decode (mB mM_turnsBy) 137 = .ok (.aload_n 0, 1) := op42 (by decide +kernel)
theorem dM_turnsBy_138 : decode (mB mM_turnsBy) 138 = .ok (.iload 4, 2) := op21 4 (by decide +kernel)
theorem dM_turnsBy_140 : decode (mB mM_turnsBy) 140 = .ok (.invokevirtual 261, 3) := op182 1 5 (by decide +kernel)
theorem dM_turnsBy_143 : decode (mB mM_turnsBy) 143 = .ok (.aload_n 0, 1) := op42 (by decide +kernel)
theorem dM_turnsBy_144 : decode (mB mM_turnsBy) 144 = .ok (.iload_n 1, 1) := op27 (by decide +kernel)
theorem dM_turnsBy_145 : decode (mB mM_turnsBy) 145 = .ok (.invokevirtual 286, 3) := op182 1 30 (by decide +kernel)
theorem dM_turnsBy_148 : decode (mB mM_turnsBy) 148 = .ok (.aload_n 0, 1) := op42 (by decide +kernel)
theorem dM_turnsBy_149 : decode (mB mM_turnsBy) 149 = .ok (.invokevirtual 310, 3) := op182 1 54 (by decide +kernel)
theorem dM_turnsBy_152 : decode (mB mM_turnsBy) 152 = .ok (.aload_n 0, 1) := op42 (by decide +kernel)
theorem dM_turnsBy_153 : decode (mB mM_turnsBy) 153 = .ok (.dup, 1) := op89 (by decide +kernel)
theorem dM_turnsBy_154 : decode (mB mM_turnsBy) 154 = .ok (.getfield 112, 3) := op180 0 112 (by decide +kernel)
theorem dM_turnsBy_157 : decode (mB mM_turnsBy) 157 = .ok (.iconst 1, 1) := op4 (by decide +kernel)
theorem dM_turnsBy_158 : decode (mB mM_turnsBy) 158 = .ok (.isub, 1) := op100 (by decide +kernel)
theorem dM_turnsBy_159 : decode (mB mM_turnsBy) 159 = .ok (.putfield 112, 3) := op181 0 112 (by decide +kernel)
theorem dM_turnsBy_162 : decode (mB mM_turnsBy) 162 = .ok (.aload_n 0, 1) := op42 (by decide +kernel)
theorem dM_turnsBy_163 : decode (mB mM_turnsBy) 163 = .ok (.invokevirtual 325, 3) := op182 1 69 (by decide +kernel)
theorem dM_turnsBy_166 : decode (mB mM_turnsBy) 166 = .ok (.aload_n 0, 1) := op42 (by decide +kernel)
theorem dM_turnsBy_167 : decode (mB mM_turnsBy) 167 = .ok (.getfield 313, 3) := op180 1 57 (by decide +kernel)
theorem dM_turnsBy_170 : decode (mB mM_turnsBy) 170 = .ok (.ireturn, 1) := op172 (by decide +kernel)

theorem vM_turnsBy_0 {M : Mm} {b : Nat × Nat} {K : Int32 → Mm → Prop} {v0 : Nat} {v1 : Int32} {v2 : Int32} {v3 : Int32} {r1 : Nat} (kv0 : v0 % 64 = 11) (e1 : gr M v0 1 = some r1)
    (h : vp_in (10 * (gi M v0 0)) 250 ∧ (vp_in ((10 * (gi M v0 0)) + 1) 250 ∧ (vp_in ((10 * (gi M v0 0)) + 2) 250 ∧ (vp_in ((10 * (gi M v0 0)) + 3) 250 ∧ (vp_in ((10 * (gi M v0 0)) + 4) 250 ∧ (vp_in ((10 * (gi M v0 0)) + 5) 250 ∧ (vp_in ((10 * (gi M v0 0)) + 6) 250 ∧ (vp_in ((10 * (gi M v0 0)) + 7) 250 ∧ (CV mM_sayWord [.ref v0, .int (gi M v0 0)] (si (si (si (si (si (si (si (si (si (si M r1 (10 * (gi M v0 0)).toNatClampNeg 0) r1 ((10 * (gi M v0 0)) + 1).toNatClampNeg v1) r1 ((10 * (gi M v0 0)) + 2).toNatClampNeg 0) r1 ((10 * (gi M v0 0)) + 3).toNatClampNeg v3) r1 ((10 * (gi M v0 0)) + 4).toNatClampNeg 0) r1 ((10 * (gi M v0 0)) + 5).toNatClampNeg v2) r1 ((10 * (gi M v0 0)) + 6).toNatClampNeg (-4)) r1 ((10 * (gi M v0 0)) + 7).toNatClampNeg (-4)) v0 0 ((gi (si (si (si (si (si (si (si (si M r1 (10 * (gi M v0 0)).toNatClampNeg 0) r1 ((10 * (gi M v0 0)) + 1).toNatClampNeg v1) r1 ((10 * (gi M v0 0)) + 2).toNatClampNeg 0) r1 ((10 * (gi M v0 0)) + 3).toNatClampNeg v3) r1 ((10 * (gi M v0 0)) + 4).toNatClampNeg 0) r1 ((10 * (gi M v0 0)) + 5).toNatClampNeg v2) r1 ((10 * (gi M v0 0)) + 6).toNatClampNeg (-4)) r1 ((10 * (gi M v0 0)) + 7).toNatClampNeg (-4)) v0 0) + 1)) v0 24 ((gi (si (si (si (si (si (si (si (si (si M r1 (10 * (gi M v0 0)).toNatClampNeg 0) r1 ((10 * (gi M v0 0)) + 1).toNatClampNeg v1) r1 ((10 * (gi M v0 0)) + 2).toNatClampNeg 0) r1 ((10 * (gi M v0 0)) + 3).toNatClampNeg v3) r1 ((10 * (gi M v0 0)) + 4).toNatClampNeg 0) r1 ((10 * (gi M v0 0)) + 5).toNatClampNeg v2) r1 ((10 * (gi M v0 0)) + 6).toNatClampNeg (-4)) r1 ((10 * (gi M v0 0)) + 7).toNatClampNeg (-4)) v0 0 ((gi (si (si (si (si (si (si (si (si M r1 (10 * (gi M v0 0)).toNatClampNeg 0) r1 ((10 * (gi M v0 0)) + 1).toNatClampNeg v1) r1 ((10 * (gi M v0 0)) + 2).toNatClampNeg 0) r1 ((10 * (gi M v0 0)) + 3).toNatClampNeg v3) r1 ((10 * (gi M v0 0)) + 4).toNatClampNeg 0) r1 ((10 * (gi M v0 0)) + 5).toNatClampNeg v2) r1 ((10 * (gi M v0 0)) + 6).toNatClampNeg (-4)) r1 ((10 * (gi M v0 0)) + 7).toNatClampNeg (-4)) v0 0) + 1)) v0 24) &&& (((1 : Int32) <<< ((gi M v0 0) &&& 31)) - 1))) (fun N => X mM_turnsBy 143 [(0, .ref v0), (1, .int v1)] [] N b (QI K))))))))))) : X mM_turnsBy 0 [(0, .ref v0), (1, .int v1), (2, .int v2), (3, .int v3)] [] M b (QI K) := by
  refine x_wf (fun hw => ?_)
  refine x_aload_n (pc := 0) dM_turnsBy_0 rfl (q := 0) rfl ?_
  refine x_getI (pc := 1) dM_turnsBy_1 kv0 flM_112 rfl ?_
  refine x_istore (pc := 4) dM_turnsBy_4 (by decide) (L' := [(4, .int (gi M v0 0)), (0, .ref v0), (1, .int v1), (2, .int v2), (3, .int v3)]) rfl ?_
  refine x_aload_n (pc := 6) dM_turnsBy_6 rfl (q := 1) rfl ?_
  refine x_getR (pc := 7) dM_turnsBy_7 kv0 flM_7 rfl e1 ?_
  refine x_bipush (pc := 10) dM_turnsBy_10 (v := 10) rfl ?_
  refine x_iload (pc := 12) dM_turnsBy_12 (q := 0) rfl ?_
  refine x_imul (pc := 14) dM_turnsBy_14 ?_
  refine x_iconst (pc := 15) dM_turnsBy_15 (v := 0) rfl ?_
  obtain ⟨s501, h⟩ := h
  refine x_astIj (pc := 16) (j := (10 * (gi M v0 0)).toNatClampNeg) (v := 0) (Or.inl ⟨rfl, rfl, rfl⟩) dM_turnsBy_16 (wfk hw e1 kv0) ak_21 rfl s501 ?_
  refine x_aload_n (pc := 17) dM_turnsBy_17 rfl (q := 1) rfl ?_
  refine x_getR (pc := 18) dM_turnsBy_18 kv0 flM_7 rfl e1 ?_
  refine x_bipush (pc := 21) dM_turnsBy_21 (v := 10) rfl ?_
  refine x_iload (pc := 23) dM_turnsBy_23 (q := 0) rfl ?_
  refine x_imul (pc := 25) dM_turnsBy_25 ?_
  refine x_iconst (pc := 26) dM_turnsBy_26 (v := 1) rfl ?_
  refine x_iadd (pc := 27) dM_turnsBy_27 ?_
  refine x_iload_n (pc := 28) dM_turnsBy_28 rfl (q := 2) rfl ?_
  obtain ⟨s502, h⟩ := h
  refine x_astIj (pc := 29) (j := ((10 * (gi M v0 0)) + 1).toNatClampNeg) (v := v1) (Or.inl ⟨rfl, rfl, rfl⟩) dM_turnsBy_29 (wfk hw e1 kv0) ak_21 rfl s502 ?_
  refine x_aload_n (pc := 30) dM_turnsBy_30 rfl (q := 1) rfl ?_
  refine x_getR (pc := 31) dM_turnsBy_31 kv0 flM_7 rfl e1 ?_
  refine x_bipush (pc := 34) dM_turnsBy_34 (v := 10) rfl ?_
  refine x_iload (pc := 36) dM_turnsBy_36 (q := 0) rfl ?_
  refine x_imul (pc := 38) dM_turnsBy_38 ?_
  refine x_iconst (pc := 39) dM_turnsBy_39 (v := 2) rfl ?_
  refine x_iadd (pc := 40) dM_turnsBy_40 ?_
  refine x_iconst (pc := 41) dM_turnsBy_41 (v := 0) rfl ?_
  obtain ⟨s503, h⟩ := h
  refine x_astIj (pc := 42) (j := ((10 * (gi M v0 0)) + 2).toNatClampNeg) (v := 0) (Or.inl ⟨rfl, rfl, rfl⟩) dM_turnsBy_42 (wfk hw e1 kv0) ak_21 rfl s503 ?_
  refine x_aload_n (pc := 43) dM_turnsBy_43 rfl (q := 1) rfl ?_
  refine x_getR (pc := 44) dM_turnsBy_44 kv0 flM_7 rfl e1 ?_
  refine x_bipush (pc := 47) dM_turnsBy_47 (v := 10) rfl ?_
  refine x_iload (pc := 49) dM_turnsBy_49 (q := 0) rfl ?_
  refine x_imul (pc := 51) dM_turnsBy_51 ?_
  refine x_iconst (pc := 52) dM_turnsBy_52 (v := 3) rfl ?_
  refine x_iadd (pc := 53) dM_turnsBy_53 ?_
  refine x_iload_n (pc := 54) dM_turnsBy_54 rfl (q := 4) rfl ?_
  obtain ⟨s504, h⟩ := h
  refine x_astIj (pc := 55) (j := ((10 * (gi M v0 0)) + 3).toNatClampNeg) (v := v3) (Or.inl ⟨rfl, rfl, rfl⟩) dM_turnsBy_55 (wfk hw e1 kv0) ak_21 rfl s504 ?_
  refine x_aload_n (pc := 56) dM_turnsBy_56 rfl (q := 1) rfl ?_
  refine x_getR (pc := 57) dM_turnsBy_57 kv0 flM_7 rfl e1 ?_
  refine x_bipush (pc := 60) dM_turnsBy_60 (v := 10) rfl ?_
  refine x_iload (pc := 62) dM_turnsBy_62 (q := 0) rfl ?_
  refine x_imul (pc := 64) dM_turnsBy_64 ?_
  refine x_iconst (pc := 65) dM_turnsBy_65 (v := 4) rfl ?_
  refine x_iadd (pc := 66) dM_turnsBy_66 ?_
  refine x_iconst (pc := 67) dM_turnsBy_67 (v := 0) rfl ?_
  obtain ⟨s505, h⟩ := h
  refine x_astIj (pc := 68) (j := ((10 * (gi M v0 0)) + 4).toNatClampNeg) (v := 0) (Or.inl ⟨rfl, rfl, rfl⟩) dM_turnsBy_68 (wfk hw e1 kv0) ak_21 rfl s505 ?_
  refine x_aload_n (pc := 69) dM_turnsBy_69 rfl (q := 1) rfl ?_
  refine x_getR (pc := 70) dM_turnsBy_70 kv0 flM_7 rfl e1 ?_
  refine x_bipush (pc := 73) dM_turnsBy_73 (v := 10) rfl ?_
  refine x_iload (pc := 75) dM_turnsBy_75 (q := 0) rfl ?_
  refine x_imul (pc := 77) dM_turnsBy_77 ?_
  refine x_iconst (pc := 78) dM_turnsBy_78 (v := 5) rfl ?_
  refine x_iadd (pc := 79) dM_turnsBy_79 ?_
  refine x_iload_n (pc := 80) dM_turnsBy_80 rfl (q := 3) rfl ?_
  obtain ⟨s506, h⟩ := h
  refine x_astIj (pc := 81) (j := ((10 * (gi M v0 0)) + 5).toNatClampNeg) (v := v2) (Or.inl ⟨rfl, rfl, rfl⟩) dM_turnsBy_81 (wfk hw e1 kv0) ak_21 rfl s506 ?_
  refine x_aload_n (pc := 82) dM_turnsBy_82 rfl (q := 1) rfl ?_
  refine x_getR (pc := 83) dM_turnsBy_83 kv0 flM_7 rfl e1 ?_
  refine x_bipush (pc := 86) dM_turnsBy_86 (v := 10) rfl ?_
  refine x_iload (pc := 88) dM_turnsBy_88 (q := 0) rfl ?_
  refine x_imul (pc := 90) dM_turnsBy_90 ?_
  refine x_bipush (pc := 91) dM_turnsBy_91 (v := 6) rfl ?_
  refine x_iadd (pc := 93) dM_turnsBy_93 ?_
  refine x_bipush (pc := 94) dM_turnsBy_94 (v := (-4)) rfl ?_
  obtain ⟨s507, h⟩ := h
  refine x_astIj (pc := 96) (j := ((10 * (gi M v0 0)) + 6).toNatClampNeg) (v := (-4)) (Or.inl ⟨rfl, rfl, rfl⟩) dM_turnsBy_96 (wfk hw e1 kv0) ak_21 rfl s507 ?_
  refine x_aload_n (pc := 97) dM_turnsBy_97 rfl (q := 1) rfl ?_
  refine x_getR (pc := 98) dM_turnsBy_98 kv0 flM_7 rfl e1 ?_
  refine x_bipush (pc := 101) dM_turnsBy_101 (v := 10) rfl ?_
  refine x_iload (pc := 103) dM_turnsBy_103 (q := 0) rfl ?_
  refine x_imul (pc := 105) dM_turnsBy_105 ?_
  refine x_bipush (pc := 106) dM_turnsBy_106 (v := 7) rfl ?_
  refine x_iadd (pc := 108) dM_turnsBy_108 ?_
  refine x_bipush (pc := 109) dM_turnsBy_109 (v := (-4)) rfl ?_
  obtain ⟨s508, h⟩ := h
  refine x_astIj (pc := 111) (j := ((10 * (gi M v0 0)) + 7).toNatClampNeg) (v := (-4)) (Or.inl ⟨rfl, rfl, rfl⟩) dM_turnsBy_111 (wfk hw e1 kv0) ak_21 rfl s508 ?_
  refine x_aload_n (pc := 112) dM_turnsBy_112 rfl (q := 1) rfl ?_
  refine x_dup (pc := 113) dM_turnsBy_113 rfl ?_
  refine x_getI (pc := 114) dM_turnsBy_114 kv0 flM_112 rfl ?_
  refine x_iconst (pc := 117) dM_turnsBy_117 (v := 1) rfl ?_
  refine x_iadd (pc := 118) dM_turnsBy_118 ?_
  refine x_putI (pc := 119) dM_turnsBy_119 kv0 flM_112 rfl rfl ?_
  refine x_aload_n (pc := 122) dM_turnsBy_122 rfl (q := 1) rfl ?_
  refine x_dup (pc := 123) dM_turnsBy_123 rfl ?_
  refine x_getI (pc := 124) dM_turnsBy_124 kv0 flM_241 rfl ?_
  refine x_iconst (pc := 127) dM_turnsBy_127 (v := 1) rfl ?_
  refine x_iload (pc := 128) dM_turnsBy_128 (q := 0) rfl ?_
  refine x_ishl (pc := 130) dM_turnsBy_130 ?_
  refine x_iconst (pc := 131) dM_turnsBy_131 (v := 1) rfl ?_
  refine x_isub (pc := 132) dM_turnsBy_132 ?_
  refine x_iand (pc := 133) dM_turnsBy_133 ?_
  refine x_putI (pc := 134) dM_turnsBy_134 kv0 flM_241 rfl rfl ?_
  refine x_aload_n (pc := 137) dM_turnsBy_137 rfl (q := 1) rfl ?_
  refine x_iload (pc := 138) dM_turnsBy_138 (q := 0) rfl ?_
  exact x_invV (pc := 140) dM_turnsBy_140 (c := 11) (S := []) (As := [.int (gi M v0 0)]) mlM_261 hM_sayWord rfl (by decide) rfl kv0 ⟨by decide, by decide⟩ ⟨Nat.zero_le _, Nat.zero_le _⟩ rfl (Nat.le_of_ble_eq_true rfl) (aftV (b' := b) ⟨Nat.le_refl _, Nat.le_refl _⟩ (fun N h => x_loc [1, 2] rfl h) h)

theorem vM_turnsBy_143 {M : Mm} {b : Nat × Nat} {K : Int32 → Mm → Prop} {v0 : Nat} {v1 : Int32} (kv0 : v0 % 64 = 11) 
    (h : CV mM_findOne [.ref v0, .int v1] M (fun N => X mM_turnsBy 148 [(0, .ref v0)] [] N b (QI K))) : X mM_turnsBy 143 [(0, .ref v0), (1, .int v1)] [] M b (QI K) := by
  refine x_wf (fun hw => ?_)
  refine x_aload_n (pc := 143) dM_turnsBy_143 rfl (q := 0) rfl ?_
  refine x_iload_n (pc := 144) dM_turnsBy_144 rfl (q := 1) rfl ?_
  exact x_invV (pc := 145) dM_turnsBy_145 (c := 11) (S := []) (As := [.int v1]) mlM_286 hM_findOne rfl (by decide) rfl kv0 ⟨by decide, by decide⟩ ⟨Nat.zero_le _, Nat.zero_le _⟩ rfl (Nat.le_of_ble_eq_true rfl) (aftV (b' := b) ⟨Nat.le_refl _, Nat.le_refl _⟩ (fun N h => x_loc [0] rfl h) h)

theorem vM_turnsBy_148 {M : Mm} {b : Nat × Nat} {K : Int32 → Mm → Prop} {v0 : Nat} (kv0 : v0 % 64 = 11) 
    (h : CV mM_findHeld [.ref v0] M (fun N => X mM_turnsBy 152 [(0, .ref v0)] [] N b (QI K))) : X mM_turnsBy 148 [(0, .ref v0)] [] M b (QI K) := by
  refine x_wf (fun hw => ?_)
  refine x_aload_n (pc := 148) dM_turnsBy_148 rfl (q := 0) rfl ?_
  exact x_invV (pc := 149) dM_turnsBy_149 (c := 11) (S := []) (As := []) mlM_310 hM_findHeld rfl (by decide) rfl kv0 ⟨by decide, by decide⟩ ⟨Nat.zero_le _, Nat.zero_le _⟩ rfl (Nat.le_of_ble_eq_true rfl) (aftV (b' := b) ⟨Nat.le_refl _, Nat.le_refl _⟩ (fun N h => h) h)

theorem vM_turnsBy_152 {M : Mm} {b : Nat × Nat} {K : Int32 → Mm → Prop} {v0 : Nat} (kv0 : v0 % 64 = 11) 
    (h : CV mM_findChanged [.ref v0] (si M v0 0 ((gi M v0 0) - 1)) (fun N => X mM_turnsBy 166 [(0, .ref v0)] [] N b (QI K))) : X mM_turnsBy 152 [(0, .ref v0)] [] M b (QI K) := by
  refine x_wf (fun hw => ?_)
  refine x_aload_n (pc := 152) dM_turnsBy_152 rfl (q := 0) rfl ?_
  refine x_dup (pc := 153) dM_turnsBy_153 rfl ?_
  refine x_getI (pc := 154) dM_turnsBy_154 kv0 flM_112 rfl ?_
  refine x_iconst (pc := 157) dM_turnsBy_157 (v := 1) rfl ?_
  refine x_isub (pc := 158) dM_turnsBy_158 ?_
  refine x_putI (pc := 159) dM_turnsBy_159 kv0 flM_112 rfl rfl ?_
  refine x_aload_n (pc := 162) dM_turnsBy_162 rfl (q := 0) rfl ?_
  exact x_invV (pc := 163) dM_turnsBy_163 (c := 11) (S := []) (As := []) mlM_325 hM_findChanged rfl (by decide) rfl kv0 ⟨by decide, by decide⟩ ⟨Nat.zero_le _, Nat.zero_le _⟩ rfl (Nat.le_of_ble_eq_true rfl) (aftV (b' := b) ⟨Nat.le_refl _, Nat.le_refl _⟩ (fun N h => h) h)

theorem vM_turnsBy_166 {M : Mm} {b : Nat × Nat} {K : Int32 → Mm → Prop} {v0 : Nat} (kv0 : v0 % 64 = 11) 
    (h : K (gi M v0 35) M) : X mM_turnsBy 166 [(0, .ref v0)] [] M b (QI K) := by
  refine x_wf (fun hw => ?_)
  refine x_aload_n (pc := 166) dM_turnsBy_166 rfl (q := 0) rfl ?_
  refine x_getI (pc := 167) dM_turnsBy_167 kv0 flM_313 rfl ?_
  exact x_retQI (pc := 170) dM_turnsBy_170 rfl rfl h

theorem dM_turns_0 : decode (mB mM_turns) 0 = .ok (.iload_n 1, 1) := op27 (by decide +kernel)
theorem dM_turns_1 : decode (mB mM_turns) 1 = .ok (.invokestatic 294, 3) := op184 1 38 (by decide +kernel)
theorem dM_turns_4 : decode (mB mM_turns) 4 = .ok (.ifCond .eq 20, 3) := op153 0 20 (by decide +kernel)
theorem dM_turns_7 : decode (mB mM_turns) 7 = .ok (.iload_n 2, 1) := op28 (by decide +kernel)
theorem dM_turns_8 : decode (mB mM_turns) 8 = .ok (.i2l, 1) := op133 (by decide +kernel)
theorem dM_turns_9 : decode (mB mM_turns) 9 = .ok (.lconst 0, 1) := op9 (by decide +kernel)
theorem dM_turns_10 : decode (mB mM_turns) 10 = .ok (.lconst 1, 1) := op10 (by decide +kernel)
theorem dM_turns_11 : decode (mB mM_turns) 11 = .ok (.invokestatic 126, 3) := op184 0 126 (by decide +kernel)
theorem dM_turns_14 : decode (mB mM_turns) 14 = .ok (.ifCond .eq 10, 3) := op153 0 10 (by decide +kernel)
theorem dM_turns_17 : decode (mB mM_turns) 17 = .ok (.iload_n 3, 1) := op29 (by decide +kernel)
theorem dM_turns_18 : decode (mB mM_turns) 18 = .ok (.invokestatic 275, 3) := op184 1 19 (by decide +kernel)
theorem dM_turns_21 : decode (mB mM_turns) 21 = .ok (.ifCond .ne 5, 3) := op154 0 5 (by decide +kernel)
theorem dM_turns_24 : decode (mB mM_turns) 24 = .ok (.iconst (-1), 1) := op2 (by decide +kernel)
theorem dM_turns_25 : decode (mB mM_turns) 25 = .ok (.ireturn, 1) := op172 (by decide +kernel)
theorem dM_turns_26 : decode (mB mM_turns) 26 = .ok (.aload_n 0, 1) := op42 (by decide +kernel)
theorem dM_turns_27 : decode (mB mM_turns) 27 = .ok (.getfield 36, 3) := op180 0 36 (by decide +kernel)
theorem dM_turns_30 : decode (mB mM_turns) 30 = .ok (.iconst 0, 1) := op3 (by decide +kernel)
theorem dM_turns_31 : decode (mB mM_turns) 31 = .ok (.iaload, 1) := op46 (by decide +kernel)
theorem dM_turns_32 : decode (mB mM_turns) 32 = .ok (.iload_n 1, 1) := op27 (by decide +kernel)
theorem dM_turns_33 : decode (mB mM_turns) 33 = .ok (.ishr, 1) := op122 (by decide +kernel)
theorem dM_turns_34 : decode (mB mM_turns) 34 = .ok (.iconst 1, 1) := op4 (by decide +kernel)
theorem dM_turns_35 : decode (mB mM_turns) 35 = .ok (.iand, 1) := op126 (by decide +kernel)
theorem dM_turns_36 : decode (mB mM_turns) 36 = .ok (.ifCond .ne 6, 3) := op154 0 6 (by decide +kernel)
theorem dM_turns_39 : decode (mB mM_turns) 39 = .ok (.bipush (-2), 2) := op16 254 (by decide +kernel)
theorem dM_turns_41 : decode (mB mM_turns) 41 = .ok (.ireturn, 1) := op172 (by decide +kernel)
theorem dM_turns_42 : decode (mB mM_turns) 42 = .ok (.aload_n 0, 1) := op42 (by decide +kernel)
theorem dM_turns_43 : decode (mB mM_turns) 43 = .ok (.invokevirtual 319, 3) := op182 1 63 (by decide +kernel)
theorem dM_turns_46 : decode (mB mM_turns) 46 = .ok (.aload_n 0, 1) := op42 (by decide +kernel)
theorem dM_turns_47 : decode (mB mM_turns) 47 = .ok (.invokevirtual 322, 3) := op182 1 66 (by decide +kernel)
theorem dM_turns_50 : decode (mB mM_turns) 50 = .ok (.aload_n 0, 1) := op42 (by decide +kernel)
theorem dM_turns_51 : decode (mB mM_turns) 51 = .ok (.iload_n 1, 1) := op27 (by decide +kernel)
theorem dM_turns_52 : decode (mB mM_turns) 52 = .ok (.iload_n 2, 1) := op28 (by decide +kernel)
theorem dM_turns_53 : decode (mB mM_turns) 53 = .ok (.iload_n 3, 1) := op29 (by decide +kernel)
theorem dM_turns_54 : decode (mB mM_turns) 54 = .ok (.invokevirtual 351, 3) := op182 1 95 (by decide +kernel)
theorem dM_turns_57 : decode (mB mM_turns) 57 = .ok (.ireturn, 1) := op172 (by decide +kernel)

theorem vM_turns_0 {M : Mm} {b : Nat × Nat} {K : Int32 → Mm → Prop} {v0 : Nat} {v1 : Int32} {v2 : Int32} {v3 : Int32}  
    (h : CI mM_isDoctor [.int v1] M (fun rv N => X mM_turns 4 [(0, .ref v0), (1, .int v1), (2, .int v2), (3, .int v3)] [.int rv] N b (QI K))) : X mM_turns 0 [(0, .ref v0), (1, .int v1), (2, .int v2), (3, .int v3)] [] M b (QI K) := by
  refine x_wf (fun hw => ?_)
  refine x_iload_n (pc := 0) dM_turns_0 rfl (q := 1) rfl ?_
  exact x_invS (pc := 1) dM_turns_1 (S := []) (As := [.int v1]) mlM_294 hM_isDoctor rfl ⟨by decide, by decide⟩ ⟨Nat.zero_le _, Nat.zero_le _⟩ rfl (Nat.le_of_ble_eq_true rfl) (aftI (b' := b) ⟨Nat.le_refl _, Nat.le_refl _⟩ (fun rv N h => h) h)

theorem vM_turns_4 {M : Mm} {b : Nat × Nat} {K : Int32 → Mm → Prop} {v0 : Nat} {v1 : Int32} {v2 : Int32} {v3 : Int32} {w0 : Int32}  
    (h : (w0 = 0 → (K (-1) M)) ∧ (¬ w0 = 0 → (CI mM_in [.long ((v2).toInt64), .long 0, .long 1] M (fun rv N => X mM_turns 14 [(0, .ref v0), (1, .int v1), (2, .int v2), (3, .int v3)] [.int rv] N b (QI K))))) : X mM_turns 4 [(0, .ref v0), (1, .int v1), (2, .int v2), (3, .int v3)] [.int w0] M b (QI K) := by
  refine x_wf (fun hw => ?_)
  obtain ⟨g1_0, g1_1⟩ := h
  refine x_if_eq (pc := 4) dM_turns_4 (t := 24) rfl (fun q1 => ?_) (fun q1 => ?_)
  · have h := g1_0 q1
    refine x_iconst (pc := 24) dM_turns_24 (v := (-1)) rfl ?_
    exact x_retQI (pc := 25) dM_turns_25 rfl rfl h
  · refine x_iload_n (pc := 7) dM_turns_7 rfl (q := 2) rfl ?_
    refine x_i2l (pc := 8) dM_turns_8 ?_
    refine x_lconst (pc := 9) dM_turns_9 (v := 0) rfl ?_
    refine x_lconst (pc := 10) dM_turns_10 (v := 1) rfl ?_
    have h := g1_1 q1
    exact x_invS (pc := 11) dM_turns_11 (S := []) (As := [.long ((v2).toInt64), .long 0, .long 1]) mlM_126 hM_in rfl ⟨by decide, by decide⟩ ⟨Nat.zero_le _, Nat.zero_le _⟩ rfl (Nat.le_of_ble_eq_true rfl) (aftI (b' := b) ⟨Nat.le_refl _, Nat.le_refl _⟩ (fun rv N h => h) h)

theorem vM_turns_14 {M : Mm} {b : Nat × Nat} {K : Int32 → Mm → Prop} {v0 : Nat} {v1 : Int32} {v2 : Int32} {v3 : Int32} {w0 : Int32}  
    (h : (w0 = 0 → (K (-1) M)) ∧ (¬ w0 = 0 → (CI mM_isCase [.int v3] M (fun rv N => X mM_turns 21 [(0, .ref v0), (1, .int v1), (2, .int v2), (3, .int v3)] [.int rv] N b (QI K))))) : X mM_turns 14 [(0, .ref v0), (1, .int v1), (2, .int v2), (3, .int v3)] [.int w0] M b (QI K) := by
  refine x_wf (fun hw => ?_)
  obtain ⟨g1_0, g1_1⟩ := h
  refine x_if_eq (pc := 14) dM_turns_14 (t := 24) rfl (fun q1 => ?_) (fun q1 => ?_)
  · have h := g1_0 q1
    refine x_iconst (pc := 24) dM_turns_24 (v := (-1)) rfl ?_
    exact x_retQI (pc := 25) dM_turns_25 rfl rfl h
  · refine x_iload_n (pc := 17) dM_turns_17 rfl (q := 3) rfl ?_
    have h := g1_1 q1
    exact x_invS (pc := 18) dM_turns_18 (S := []) (As := [.int v3]) mlM_275 hM_isCase rfl ⟨by decide, by decide⟩ ⟨Nat.zero_le _, Nat.zero_le _⟩ rfl (Nat.le_of_ble_eq_true rfl) (aftI (b' := b) ⟨Nat.le_refl _, Nat.le_refl _⟩ (fun rv N h => h) h)

theorem vM_turns_21 {M : Mm} {b : Nat × Nat} {K : Int32 → Mm → Prop} {v0 : Nat} {v1 : Int32} {v2 : Int32} {v3 : Int32} {w0 : Int32} {r1 : Nat} (kv0 : v0 % 64 = 11) (e1 : gr M v0 18 = some r1)
    (h : ((¬ w0 = 0 ∧ ¬ (((gi M r1 0) >>> (v1 &&& 31)) &&& 1) = 0) → (CV mM_findAll [.ref v0] M (fun N => X mM_turns 46 [(0, .ref v0), (1, .int v1), (2, .int v2), (3, .int v3)] [] N b (QI K)))) ∧ ((¬ w0 = 0 ∧ (((gi M r1 0) >>> (v1 &&& 31)) &&& 1) = 0) → (K (-2) M)) ∧ (w0 = 0 → (K (-1) M))) : X mM_turns 21 [(0, .ref v0), (1, .int v1), (2, .int v2), (3, .int v3)] [.int w0] M b (QI K) := by
  refine x_wf (fun hw => ?_)
  obtain ⟨g1_0, g1_1, g1_2⟩ := h
  refine x_if_ne (pc := 21) dM_turns_21 (t := 26) rfl (fun q1 => ?_) (fun q1 => ?_)
  · refine x_aload_n (pc := 26) dM_turns_26 rfl (q := 0) rfl ?_
    refine x_getR (pc := 27) dM_turns_27 kv0 flM_36 rfl e1 ?_
    refine x_iconst (pc := 30) dM_turns_30 (v := 0) rfl ?_
    refine x_aldIj (pc := 31) (j := 0) (Or.inl ⟨rfl, rfl⟩) dM_turns_31 (wfk hw e1 kv0) ak_15 (by decide) (by unfold vp_in; decide) ?_
    refine x_iload_n (pc := 32) dM_turns_32 rfl (q := 1) rfl ?_
    refine x_ishr (pc := 33) dM_turns_33 ?_
    refine x_iconst (pc := 34) dM_turns_34 (v := 1) rfl ?_
    refine x_iand (pc := 35) dM_turns_35 ?_
    refine x_if_ne (pc := 36) dM_turns_36 (t := 42) rfl (fun q2 => ?_) (fun q2 => ?_)
    · refine x_aload_n (pc := 42) dM_turns_42 rfl (q := 0) rfl ?_
      have h := g1_0 ⟨q1, q2⟩
      exact x_invV (pc := 43) dM_turns_43 (c := 11) (S := []) (As := []) mlM_319 hM_findAll rfl (by decide) rfl kv0 ⟨by decide, by decide⟩ ⟨Nat.zero_le _, Nat.zero_le _⟩ rfl (Nat.le_of_ble_eq_true rfl) (aftV (b' := b) ⟨Nat.le_refl _, Nat.le_refl _⟩ (fun N h => h) h)
    · refine x_bipush (pc := 39) dM_turns_39 (v := (-2)) rfl ?_
      have h := g1_1 ⟨q1, q2⟩
      exact x_retQI (pc := 41) dM_turns_41 rfl rfl h
  · have h := g1_2 q1
    refine x_iconst (pc := 24) dM_turns_24 (v := (-1)) rfl ?_
    exact x_retQI (pc := 25) dM_turns_25 rfl rfl h

theorem vM_turns_46 {M : Mm} {b : Nat × Nat} {K : Int32 → Mm → Prop} {v0 : Nat} {v1 : Int32} {v2 : Int32} {v3 : Int32} (kv0 : v0 % 64 = 11) 
    (h : CV mM_keepHeld [.ref v0] M (fun N => X mM_turns 50 [(0, .ref v0), (1, .int v1), (2, .int v2), (3, .int v3)] [] N b (QI K))) : X mM_turns 46 [(0, .ref v0), (1, .int v1), (2, .int v2), (3, .int v3)] [] M b (QI K) := by
  refine x_wf (fun hw => ?_)
  refine x_aload_n (pc := 46) dM_turns_46 rfl (q := 0) rfl ?_
  exact x_invV (pc := 47) dM_turns_47 (c := 11) (S := []) (As := []) mlM_322 hM_keepHeld rfl (by decide) rfl kv0 ⟨by decide, by decide⟩ ⟨Nat.zero_le _, Nat.zero_le _⟩ rfl (Nat.le_of_ble_eq_true rfl) (aftV (b' := b) ⟨Nat.le_refl _, Nat.le_refl _⟩ (fun N h => h) h)

theorem vM_turns_50 {M : Mm} {b : Nat × Nat} {K : Int32 → Mm → Prop} {v0 : Nat} {v1 : Int32} {v2 : Int32} {v3 : Int32} (kv0 : v0 % 64 = 11) 
    (h : CI mM_turnsBy [.ref v0, .int v1, .int v2, .int v3] M (fun rv N => X mM_turns 57 [] [.int rv] N b (QI K))) : X mM_turns 50 [(0, .ref v0), (1, .int v1), (2, .int v2), (3, .int v3)] [] M b (QI K) := by
  refine x_wf (fun hw => ?_)
  refine x_aload_n (pc := 50) dM_turns_50 rfl (q := 0) rfl ?_
  refine x_iload_n (pc := 51) dM_turns_51 rfl (q := 1) rfl ?_
  refine x_iload_n (pc := 52) dM_turns_52 rfl (q := 2) rfl ?_
  refine x_iload_n (pc := 53) dM_turns_53 rfl (q := 3) rfl ?_
  exact x_invV (pc := 54) dM_turns_54 (c := 11) (S := []) (As := [.int v1, .int v2, .int v3]) mlM_351 hM_turnsBy rfl (by decide) rfl kv0 ⟨by decide, by decide⟩ ⟨Nat.zero_le _, Nat.zero_le _⟩ rfl (Nat.le_of_ble_eq_true rfl) (aftI (b' := b) ⟨Nat.le_refl _, Nat.le_refl _⟩ (fun rv N h => x_loc [] rfl h) h)

theorem vM_turns_57 {M : Mm} {b : Nat × Nat} {K : Int32 → Mm → Prop} {w0 : Int32}  
    (h : K w0 M) : X mM_turns 57 [] [.int w0] M b (QI K) := by
  refine x_wf (fun hw => ?_)
  exact x_retQI (pc := 57) dM_turns_57 rfl rfl h

theorem dM_keep_0 : decode (mB mM_keep) 0 = .ok (.iconst 0, 1) := op3 (by decide +kernel)
theorem dM_keep_1 : decode (mB mM_keep) 1 = .ok (.istore_n 1, 1) := op60 (by decide +kernel)
theorem dM_keep_2 : decode (mB mM_keep) 2 = .ok (.iload_n 1, 1) := op27 (by decide +kernel)
theorem dM_keep_3 : decode (mB mM_keep) 3 = .ok (.bipush 7, 2) := op16 7 (by decide +kernel)
theorem dM_keep_5 : decode (mB mM_keep) 5 = .ok (.if_icmp .ge 21, 3) := op162 0 21 (by decide +kernel)
theorem dM_keep_8 : decode (mB mM_keep) 8 = .ok (.aload_n 0, 1) := op42 (by decide +kernel)
theorem dM_keep_9 : decode (mB mM_keep) 9 = .ok (.getfield 39, 3) := op180 0 39 (by decide +kernel)
theorem dM_keep_12 : decode (mB mM_keep) 12 = .ok (.iload_n 1, 1) := op27 (by decide +kernel)
theorem dM_keep_13 : decode (mB mM_keep) 13 = .ok (.aload_n 0, 1) := op42 (by decide +kernel)
theorem dM_keep_14 : decode (mB mM_keep) 14 = .ok (.getfield 36, 3) := op180 0 36 (by decide +kernel)
theorem dM_keep_17 : decode (mB mM_keep) 17 = .ok (.iload_n 1, 1) := op27 (by decide +kernel)
theorem dM_keep_18 : decode (mB mM_keep) 18 = .ok (.iaload, 1) := op46 (by decide +kernel)
theorem dM_keep_19 : decode (mB mM_keep) 19 = .ok (.iastore, 1) := op79 (by decide +kernel)
theorem dM_keep_20 : decode (mB mM_keep) 20 = .ok (.iinc 1 1, 3) := op132 1 1 (by decide +kernel)
theorem dM_keep_23 : decode (mB mM_keep) 23 = .ok (.goto (-21), 3) := op167 255 235 (by decide +kernel)
theorem dM_keep_26 : decode (mB mM_keep) 26 = .ok (.iconst 1, 1) := op4 (by decide +kernel)
theorem dM_keep_27 : decode (mB mM_keep) 27 = .ok (.ireturn, 1) := op172 (by decide +kernel)

theorem vM_keep_0 {M : Mm} {b : Nat × Nat} {K : Int32 → Mm → Prop} {v0 : Nat}  
    (h : X mM_keep 2 [(0, .ref v0), (1, .int 0)] [] M b (QI K)) : X mM_keep 0 [(0, .ref v0)] [] M b (QI K) := by
  refine x_wf (fun hw => ?_)
  refine x_iconst (pc := 0) dM_keep_0 (v := 0) rfl ?_
  refine x_istore_n (pc := 1) dM_keep_1 rfl (by decide) (L' := [(1, .int 0), (0, .ref v0)]) rfl ?_
  exact x_loc [1, 0] rfl h

theorem vM_keep_2 {M : Mm} {b : Nat × Nat} {K : Int32 → Mm → Prop} {v0 : Nat} {v1 : Int32} {r1 : Nat} {r2 : Nat} (kv0 : v0 % 64 = 11) (e1 : gr M v0 19 = some r1) (e2 : gr M v0 18 = some r2)
    (h : (¬ 7 ≤ v1 → vp_in v1 7) ∧ (7 ≤ v1 → (K 1 M)) ∧ (¬ 7 ≤ v1 → (vp_in v1 7 ∧ (X mM_keep 2 [(0, .ref v0), (1, .int (v1 + 1))] [] (si M r1 (v1).toNatClampNeg (gi M r2 (v1).toNatClampNeg)) b (QI K))))) : X mM_keep 2 [(0, .ref v0), (1, .int v1)] [] M b (QI K) := by
  refine x_wf (fun hw => ?_)
  refine x_iload_n (pc := 2) dM_keep_2 rfl (q := 1) rfl ?_
  refine x_bipush (pc := 3) dM_keep_3 (v := 7) rfl ?_
  obtain ⟨s1, g1_0, g1_1⟩ := h
  refine x_icmp_ge (pc := 5) dM_keep_5 (t := 26) rfl (fun q1 => ?_) (fun q1 => ?_)
  · refine x_iconst (pc := 26) dM_keep_26 (v := 1) rfl ?_
    have h := g1_0 q1
    exact x_retQI (pc := 27) dM_keep_27 rfl rfl h
  · refine x_aload_n (pc := 8) dM_keep_8 rfl (q := 0) rfl ?_
    refine x_getR (pc := 9) dM_keep_9 kv0 flM_39 rfl e1 ?_
    refine x_iload_n (pc := 12) dM_keep_12 rfl (q := 1) rfl ?_
    refine x_aload_n (pc := 13) dM_keep_13 rfl (q := 0) rfl ?_
    refine x_getR (pc := 14) dM_keep_14 kv0 flM_36 rfl e2 ?_
    refine x_iload_n (pc := 17) dM_keep_17 rfl (q := 1) rfl ?_
    refine x_aldIj (pc := 18) (j := (v1).toNatClampNeg) (Or.inl ⟨rfl, rfl⟩) dM_keep_18 (wfk hw e2 kv0) ak_15 rfl (s1 q1) ?_
    have h := g1_1 q1
    obtain ⟨s502, h⟩ := h
    refine x_astIj (pc := 19) (j := (v1).toNatClampNeg) (v := gi M r2 (v1).toNatClampNeg) (Or.inl ⟨rfl, rfl, rfl⟩) dM_keep_19 (wfk hw e1 kv0) ak_15 rfl s502 ?_
    refine x_iinc (pc := 20) dM_keep_20 (q := 1) rfl (v := v1 + 1) rfl (by decide) (L' := [(1, .int (v1 + 1)), (0, .ref v0)]) rfl ?_
    refine x_goto (pc := 23) dM_keep_23 (t := 2) rfl ?_
    exact x_loc [1, 0] rfl h

theorem dM_swap_0 : decode (mB mM_swap) 0 = .ok (.iconst 0, 1) := op3 (by decide +kernel)
theorem dM_swap_1 : decode (mB mM_swap) 1 = .ok (.istore_n 1, 1) := op60 (by decide +kernel)
theorem dM_swap_2 : decode (mB mM_swap) 2 = .ok (.iload_n 1, 1) := op27 (by decide +kernel)
theorem dM_swap_3 : decode (mB mM_swap) 3 = .ok (.bipush 7, 2) := op16 7 (by decide +kernel)
theorem dM_swap_5 : decode (mB mM_swap) 5 = .ok (.if_icmp .ge 35, 3) := op162 0 35 (by decide +kernel)
theorem dM_swap_8 : decode (mB mM_swap) 8 = .ok (.aload_n 0, 1) := op42 (by decide +kernel)
theorem dM_swap_9 : decode (mB mM_swap) 9 = .ok (.getfield 39, 3) := op180 0 39 (by decide +kernel)
theorem dM_swap_12 : decode (mB mM_swap) 12 = .ok (.iload_n 1, 1) := op27 (by decide +kernel)
theorem dM_swap_13 : decode (mB mM_swap) 13 = .ok (.iaload, 1) := op46 (by decide +kernel)
theorem dM_swap_14 : decode (mB mM_swap) 14 = .ok (.istore_n 2, 1) := op61 (by decide +kernel)
theorem dM_swap_15 : decode (mB mM_swap) 15 = .ok (.aload_n 0, 1) := op42 (by decide +kernel)
theorem dM_swap_16 : decode (mB mM_swap) 16 = .ok (.getfield 39, 3) := op180 0 39 (by decide +kernel)
theorem dM_swap_19 : decode (mB mM_swap) 19 = .ok (.iload_n 1, 1) := op27 (by decide +kernel)
theorem dM_swap_20 : decode (mB mM_swap) 20 = .ok (.aload_n 0, 1) := op42 (by decide +kernel)
theorem dM_swap_21 : decode (mB mM_swap) 21 = .ok (.getfield 36, 3) := op180 0 36 (by decide +kernel)
theorem dM_swap_24 : decode (mB mM_swap) 24 = .ok (.iload_n 1, 1) := op27 (by decide +kernel)
theorem dM_swap_25 : decode (mB mM_swap) 25 = .ok (.iaload, 1) := op46 (by decide +kernel)
theorem dM_swap_26 : decode (mB mM_swap) 26 = .ok (.iastore, 1) := op79 (by decide +kernel)
theorem dM_swap_27 : decode (mB mM_swap) 27 = .ok (.aload_n 0, 1) := op42 (by decide +kernel)
theorem dM_swap_28 : decode (mB mM_swap) 28 = .ok (.getfield 36, 3) := op180 0 36 (by decide +kernel)
theorem dM_swap_31 : decode (mB mM_swap) 31 = .ok (.iload_n 1, 1) := op27 (by decide +kernel)
theorem dM_swap_32 : decode (mB mM_swap) 32 = .ok (.iload_n 2, 1) := op28 (by decide +kernel)
theorem dM_swap_33 : decode (mB mM_swap) 33 = .ok (.iastore, 1) := op79 (by decide +kernel)
theorem dM_swap_34 : decode (mB mM_swap) 34 = .ok (.iinc 1 1, 3) := op132 1 1 (by decide +kernel)
theorem dM_swap_37 : decode (mB mM_swap) 37 = .ok (.goto (-35), 3) := op167 255 221 (by decide +kernel)
theorem dM_swap_40 : decode (mB mM_swap) 40 = .ok (.iconst 1, 1) := op4 (by decide +kernel)
theorem dM_swap_41 : decode (mB mM_swap) 41 = .ok (.ireturn, 1) := op172 (by decide +kernel)

theorem vM_swap_0 {M : Mm} {b : Nat × Nat} {K : Int32 → Mm → Prop} {v0 : Nat}  
    (h : X mM_swap 2 [(0, .ref v0), (1, .int 0)] [] M b (QI K)) : X mM_swap 0 [(0, .ref v0)] [] M b (QI K) := by
  refine x_wf (fun hw => ?_)
  refine x_iconst (pc := 0) dM_swap_0 (v := 0) rfl ?_
  refine x_istore_n (pc := 1) dM_swap_1 rfl (by decide) (L' := [(1, .int 0), (0, .ref v0)]) rfl ?_
  exact x_loc [1, 0] rfl h

theorem vM_swap_2 {M : Mm} {b : Nat × Nat} {K : Int32 → Mm → Prop} {v0 : Nat} {v1 : Int32} {r1 : Nat} {r2 : Nat} (kv0 : v0 % 64 = 11) (e1 : gr M v0 19 = some r1) (e2 : gr M v0 18 = some r2)
    (h : (¬ 7 ≤ v1 → vp_in v1 7) ∧ (7 ≤ v1 → (K 1 M)) ∧ (¬ 7 ≤ v1 → (vp_in v1 7 ∧ (vp_in v1 7 ∧ (vp_in v1 7 ∧ (X mM_swap 2 [(0, .ref v0), (1, .int (v1 + 1))] [] (si (si M r1 (v1).toNatClampNeg (gi M r2 (v1).toNatClampNeg)) r2 (v1).toNatClampNeg (gi M r1 (v1).toNatClampNeg)) b (QI K))))))) : X mM_swap 2 [(0, .ref v0), (1, .int v1)] [] M b (QI K) := by
  refine x_wf (fun hw => ?_)
  refine x_iload_n (pc := 2) dM_swap_2 rfl (q := 1) rfl ?_
  refine x_bipush (pc := 3) dM_swap_3 (v := 7) rfl ?_
  obtain ⟨s1, g1_0, g1_1⟩ := h
  refine x_icmp_ge (pc := 5) dM_swap_5 (t := 40) rfl (fun q1 => ?_) (fun q1 => ?_)
  · refine x_iconst (pc := 40) dM_swap_40 (v := 1) rfl ?_
    have h := g1_0 q1
    exact x_retQI (pc := 41) dM_swap_41 rfl rfl h
  · refine x_aload_n (pc := 8) dM_swap_8 rfl (q := 0) rfl ?_
    refine x_getR (pc := 9) dM_swap_9 kv0 flM_39 rfl e1 ?_
    refine x_iload_n (pc := 12) dM_swap_12 rfl (q := 1) rfl ?_
    refine x_aldIj (pc := 13) (j := (v1).toNatClampNeg) (Or.inl ⟨rfl, rfl⟩) dM_swap_13 (wfk hw e1 kv0) ak_15 rfl (s1 q1) ?_
    have h := g1_1 q1
    refine x_istore_n (pc := 14) dM_swap_14 rfl (by decide) (L' := [(2, .int (gi M r1 (v1).toNatClampNeg)), (0, .ref v0), (1, .int v1)]) rfl ?_
    refine x_aload_n (pc := 15) dM_swap_15 rfl (q := 1) rfl ?_
    refine x_getR (pc := 16) dM_swap_16 kv0 flM_39 rfl e1 ?_
    refine x_iload_n (pc := 19) dM_swap_19 rfl (q := 2) rfl ?_
    refine x_aload_n (pc := 20) dM_swap_20 rfl (q := 1) rfl ?_
    refine x_getR (pc := 21) dM_swap_21 kv0 flM_36 rfl e2 ?_
    refine x_iload_n (pc := 24) dM_swap_24 rfl (q := 2) rfl ?_
    obtain ⟨s502, h⟩ := h
    refine x_aldIj (pc := 25) (j := (v1).toNatClampNeg) (Or.inl ⟨rfl, rfl⟩) dM_swap_25 (wfk hw e2 kv0) ak_15 rfl s502 ?_
    obtain ⟨s503, h⟩ := h
    refine x_astIj (pc := 26) (j := (v1).toNatClampNeg) (v := gi M r2 (v1).toNatClampNeg) (Or.inl ⟨rfl, rfl, rfl⟩) dM_swap_26 (wfk hw e1 kv0) ak_15 rfl s503 ?_
    refine x_aload_n (pc := 27) dM_swap_27 rfl (q := 1) rfl ?_
    refine x_getR (pc := 28) dM_swap_28 kv0 flM_36 rfl e2 ?_
    refine x_iload_n (pc := 31) dM_swap_31 rfl (q := 2) rfl ?_
    refine x_iload_n (pc := 32) dM_swap_32 rfl (q := 0) rfl ?_
    obtain ⟨s504, h⟩ := h
    refine x_astIj (pc := 33) (j := (v1).toNatClampNeg) (v := gi M r1 (v1).toNatClampNeg) (Or.inl ⟨rfl, rfl, rfl⟩) dM_swap_33 (wfk hw e2 kv0) ak_15 rfl s504 ?_
    refine x_iinc (pc := 34) dM_swap_34 (q := 2) rfl (v := v1 + 1) rfl (by decide) (L' := [(1, .int (v1 + 1)), (2, .int (gi M r1 (v1).toNatClampNeg)), (0, .ref v0)]) rfl ?_
    refine x_goto (pc := 37) dM_swap_37 (t := 2) rfl ?_
    exact x_loc [2, 0] rfl h

theorem dM_differ_0 : decode (mB mM_differ) 0 = .ok (.iload_n 1, 1) := op27 (by decide +kernel)
theorem dM_differ_1 : decode (mB mM_differ) 1 = .ok (.i2l, 1) := op133 (by decide +kernel)
theorem dM_differ_2 : decode (mB mM_differ) 2 = .ok (.lconst 0, 1) := op9 (by decide +kernel)
theorem dM_differ_3 : decode (mB mM_differ) 3 = .ok (.lconst 1, 1) := op10 (by decide +kernel)
theorem dM_differ_4 : decode (mB mM_differ) 4 = .ok (.invokestatic 126, 3) := op184 0 126 (by decide +kernel)
theorem dM_differ_7 : decode (mB mM_differ) 7 = .ok (.ifCond .ne 5, 3) := op154 0 5 (by decide +kernel)
theorem dM_differ_10 : decode (mB mM_differ) 10 = .ok (.iconst (-1), 1) := op2 (by decide +kernel)
theorem dM_differ_11 : decode (mB mM_differ) 11 = .ok (.ireturn, 1) := op172 (by decide +kernel)
theorem dM_differ_12 : decode (mB mM_differ) 12 = .ok (.aload_n 0, 1) := op42 (by decide +kernel)
theorem dM_differ_13 : decode (mB mM_differ) 13 = .ok (.invokevirtual 319, 3) := op182 1 63 (by decide +kernel)
theorem dM_differ_16 : decode (mB mM_differ) 16 = .ok (.aload_n 0, 1) := op42 (by decide +kernel)
theorem dM_differ_17 : decode (mB mM_differ) 17 = .ok (.invokevirtual 322, 3) := op182 1 66 (by decide +kernel)
theorem dM_differ_20 : decode (mB mM_differ) 20 = .ok (.aload_n 0, 1) := op42 (by decide +kernel)
theorem dM_differ_21 : decode (mB mM_differ) 21 = .ok (.invokevirtual 354, 3) := op182 1 98 (by decide +kernel)
theorem dM_differ_24 : decode (mB mM_differ) 24 = .ok (.pop, 1) := op87 (by decide +kernel)
theorem dM_differ_25 : decode (mB mM_differ) 25 = .ok (.aload_n 0, 1) := op42 (by decide +kernel)
theorem dM_differ_26 : decode (mB mM_differ) 26 = .ok (.invokevirtual 319, 3) := op182 1 63 (by decide +kernel)
theorem dM_differ_29 : decode (mB mM_differ) 29 = .ok (.aload_n 0, 1) := op42 (by decide +kernel)
theorem dM_differ_30 : decode (mB mM_differ) 30 = .ok (.invokevirtual 354, 3) := op182 1 98 (by decide +kernel)
theorem dM_differ_33 : decode (mB mM_differ) 33 = .ok (.pop, 1) := op87 (by decide +kernel)
theorem dM_differ_34 : decode (mB mM_differ) 34 = .ok (.aload_n 0, 1) := op42 (by decide +kernel)
theorem dM_differ_35 : decode (mB mM_differ) 35 = .ok (.invokevirtual 325, 3) := op182 1 69 (by decide +kernel)
theorem dM_differ_38 : decode (mB mM_differ) 38 = .ok (.iload_n 1, 1) := op27 (by decide +kernel)
theorem dM_differ_39 : decode (mB mM_differ) 39 = .ok (.ifCond .ne 10, 3) := op154 0 10 (by decide +kernel)
theorem dM_differ_42 : decode (mB mM_differ) 42 = .ok (.aload_n 0, 1) := op42 (by decide +kernel)
theorem dM_differ_43 : decode (mB mM_differ) 43 = .ok (.getfield 313, 3) := op180 1 57 (by decide +kernel)
theorem dM_differ_46 : decode (mB mM_differ) 46 = .ok (.goto 7, 3) := op167 0 7 (by decide +kernel)
theorem dM_differ_49 : decode (mB mM_differ) 49 = .ok (.aload_n 0, 1) := op42 (by decide +kernel)
theorem dM_differ_50 : decode (mB mM_differ) 50 = .ok (.getfield 316, 3) := op180 1 60 (by decide +kernel)
theorem dM_differ_53 : decode (mB mM_differ) 53 = .ok (.ireturn, 1) := op172 (by decide +kernel)

theorem vM_differ_0 {M : Mm} {b : Nat × Nat} {K : Int32 → Mm → Prop} {v0 : Nat} {v1 : Int32}  
    (h : CI mM_in [.long ((v1).toInt64), .long 0, .long 1] M (fun rv N => X mM_differ 7 [(0, .ref v0), (1, .int v1)] [.int rv] N b (QI K))) : X mM_differ 0 [(0, .ref v0), (1, .int v1)] [] M b (QI K) := by
  refine x_wf (fun hw => ?_)
  refine x_iload_n (pc := 0) dM_differ_0 rfl (q := 1) rfl ?_
  refine x_i2l (pc := 1) dM_differ_1 ?_
  refine x_lconst (pc := 2) dM_differ_2 (v := 0) rfl ?_
  refine x_lconst (pc := 3) dM_differ_3 (v := 1) rfl ?_
  exact x_invS (pc := 4) dM_differ_4 (S := []) (As := [.long ((v1).toInt64), .long 0, .long 1]) mlM_126 hM_in rfl ⟨by decide, by decide⟩ ⟨Nat.zero_le _, Nat.zero_le _⟩ rfl (Nat.le_of_ble_eq_true rfl) (aftI (b' := b) ⟨Nat.le_refl _, Nat.le_refl _⟩ (fun rv N h => h) h)

theorem vM_differ_7 {M : Mm} {b : Nat × Nat} {K : Int32 → Mm → Prop} {v0 : Nat} {v1 : Int32} {w0 : Int32} (kv0 : v0 % 64 = 11) 
    (h : (¬ w0 = 0 → (CV mM_findAll [.ref v0] M (fun N => X mM_differ 16 [(0, .ref v0), (1, .int v1)] [] N b (QI K)))) ∧ (w0 = 0 → (K (-1) M))) : X mM_differ 7 [(0, .ref v0), (1, .int v1)] [.int w0] M b (QI K) := by
  refine x_wf (fun hw => ?_)
  obtain ⟨g1_0, g1_1⟩ := h
  refine x_if_ne (pc := 7) dM_differ_7 (t := 12) rfl (fun q1 => ?_) (fun q1 => ?_)
  · refine x_aload_n (pc := 12) dM_differ_12 rfl (q := 0) rfl ?_
    have h := g1_0 q1
    exact x_invV (pc := 13) dM_differ_13 (c := 11) (S := []) (As := []) mlM_319 hM_findAll rfl (by decide) rfl kv0 ⟨by decide, by decide⟩ ⟨Nat.zero_le _, Nat.zero_le _⟩ rfl (Nat.le_of_ble_eq_true rfl) (aftV (b' := b) ⟨Nat.le_refl _, Nat.le_refl _⟩ (fun N h => h) h)
  · refine x_iconst (pc := 10) dM_differ_10 (v := (-1)) rfl ?_
    have h := g1_1 q1
    exact x_retQI (pc := 11) dM_differ_11 rfl rfl h

theorem vM_differ_16 {M : Mm} {b : Nat × Nat} {K : Int32 → Mm → Prop} {v0 : Nat} {v1 : Int32} (kv0 : v0 % 64 = 11) 
    (h : CV mM_keepHeld [.ref v0] M (fun N => X mM_differ 20 [(0, .ref v0), (1, .int v1)] [] N b (QI K))) : X mM_differ 16 [(0, .ref v0), (1, .int v1)] [] M b (QI K) := by
  refine x_wf (fun hw => ?_)
  refine x_aload_n (pc := 16) dM_differ_16 rfl (q := 0) rfl ?_
  exact x_invV (pc := 17) dM_differ_17 (c := 11) (S := []) (As := []) mlM_322 hM_keepHeld rfl (by decide) rfl kv0 ⟨by decide, by decide⟩ ⟨Nat.zero_le _, Nat.zero_le _⟩ rfl (Nat.le_of_ble_eq_true rfl) (aftV (b' := b) ⟨Nat.le_refl _, Nat.le_refl _⟩ (fun N h => h) h)

theorem vM_differ_20 {M : Mm} {b : Nat × Nat} {K : Int32 → Mm → Prop} {v0 : Nat} {v1 : Int32} (kv0 : v0 % 64 = 11) 
    (h : CI mM_swap [.ref v0] M (fun rv N => X mM_differ 24 [(0, .ref v0), (1, .int v1)] [.int rv] N b (QI K))) : X mM_differ 20 [(0, .ref v0), (1, .int v1)] [] M b (QI K) := by
  refine x_wf (fun hw => ?_)
  refine x_aload_n (pc := 20) dM_differ_20 rfl (q := 0) rfl ?_
  exact x_invV (pc := 21) dM_differ_21 (c := 11) (S := []) (As := []) mlM_354 hM_swap rfl (by decide) rfl kv0 ⟨by decide, by decide⟩ ⟨Nat.zero_le _, Nat.zero_le _⟩ rfl (Nat.le_of_ble_eq_true rfl) (aftI (b' := b) ⟨Nat.le_refl _, Nat.le_refl _⟩ (fun rv N h => h) h)

theorem vM_differ_24 {M : Mm} {b : Nat × Nat} {K : Int32 → Mm → Prop} {v0 : Nat} {v1 : Int32} {w0 : Int32} (kv0 : v0 % 64 = 11) 
    (h : CV mM_findAll [.ref v0] M (fun N => X mM_differ 29 [(0, .ref v0), (1, .int v1)] [] N b (QI K))) : X mM_differ 24 [(0, .ref v0), (1, .int v1)] [.int w0] M b (QI K) := by
  refine x_wf (fun hw => ?_)
  refine x_pop (pc := 24) dM_differ_24 rfl ?_
  refine x_aload_n (pc := 25) dM_differ_25 rfl (q := 0) rfl ?_
  exact x_invV (pc := 26) dM_differ_26 (c := 11) (S := []) (As := []) mlM_319 hM_findAll rfl (by decide) rfl kv0 ⟨by decide, by decide⟩ ⟨Nat.zero_le _, Nat.zero_le _⟩ rfl (Nat.le_of_ble_eq_true rfl) (aftV (b' := b) ⟨Nat.le_refl _, Nat.le_refl _⟩ (fun N h => h) h)

theorem vM_differ_29 {M : Mm} {b : Nat × Nat} {K : Int32 → Mm → Prop} {v0 : Nat} {v1 : Int32} (kv0 : v0 % 64 = 11) 
    (h : CI mM_swap [.ref v0] M (fun rv N => X mM_differ 33 [(0, .ref v0), (1, .int v1)] [.int rv] N b (QI K))) : X mM_differ 29 [(0, .ref v0), (1, .int v1)] [] M b (QI K) := by
  refine x_wf (fun hw => ?_)
  refine x_aload_n (pc := 29) dM_differ_29 rfl (q := 0) rfl ?_
  exact x_invV (pc := 30) dM_differ_30 (c := 11) (S := []) (As := []) mlM_354 hM_swap rfl (by decide) rfl kv0 ⟨by decide, by decide⟩ ⟨Nat.zero_le _, Nat.zero_le _⟩ rfl (Nat.le_of_ble_eq_true rfl) (aftI (b' := b) ⟨Nat.le_refl _, Nat.le_refl _⟩ (fun rv N h => h) h)

theorem vM_differ_33 {M : Mm} {b : Nat × Nat} {K : Int32 → Mm → Prop} {v0 : Nat} {v1 : Int32} {w0 : Int32} (kv0 : v0 % 64 = 11) 
    (h : CV mM_findChanged [.ref v0] M (fun N => X mM_differ 38 [(0, .ref v0), (1, .int v1)] [] N b (QI K))) : X mM_differ 33 [(0, .ref v0), (1, .int v1)] [.int w0] M b (QI K) := by
  refine x_wf (fun hw => ?_)
  refine x_pop (pc := 33) dM_differ_33 rfl ?_
  refine x_aload_n (pc := 34) dM_differ_34 rfl (q := 0) rfl ?_
  exact x_invV (pc := 35) dM_differ_35 (c := 11) (S := []) (As := []) mlM_325 hM_findChanged rfl (by decide) rfl kv0 ⟨by decide, by decide⟩ ⟨Nat.zero_le _, Nat.zero_le _⟩ rfl (Nat.le_of_ble_eq_true rfl) (aftV (b' := b) ⟨Nat.le_refl _, Nat.le_refl _⟩ (fun N h => h) h)

theorem vM_differ_38 {M : Mm} {b : Nat × Nat} {K : Int32 → Mm → Prop} {v0 : Nat} {v1 : Int32} (kv0 : v0 % 64 = 11) 
    (h : K (if v1 = 0 then (gi M v0 35) else (gi M v0 36) : Int32) M) : X mM_differ 38 [(0, .ref v0), (1, .int v1)] [] M b (QI K) := by
  refine x_wf (fun hw => ?_)
  refine x_iload_n (pc := 38) dM_differ_38 rfl (q := 1) rfl ?_
  suffices hJ : X mM_differ 53 [(0, .ref v0), (1, .int v1)] [.int (if v1 = 0 then (gi M v0 35) else (gi M v0 36) : Int32)] M b (QI K) by
    refine x_if_ne (pc := 39) dM_differ_39 (t := 49) rfl (fun q1 => ?_) (fun q1 => ?_)
    · refine x_aload_n (pc := 49) dM_differ_49 rfl (q := 0) rfl ?_
      refine x_getI (pc := 50) dM_differ_50 kv0 flM_316 rfl ?_
      first | (rw [if_neg q1] at hJ; exact hJ) | (simp only [if_neg q1] at hJ ⊢; exact hJ)
    · refine x_aload_n (pc := 42) dM_differ_42 rfl (q := 0) rfl ?_
      refine x_getI (pc := 43) dM_differ_43 kv0 flM_313 rfl ?_
      refine x_goto (pc := 46) dM_differ_46 (t := 53) rfl ?_
      first | (rw [if_pos q1] at hJ; exact hJ) | (simp only [if_pos q1] at hJ ⊢; exact hJ)
  exact x_retQI (pc := 53) dM_differ_53 rfl rfl h

theorem dM_brief_0 : decode (mB mM_brief) 0 = .ok (.iload_n 1, 1) := op27 (by decide +kernel)
theorem dM_brief_1 : decode (mB mM_brief) 1 = .ok (.i2l, 1) := op133 (by decide +kernel)
theorem dM_brief_2 : decode (mB mM_brief) 2 = .ok (.lconst 0, 1) := op9 (by decide +kernel)
theorem dM_brief_3 : decode (mB mM_brief) 3 = .ok (.lconst 1, 1) := op10 (by decide +kernel)
theorem dM_brief_4 : decode (mB mM_brief) 4 = .ok (.invokestatic 126, 3) := op184 0 126 (by decide +kernel)
theorem dM_brief_7 : decode (mB mM_brief) 7 = .ok (.ifCond .ne 5, 3) := op154 0 5 (by decide +kernel)
theorem dM_brief_10 : decode (mB mM_brief) 10 = .ok (.iconst (-1), 1) := op2 (by decide +kernel)
theorem dM_brief_11 : decode (mB mM_brief) 11 = .ok (.ireturn, 1) := op172 (by decide +kernel)
theorem dM_brief_12 : decode (mB mM_brief) 12 = .ok (.aload_n 0, 1) := op42 (by decide +kernel)
theorem dM_brief_13 : decode (mB mM_brief) 13 = .ok (.invokevirtual 319, 3) := op182 1 63 (by decide +kernel)
theorem dM_brief_16 : decode (mB mM_brief) 16 = .ok (.bipush 63, 2) := op16 63 (by decide +kernel)
theorem dM_brief_18 : decode (mB mM_brief) 18 = .ok (.istore_n 2, 1) := op61 (by decide +kernel)
theorem dM_brief_19 : decode (mB mM_brief) 19 = .ok (.iconst 0, 1) := op3 (by decide +kernel)
theorem dM_brief_20 : decode (mB mM_brief) 20 = .ok (.istore_n 3, 1) := op62 (by decide +kernel)
theorem dM_brief_21 : decode (mB mM_brief) 21 = .ok (.iload_n 3, 1) := op29 (by decide +kernel)
theorem dM_brief_22 : decode (mB mM_brief) 22 = .ok (.bipush 63, 2) := op16 63 (by decide +kernel)
theorem dM_brief_24 : decode (mB mM_brief) 24 = .ok (.if_icmp .ge 159, 3) := op162 0 159 (by decide +kernel)
theorem dM_brief_27 : decode (mB mM_brief) 27 = .ok (.iload_n 3, 1) := op29 (by decide +kernel)
theorem dM_brief_28 : decode (mB mM_brief) 28 = .ok (.invokestatic 264, 3) := op184 1 8 (by decide +kernel)
theorem dM_brief_31 : decode (mB mM_brief) 31 = .ok (.iload_n 2, 1) := op28 (by decide +kernel)
theorem dM_brief_32 : decode (mB mM_brief) 32 = .ok (.invokestatic 264, 3) := op184 1 8 (by decide +kernel)
theorem dM_brief_35 : decode (mB mM_brief) 35 = .ok (.if_icmp .lt 19, 3) := op161 0 19 (by decide +kernel)
theorem dM_brief_38 : decode (mB mM_brief) 38 = .ok (.iload_n 3, 1) := op29 (by decide +kernel)
theorem dM_brief_39 : decode (mB mM_brief) 39 = .ok (.invokestatic 264, 3) := op184 1 8 (by decide +kernel)
theorem dM_brief_42 : decode (mB mM_brief) 42 = .ok (.iload_n 2, 1) := op28 (by decide +kernel)
theorem dM_brief_43 : decode (mB mM_brief) 43 = .ok (.invokestatic 264, 3) := op184 1 8 (by decide +kernel)
theorem dM_brief_46 : decode (mB mM_brief) 46 = .ok (.if_icmp .ne 12, 3) := op160 0 12 (by decide +kernel)
theorem dM_brief_49 : decode (mB mM_brief) 49 = .ok (.iload_n 3, 1) := op29 (by decide +kernel)
theorem dM_brief_50 : decode (mB mM_brief) 50 = .ok (.iload_n 2, 1) := op28 (by decide +kernel)
theorem dM_brief_51 : decode (mB mM_brief) 51 = .ok (.if_icmp .ge 7, 3) := op162 0 7 (by decide +kernel)
theorem dM_brief_54 : decode (mB mM_brief) 54 = .ok (.iconst 1, 1) := op4 (by decide +kernel)
theorem dM_brief_55 : decode (mB mM_brief) 55 = .ok (.goto 4, 3) := op167 0 4 (by decide +kernel)
theorem dM_brief_58 : decode (mB mM_brief) 58 = .ok (.iconst 0, 1) := op3 (by decide +kernel)
theorem dM_brief_59 : decode (mB mM_brief) 59 = .ok (.istore 4, 2) := op54 4 (by decide +kernel)
theorem dM_brief_61 : decode (mB mM_brief) 61 = .ok (.iconst 0, 1) := op3 (by decide +kernel)
theorem dM_brief_62 : decode (mB mM_brief) 62 = .ok (.istore 5, 2) := op54 5 (by decide +kernel)
theorem dM_brief_64 : decode (mB mM_brief) 64 = .ok (.iload 5, 2) := op21 5 (by decide +kernel)
theorem dM_brief_66 : decode (mB mM_brief) 66 = .ok (.bipush 64, 2) := op16 64 (by decide +kernel)
theorem dM_brief_68 : decode (mB mM_brief) 68 = .ok (.if_icmp .ge 98, 3) := op162 0 98 (by decide +kernel)
theorem dM_brief_71 : decode (mB mM_brief) 71 = .ok (.iload 4, 2) := op21 4 (by decide +kernel)
theorem dM_brief_73 : decode (mB mM_brief) 73 = .ok (.ifCond .eq 93, 3) := op153 0 93 (by decide +kernel)
theorem dM_brief_76 : decode (mB mM_brief) 76 = .ok (.iconst 0, 1) := op3 (by decide +kernel)
theorem dM_brief_77 : decode (mB mM_brief) 77 = .ok (.istore 6, 2) := op54 6 (by decide +kernel)
theorem dM_brief_79 : decode (mB mM_brief) 79 = .ok (.iload 6, 2) := op21 6 (by decide +kernel)
theorem dM_brief_81 : decode (mB mM_brief) 81 = .ok (.iload 5, 2) := op21 5 (by decide +kernel)
theorem dM_brief_83 : decode (mB mM_brief) 83 = .ok (.if_icmp .ge 77, 3) := op162 0 77 (by decide +kernel)
theorem dM_brief_86 : decode (mB mM_brief) 86 = .ok (.iload 4, 2) := op21 4 (by decide +kernel)
theorem dM_brief_88 : decode (mB mM_brief) 88 = .ok (.ifCond .eq 62, 3) := op153 0 62 (by decide +kernel)
theorem dM_brief_91 : decode (mB mM_brief) 91 = .ok (.iload 5, 2) := op21 5 (by decide +kernel)
theorem dM_brief_93 : decode (mB mM_brief) 93 = .ok (.iload 6, 2) := op21 6 (by decide +kernel)
theorem dM_brief_95 : decode (mB mM_brief) 95 = .ok (.ixor, 1) := op130 (by decide +kernel)
theorem dM_brief_96 : decode (mB mM_brief) 96 = .ok (.iload_n 3, 1) := op29 (by decide +kernel)
theorem dM_brief_97 : decode (mB mM_brief) 97 = .ok (.iand, 1) := op126 (by decide +kernel)
theorem dM_brief_98 : decode (mB mM_brief) 98 = .ok (.ifCond .ne 52, 3) := op154 0 52 (by decide +kernel)
theorem dM_brief_101 : decode (mB mM_brief) 101 = .ok (.aload_n 0, 1) := op42 (by decide +kernel)
theorem dM_brief_102 : decode (mB mM_brief) 102 = .ok (.getfield 67, 3) := op180 0 67 (by decide +kernel)
theorem dM_brief_105 : decode (mB mM_brief) 105 = .ok (.iload 5, 2) := op21 5 (by decide +kernel)
theorem dM_brief_107 : decode (mB mM_brief) 107 = .ok (.iaload, 1) := op46 (by decide +kernel)
theorem dM_brief_108 : decode (mB mM_brief) 108 = .ok (.bipush (-4), 2) := op16 252 (by decide +kernel)
theorem dM_brief_110 : decode (mB mM_brief) 110 = .ok (.if_icmp .eq 40, 3) := op159 0 40 (by decide +kernel)
theorem dM_brief_113 : decode (mB mM_brief) 113 = .ok (.aload_n 0, 1) := op42 (by decide +kernel)
theorem dM_brief_114 : decode (mB mM_brief) 114 = .ok (.getfield 67, 3) := op180 0 67 (by decide +kernel)
theorem dM_brief_117 : decode (mB mM_brief) 117 = .ok (.iload 6, 2) := op21 6 (by decide +kernel)
theorem dM_brief_119 : decode (mB mM_brief) 119 = .ok (.iaload, 1) := op46 (by decide +kernel)
theorem dM_brief_120 : decode (mB mM_brief) 120 = .ok (.bipush (-4), 2) := op16 252 (by decide +kernel)
theorem dM_brief_122 : decode (mB mM_brief) 122 = .ok (.if_icmp .eq 28, 3) := op159 0 28 (by decide +kernel)
theorem dM_brief_125 : decode (mB mM_brief) 125 = .ok (.aload_n 0, 1) := op42 (by decide +kernel)
theorem dM_brief_126 : decode (mB mM_brief) 126 = .ok (.getfield 67, 3) := op180 0 67 (by decide +kernel)
theorem dM_brief_129 : decode (mB mM_brief) 129 = .ok (.iload 5, 2) := op21 5 (by decide +kernel)
theorem dM_brief_131 : decode (mB mM_brief) 131 = .ok (.iaload, 1) := op46 (by decide +kernel)
theorem dM_brief_132 : decode (mB mM_brief) 132 = .ok (.aload_n 0, 1) := op42 (by decide +kernel)
theorem dM_brief_133 : decode (mB mM_brief) 133 = .ok (.getfield 67, 3) := op180 0 67 (by decide +kernel)
theorem dM_brief_136 : decode (mB mM_brief) 136 = .ok (.iload 6, 2) := op21 6 (by decide +kernel)
theorem dM_brief_138 : decode (mB mM_brief) 138 = .ok (.iaload, 1) := op46 (by decide +kernel)
theorem dM_brief_139 : decode (mB mM_brief) 139 = .ok (.if_icmp .ne 7, 3) := op160 0 7 (by decide +kernel)
theorem dM_brief_142 : decode (mB mM_brief) 142 = .ok (.iconst 1, 1) := op4 (by decide +kernel)
theorem dM_brief_143 : decode (mB mM_brief) 143 = .ok (.goto 9, 3) := op167 0 9 (by decide +kernel)
theorem dM_brief_146 : decode (mB mM_brief) 146 = .ok (.iconst 0, 1) := op3 (by decide +kernel)
theorem dM_brief_147 : decode (mB mM_brief) 147 = .ok (.goto 5, 3) := op167 0 5 (by decide +kernel)
theorem dM_brief_150 : decode (mB mM_brief) 150 = .ok (.iload 4, 2) := op21 4 (by decide +kernel)
theorem dM_brief_152 : decode (mB mM_brief) 152 = .ok (.istore 4, 2) := op54 4 (by decide +kernel)
theorem dM_brief_154 : decode (mB mM_brief) 154 = .ok (.iinc 6 1, 3) := op132 6 1 (by decide +kernel)
theorem dM_brief_157 : decode (mB mM_brief) 157 = .ok (.goto (-78), 3) := op167 255 178 (by decide +kernel)
theorem dM_brief_160 : decode (mB mM_brief) 160 = .ok (.iinc 5 1, 3) := op132 5 1 (by decide +kernel)
theorem dM_brief_163 : decode (mB mM_brief) 163 = .ok (.goto (-99), 3) := op167 255 157 (by decide +kernel)
theorem dM_brief_166 : decode (mB mM_brief) 166 = .ok (.iload 4, 2) := op21 4 (by decide +kernel)
theorem dM_brief_168 : decode (mB mM_brief) 168 = .ok (.ifCond .eq 7, 3) := op153 0 7 (by decide +kernel)
theorem dM_brief_171 : decode (mB mM_brief) 171 = .ok (.iload_n 3, 1) := op29 (by decide +kernel)
theorem dM_brief_172 : decode (mB mM_brief) 172 = .ok (.goto 4, 3) := op167 0 4 (by decide +kernel)
theorem dM_brief_175 : decode (mB mM_brief) 175 = .ok (.iload_n 2, 1) := op28 (by decide +kernel)
theorem dM_brief_176 : decode (mB mM_brief) 176 = .ok (.istore_n 2, 1) := op61 (by decide +kernel)
theorem dM_brief_177 : decode (mB mM_brief) 177 = .ok (.iinc 3 1, 3) := op132 3 1 (by decide +kernel)
theorem dM_brief_180 : decode (mB mM_brief) 180 = .ok (.goto (-159), 3) := op167 255 97 (by decide +kernel)
theorem dM_brief_183 : decode (mB mM_brief) 183 = .ok (.iload_n 1, 1) := op27 (by decide +kernel)
theorem dM_brief_184 : decode (mB mM_brief) 184 = .ok (.ifCond .ne 10, 3) := op154 0 10 (by decide +kernel)
theorem dM_brief_187 : decode (mB mM_brief) 187 = .ok (.iload_n 2, 1) := op28 (by decide +kernel)
theorem dM_brief_188 : decode (mB mM_brief) 188 = .ok (.invokestatic 264, 3) := op184 1 8 (by decide +kernel)
theorem dM_brief_191 : decode (mB mM_brief) 191 = .ok (.goto 4, 3) := op167 0 4 (by decide +kernel)
theorem dM_brief_194 : decode (mB mM_brief) 194 = .ok (.iload_n 2, 1) := op28 (by decide +kernel)
theorem dM_brief_195 : decode (mB mM_brief) 195 = .ok (.ireturn, 1) := op172 (by decide +kernel)

theorem vM_brief_0 {M : Mm} {b : Nat × Nat} {K : Int32 → Mm → Prop} {v0 : Nat} {v1 : Int32}  
    (h : CI mM_in [.long ((v1).toInt64), .long 0, .long 1] M (fun rv N => X mM_brief 7 [(0, .ref v0), (1, .int v1)] [.int rv] N b (QI K))) : X mM_brief 0 [(0, .ref v0), (1, .int v1)] [] M b (QI K) := by
  refine x_wf (fun hw => ?_)
  refine x_iload_n (pc := 0) dM_brief_0 rfl (q := 1) rfl ?_
  refine x_i2l (pc := 1) dM_brief_1 ?_
  refine x_lconst (pc := 2) dM_brief_2 (v := 0) rfl ?_
  refine x_lconst (pc := 3) dM_brief_3 (v := 1) rfl ?_
  exact x_invS (pc := 4) dM_brief_4 (S := []) (As := [.long ((v1).toInt64), .long 0, .long 1]) mlM_126 hM_in rfl ⟨by decide, by decide⟩ ⟨Nat.zero_le _, Nat.zero_le _⟩ rfl (Nat.le_of_ble_eq_true rfl) (aftI (b' := b) ⟨Nat.le_refl _, Nat.le_refl _⟩ (fun rv N h => h) h)

theorem vM_brief_7 {M : Mm} {b : Nat × Nat} {K : Int32 → Mm → Prop} {v0 : Nat} {v1 : Int32} {w0 : Int32} (kv0 : v0 % 64 = 11) 
    (h : (¬ w0 = 0 → (CV mM_findAll [.ref v0] M (fun N => X mM_brief 16 [(0, .ref v0), (1, .int v1)] [] N b (QI K)))) ∧ (w0 = 0 → (K (-1) M))) : X mM_brief 7 [(0, .ref v0), (1, .int v1)] [.int w0] M b (QI K) := by
  refine x_wf (fun hw => ?_)
  obtain ⟨g1_0, g1_1⟩ := h
  refine x_if_ne (pc := 7) dM_brief_7 (t := 12) rfl (fun q1 => ?_) (fun q1 => ?_)
  · refine x_aload_n (pc := 12) dM_brief_12 rfl (q := 0) rfl ?_
    have h := g1_0 q1
    exact x_invV (pc := 13) dM_brief_13 (c := 11) (S := []) (As := []) mlM_319 hM_findAll rfl (by decide) rfl kv0 ⟨by decide, by decide⟩ ⟨Nat.zero_le _, Nat.zero_le _⟩ rfl (Nat.le_of_ble_eq_true rfl) (aftV (b' := b) ⟨Nat.le_refl _, Nat.le_refl _⟩ (fun N h => h) h)
  · refine x_iconst (pc := 10) dM_brief_10 (v := (-1)) rfl ?_
    have h := g1_1 q1
    exact x_retQI (pc := 11) dM_brief_11 rfl rfl h

theorem vM_brief_16 {M : Mm} {b : Nat × Nat} {K : Int32 → Mm → Prop} {v0 : Nat} {v1 : Int32}  
    (h : X mM_brief 21 [(0, .ref v0), (1, .int v1), (2, .int 63), (3, .int 0)] [] M b (QI K)) : X mM_brief 16 [(0, .ref v0), (1, .int v1)] [] M b (QI K) := by
  refine x_wf (fun hw => ?_)
  refine x_bipush (pc := 16) dM_brief_16 (v := 63) rfl ?_
  refine x_istore_n (pc := 18) dM_brief_18 rfl (by decide) (L' := [(2, .int 63), (0, .ref v0), (1, .int v1)]) rfl ?_
  refine x_iconst (pc := 19) dM_brief_19 (v := 0) rfl ?_
  refine x_istore_n (pc := 20) dM_brief_20 rfl (by decide) (L' := [(3, .int 0), (2, .int 63), (0, .ref v0), (1, .int v1)]) rfl ?_
  exact x_loc [2, 3, 1, 0] rfl h

theorem vM_brief_21 {M : Mm} {b : Nat × Nat} {K : Int32 → Mm → Prop} {v0 : Nat} {v1 : Int32} {v2 : Int32} {v3 : Int32}  
    (h : ((63 ≤ v3 ∧ ¬ v1 = 0) → (K v2 M)) ∧ ((63 ≤ v3 ∧ v1 = 0) → (CI mM_countOf [.int v2] M (fun rv N => X mM_brief 191 [] [.int rv] N b (QI K)))) ∧ (¬ 63 ≤ v3 → (CI mM_countOf [.int v3] M (fun rv N => X mM_brief 31 [(0, .ref v0), (1, .int v1), (2, .int v2), (3, .int v3)] [.int rv] N b (QI K))))) : X mM_brief 21 [(0, .ref v0), (1, .int v1), (2, .int v2), (3, .int v3)] [] M b (QI K) := by
  refine x_wf (fun hw => ?_)
  refine x_iload_n (pc := 21) dM_brief_21 rfl (q := 3) rfl ?_
  refine x_bipush (pc := 22) dM_brief_22 (v := 63) rfl ?_
  obtain ⟨g1_0, g1_1, g1_2⟩ := h
  refine x_icmp_ge (pc := 24) dM_brief_24 (t := 183) rfl (fun q1 => ?_) (fun q1 => ?_)
  · refine x_iload_n (pc := 183) dM_brief_183 rfl (q := 1) rfl ?_
    refine x_if_ne (pc := 184) dM_brief_184 (t := 194) rfl (fun q2 => ?_) (fun q2 => ?_)
    · refine x_iload_n (pc := 194) dM_brief_194 rfl (q := 2) rfl ?_
      have h := g1_0 ⟨q1, q2⟩
      exact x_retQI (pc := 195) dM_brief_195 rfl rfl h
    · refine x_iload_n (pc := 187) dM_brief_187 rfl (q := 2) rfl ?_
      have h := g1_1 ⟨q1, q2⟩
      exact x_invS (pc := 188) dM_brief_188 (S := []) (As := [.int v2]) mlM_264 hM_countOf rfl ⟨by decide, by decide⟩ ⟨Nat.zero_le _, Nat.zero_le _⟩ rfl (Nat.le_of_ble_eq_true rfl) (aftI (b' := b) ⟨Nat.le_refl _, Nat.le_refl _⟩ (fun rv N h => x_loc [] rfl h) h)
  · refine x_iload_n (pc := 27) dM_brief_27 rfl (q := 3) rfl ?_
    have h := g1_2 q1
    exact x_invS (pc := 28) dM_brief_28 (S := []) (As := [.int v3]) mlM_264 hM_countOf rfl ⟨by decide, by decide⟩ ⟨Nat.zero_le _, Nat.zero_le _⟩ rfl (Nat.le_of_ble_eq_true rfl) (aftI (b' := b) ⟨Nat.le_refl _, Nat.le_refl _⟩ (fun rv N h => h) h)

theorem vM_brief_31 {M : Mm} {b : Nat × Nat} {K : Int32 → Mm → Prop} {v0 : Nat} {v1 : Int32} {v2 : Int32} {v3 : Int32} {w0 : Int32}  
    (h : CI mM_countOf [.int v2] M (fun rv N => X mM_brief 35 [(0, .ref v0), (1, .int v1), (2, .int v2), (3, .int v3)] [.int rv, .int w0] N b (QI K))) : X mM_brief 31 [(0, .ref v0), (1, .int v1), (2, .int v2), (3, .int v3)] [.int w0] M b (QI K) := by
  refine x_wf (fun hw => ?_)
  refine x_iload_n (pc := 31) dM_brief_31 rfl (q := 2) rfl ?_
  exact x_invS (pc := 32) dM_brief_32 (S := [.int w0]) (As := [.int v2]) mlM_264 hM_countOf rfl ⟨by decide, by decide⟩ ⟨Nat.zero_le _, Nat.zero_le _⟩ rfl (Nat.le_of_ble_eq_true rfl) (aftI (b' := b) ⟨Nat.le_refl _, Nat.le_refl _⟩ (fun rv N h => h) h)

theorem vM_brief_35 {M : Mm} {b : Nat × Nat} {K : Int32 → Mm → Prop} {v0 : Nat} {v1 : Int32} {v2 : Int32} {v3 : Int32} {w0 : Int32} {w1 : Int32}  
    (h : (w1 < w0 → (X mM_brief 54 [(0, .ref v0), (1, .int v1), (2, .int v2), (3, .int v3)] [] M b (QI K))) ∧ (¬ w1 < w0 → (CI mM_countOf [.int v3] M (fun rv N => X mM_brief 42 [(0, .ref v0), (1, .int v1), (2, .int v2), (3, .int v3)] [.int rv] N b (QI K))))) : X mM_brief 35 [(0, .ref v0), (1, .int v1), (2, .int v2), (3, .int v3)] [.int w0, .int w1] M b (QI K) := by
  refine x_wf (fun hw => ?_)
  obtain ⟨g1_0, g1_1⟩ := h
  refine x_icmp_lt (pc := 35) dM_brief_35 (t := 54) rfl (fun q1 => ?_) (fun q1 => ?_)
  · have h := g1_0 q1
    exact h
  · refine x_iload_n (pc := 38) dM_brief_38 rfl (q := 3) rfl ?_
    have h := g1_1 q1
    exact x_invS (pc := 39) dM_brief_39 (S := []) (As := [.int v3]) mlM_264 hM_countOf rfl ⟨by decide, by decide⟩ ⟨Nat.zero_le _, Nat.zero_le _⟩ rfl (Nat.le_of_ble_eq_true rfl) (aftI (b' := b) ⟨Nat.le_refl _, Nat.le_refl _⟩ (fun rv N h => h) h)

theorem vM_brief_42 {M : Mm} {b : Nat × Nat} {K : Int32 → Mm → Prop} {v0 : Nat} {v1 : Int32} {v2 : Int32} {v3 : Int32} {w0 : Int32}  
    (h : CI mM_countOf [.int v2] M (fun rv N => X mM_brief 46 [(0, .ref v0), (1, .int v1), (2, .int v2), (3, .int v3)] [.int rv, .int w0] N b (QI K))) : X mM_brief 42 [(0, .ref v0), (1, .int v1), (2, .int v2), (3, .int v3)] [.int w0] M b (QI K) := by
  refine x_wf (fun hw => ?_)
  refine x_iload_n (pc := 42) dM_brief_42 rfl (q := 2) rfl ?_
  exact x_invS (pc := 43) dM_brief_43 (S := [.int w0]) (As := [.int v2]) mlM_264 hM_countOf rfl ⟨by decide, by decide⟩ ⟨Nat.zero_le _, Nat.zero_le _⟩ rfl (Nat.le_of_ble_eq_true rfl) (aftI (b' := b) ⟨Nat.le_refl _, Nat.le_refl _⟩ (fun rv N h => h) h)

theorem vM_brief_46 {M : Mm} {b : Nat × Nat} {K : Int32 → Mm → Prop} {v0 : Nat} {v1 : Int32} {v2 : Int32} {v3 : Int32} {w0 : Int32} {w1 : Int32}  
    (h : (((¬ w1 = w0) ∨ (w1 = w0 ∧ v2 ≤ v3)) → (X mM_brief 59 [(0, .ref v0), (1, .int v1), (2, .int v2), (3, .int v3)] [.int 0] M b (QI K))) ∧ ((w1 = w0 ∧ ¬ v2 ≤ v3) → (X mM_brief 54 [(0, .ref v0), (1, .int v1), (2, .int v2), (3, .int v3)] [] M b (QI K)))) : X mM_brief 46 [(0, .ref v0), (1, .int v1), (2, .int v2), (3, .int v3)] [.int w0, .int w1] M b (QI K) := by
  refine x_wf (fun hw => ?_)
  obtain ⟨g1_0, g1_1⟩ := h
  have g1_k0 : (¬ w1 = w0) ∨ (w1 = w0 ∧ v2 ≤ v3) → X mM_brief 58 [(0, .ref v0), (1, .int v1), (2, .int v2), (3, .int v3)] [] M b (QI K) := fun q => by
    have h := g1_0 q
    refine x_iconst (pc := 58) dM_brief_58 (v := 0) rfl ?_
    exact h
  refine x_icmp_ne (pc := 46) dM_brief_46 (t := 58) rfl (fun q1 => ?_) (fun q1 => ?_)
  · exact g1_k0 (Or.inl q1)
  · refine x_iload_n (pc := 49) dM_brief_49 rfl (q := 3) rfl ?_
    refine x_iload_n (pc := 50) dM_brief_50 rfl (q := 2) rfl ?_
    refine x_icmp_ge (pc := 51) dM_brief_51 (t := 58) rfl (fun q2 => ?_) (fun q2 => ?_)
    · exact g1_k0 (Or.inr ⟨q1, q2⟩)
    · have h := g1_1 ⟨q1, q2⟩
      exact h

theorem vM_brief_54 {M : Mm} {b : Nat × Nat} {K : Int32 → Mm → Prop} {v0 : Nat} {v1 : Int32} {v2 : Int32} {v3 : Int32}  
    (h : X mM_brief 59 [(0, .ref v0), (1, .int v1), (2, .int v2), (3, .int v3)] [.int 1] M b (QI K)) : X mM_brief 54 [(0, .ref v0), (1, .int v1), (2, .int v2), (3, .int v3)] [] M b (QI K) := by
  refine x_wf (fun hw => ?_)
  refine x_iconst (pc := 54) dM_brief_54 (v := 1) rfl ?_
  refine x_goto (pc := 55) dM_brief_55 (t := 59) rfl ?_
  exact h

theorem vM_brief_59 {M : Mm} {b : Nat × Nat} {K : Int32 → Mm → Prop} {v0 : Nat} {v1 : Int32} {v2 : Int32} {v3 : Int32} {w0 : Int32}  
    (h : X mM_brief 64 [(0, .ref v0), (1, .int v1), (2, .int v2), (3, .int v3), (4, .int w0), (5, .int 0)] [] M b (QI K)) : X mM_brief 59 [(0, .ref v0), (1, .int v1), (2, .int v2), (3, .int v3)] [.int w0] M b (QI K) := by
  refine x_wf (fun hw => ?_)
  refine x_istore (pc := 59) dM_brief_59 (by decide) (L' := [(4, .int w0), (0, .ref v0), (1, .int v1), (2, .int v2), (3, .int v3)]) rfl ?_
  refine x_iconst (pc := 61) dM_brief_61 (v := 0) rfl ?_
  refine x_istore (pc := 62) dM_brief_62 (by decide) (L' := [(5, .int 0), (4, .int w0), (0, .ref v0), (1, .int v1), (2, .int v2), (3, .int v3)]) rfl ?_
  exact x_loc [2, 3, 4, 5, 1, 0] rfl h

theorem vM_brief_64 {M : Mm} {b : Nat × Nat} {K : Int32 → Mm → Prop} {v0 : Nat} {v1 : Int32} {v2 : Int32} {v3 : Int32} {v4 : Int32} {v5 : Int32}  
    (h : (((64 ≤ v5) ∨ (¬ 64 ≤ v5 ∧ v4 = 0)) → (X mM_brief 21 [(0, .ref v0), (1, .int v1), (2, .int (if v4 = 0 then v2 else v3 : Int32)), (3, .int (v3 + 1))] [] M b (QI K))) ∧ ((¬ 64 ≤ v5 ∧ ¬ v4 = 0) → (X mM_brief 79 [(0, .ref v0), (1, .int v1), (2, .int v2), (3, .int v3), (4, .int v4), (5, .int v5), (6, .int 0)] [] M b (QI K)))) : X mM_brief 64 [(0, .ref v0), (1, .int v1), (2, .int v2), (3, .int v3), (4, .int v4), (5, .int v5)] [] M b (QI K) := by
  refine x_wf (fun hw => ?_)
  refine x_iload (pc := 64) dM_brief_64 (q := 5) rfl ?_
  refine x_bipush (pc := 66) dM_brief_66 (v := 64) rfl ?_
  obtain ⟨g1_0, g1_1⟩ := h
  have g1_k0 : (64 ≤ v5) ∨ (¬ 64 ≤ v5 ∧ v4 = 0) → X mM_brief 166 [(0, .ref v0), (1, .int v1), (2, .int v2), (3, .int v3), (4, .int v4), (5, .int v5)] [] M b (QI K) := fun q => by
    have h := g1_0 q
    refine x_iload (pc := 166) dM_brief_166 (q := 4) rfl ?_
    suffices hJ : X mM_brief 176 [(0, .ref v0), (1, .int v1), (2, .int v2), (3, .int v3), (4, .int v4), (5, .int v5)] [.int (if v4 = 0 then v2 else v3 : Int32)] M b (QI K) by
      refine x_if_eq (pc := 168) dM_brief_168 (t := 175) rfl (fun q3 => ?_) (fun q3 => ?_)
      · refine x_iload_n (pc := 175) dM_brief_175 rfl (q := 2) rfl ?_
        first | (rw [if_pos q3] at hJ; exact hJ) | (simp only [if_pos q3] at hJ ⊢; exact hJ)
      · refine x_iload_n (pc := 171) dM_brief_171 rfl (q := 3) rfl ?_
        refine x_goto (pc := 172) dM_brief_172 (t := 176) rfl ?_
        first | (rw [if_neg q3] at hJ; exact hJ) | (simp only [if_neg q3] at hJ ⊢; exact hJ)
    refine x_istore_n (pc := 176) dM_brief_176 rfl (by decide) (L' := [(2, .int (if v4 = 0 then v2 else v3 : Int32)), (0, .ref v0), (1, .int v1), (3, .int v3), (4, .int v4), (5, .int v5)]) rfl ?_
    refine x_iinc (pc := 177) dM_brief_177 (q := 3) rfl (v := v3 + 1) rfl (by decide) (L' := [(3, .int (v3 + 1)), (2, .int (if v4 = 0 then v2 else v3 : Int32)), (0, .ref v0), (1, .int v1), (4, .int v4), (5, .int v5)]) rfl ?_
    refine x_goto (pc := 180) dM_brief_180 (t := 21) rfl ?_
    exact x_loc [2, 3, 1, 0] rfl h
  refine x_icmp_ge (pc := 68) dM_brief_68 (t := 166) rfl (fun q1 => ?_) (fun q1 => ?_)
  · exact g1_k0 (Or.inl q1)
  · refine x_iload (pc := 71) dM_brief_71 (q := 4) rfl ?_
    refine x_if_eq (pc := 73) dM_brief_73 (t := 166) rfl (fun q2 => ?_) (fun q2 => ?_)
    · exact g1_k0 (Or.inr ⟨q1, q2⟩)
    · refine x_iconst (pc := 76) dM_brief_76 (v := 0) rfl ?_
      have h := g1_1 ⟨q1, q2⟩
      refine x_istore (pc := 77) dM_brief_77 (by decide) (L' := [(6, .int 0), (0, .ref v0), (1, .int v1), (2, .int v2), (3, .int v3), (4, .int v4), (5, .int v5)]) rfl ?_
      exact x_loc [1, 2, 3, 4, 5, 6, 0] rfl h

theorem vM_brief_79 {M : Mm} {b : Nat × Nat} {K : Int32 → Mm → Prop} {v0 : Nat} {v1 : Int32} {v2 : Int32} {v3 : Int32} {v4 : Int32} {v5 : Int32} {v6 : Int32} {r1 : Nat} (kv0 : v0 % 64 = 11) (e1 : gr M v0 30 = some r1)
    (h : (¬ v5 ≤ v6 ∧ ¬ v4 = 0 ∧ ((v5 ^^^ v6) &&& v3) = 0 → vp_in v5 64) ∧ (¬ v5 ≤ v6 ∧ ¬ v4 = 0 ∧ ((v5 ^^^ v6) &&& v3) = 0 ∧ ¬ (gi M r1 (v5).toNatClampNeg) = (-4) → vp_in v6 64) ∧ (¬ v5 ≤ v6 ∧ ¬ v4 = 0 ∧ ((v5 ^^^ v6) &&& v3) = 0 ∧ ¬ (gi M r1 (v5).toNatClampNeg) = (-4) ∧ ¬ (gi M r1 (v6).toNatClampNeg) = (-4) → vp_in v5 64) ∧ (¬ v5 ≤ v6 ∧ ¬ v4 = 0 ∧ ((v5 ^^^ v6) &&& v3) = 0 ∧ ¬ (gi M r1 (v5).toNatClampNeg) = (-4) ∧ ¬ (gi M r1 (v6).toNatClampNeg) = (-4) → vp_in v6 64) ∧ (v5 ≤ v6 → (X mM_brief 64 [(0, .ref v0), (1, .int v1), (2, .int v2), (3, .int v3), (4, .int v4), (5, .int (v5 + 1))] [] M b (QI K))) ∧ (((¬ v5 ≤ v6 ∧ v4 = 0) ∨ (¬ v5 ≤ v6 ∧ ¬ v4 = 0 ∧ ¬ ((v5 ^^^ v6) &&& v3) = 0) ∨ (¬ v5 ≤ v6 ∧ ¬ v4 = 0 ∧ ((v5 ^^^ v6) &&& v3) = 0 ∧ (gi M r1 (v5).toNatClampNeg) = (-4)) ∨ (¬ v5 ≤ v6 ∧ ¬ v4 = 0 ∧ ((v5 ^^^ v6) &&& v3) = 0 ∧ ¬ (gi M r1 (v5).toNatClampNeg) = (-4) ∧ (gi M r1 (v6).toNatClampNeg) = (-4))) → (X mM_brief 152 [(0, .ref v0), (1, .int v1), (2, .int v2), (3, .int v3), (5, .int v5), (6, .int v6)] [.int v4] M b (QI K))) ∧ ((¬ v5 ≤ v6 ∧ ¬ v4 = 0 ∧ ((v5 ^^^ v6) &&& v3) = 0 ∧ ¬ (gi M r1 (v5).toNatClampNeg) = (-4) ∧ ¬ (gi M r1 (v6).toNatClampNeg) = (-4) ∧ ¬ (gi M r1 (v5).toNatClampNeg) = (gi M r1 (v6).toNatClampNeg)) → (X mM_brief 152 [(0, .ref v0), (1, .int v1), (2, .int v2), (3, .int v3), (5, .int v5), (6, .int v6)] [.int 0] M b (QI K))) ∧ ((¬ v5 ≤ v6 ∧ ¬ v4 = 0 ∧ ((v5 ^^^ v6) &&& v3) = 0 ∧ ¬ (gi M r1 (v5).toNatClampNeg) = (-4) ∧ ¬ (gi M r1 (v6).toNatClampNeg) = (-4) ∧ (gi M r1 (v5).toNatClampNeg) = (gi M r1 (v6).toNatClampNeg)) → (X mM_brief 152 [(0, .ref v0), (1, .int v1), (2, .int v2), (3, .int v3), (5, .int v5), (6, .int v6)] [.int 1] M b (QI K)))) : X mM_brief 79 [(0, .ref v0), (1, .int v1), (2, .int v2), (3, .int v3), (4, .int v4), (5, .int v5), (6, .int v6)] [] M b (QI K) := by
  refine x_wf (fun hw => ?_)
  refine x_iload (pc := 79) dM_brief_79 (q := 6) rfl ?_
  refine x_iload (pc := 81) dM_brief_81 (q := 5) rfl ?_
  obtain ⟨s1, s2, s3, s4, g1_0, g1_1, g1_2, g1_3⟩ := h
  have g1_k1 : (¬ v5 ≤ v6 ∧ v4 = 0) ∨ (¬ v5 ≤ v6 ∧ ¬ v4 = 0 ∧ ¬ ((v5 ^^^ v6) &&& v3) = 0) ∨ (¬ v5 ≤ v6 ∧ ¬ v4 = 0 ∧ ((v5 ^^^ v6) &&& v3) = 0 ∧ (gi M r1 (v5).toNatClampNeg) = (-4)) ∨ (¬ v5 ≤ v6 ∧ ¬ v4 = 0 ∧ ((v5 ^^^ v6) &&& v3) = 0 ∧ ¬ (gi M r1 (v5).toNatClampNeg) = (-4) ∧ (gi M r1 (v6).toNatClampNeg) = (-4)) → X mM_brief 150 [(0, .ref v0), (1, .int v1), (2, .int v2), (3, .int v3), (4, .int v4), (5, .int v5), (6, .int v6)] [] M b (QI K) := fun q => by
    have h := g1_1 q
    refine x_iload (pc := 150) dM_brief_150 (q := 4) rfl ?_
    exact x_loc [0, 1, 2, 3, 5, 6] rfl h
  refine x_icmp_ge (pc := 83) dM_brief_83 (t := 160) rfl (fun q1 => ?_) (fun q1 => ?_)
  · have h := g1_0 q1
    refine x_iinc (pc := 160) dM_brief_160 (q := 5) rfl (v := v5 + 1) rfl (by decide) (L' := [(5, .int (v5 + 1)), (0, .ref v0), (1, .int v1), (2, .int v2), (3, .int v3), (4, .int v4), (6, .int v6)]) rfl ?_
    refine x_goto (pc := 163) dM_brief_163 (t := 64) rfl ?_
    exact x_loc [1, 2, 3, 4, 5, 0] rfl h
  · refine x_iload (pc := 86) dM_brief_86 (q := 4) rfl ?_
    refine x_if_eq (pc := 88) dM_brief_88 (t := 150) rfl (fun q2 => ?_) (fun q2 => ?_)
    · exact g1_k1 (Or.inl ⟨q1, q2⟩)
    · refine x_iload (pc := 91) dM_brief_91 (q := 5) rfl ?_
      refine x_iload (pc := 93) dM_brief_93 (q := 6) rfl ?_
      refine x_ixor (pc := 95) dM_brief_95 ?_
      refine x_iload_n (pc := 96) dM_brief_96 rfl (q := 3) rfl ?_
      refine x_iand (pc := 97) dM_brief_97 ?_
      refine x_if_ne (pc := 98) dM_brief_98 (t := 150) rfl (fun q3 => ?_) (fun q3 => ?_)
      · exact g1_k1 (Or.inr (Or.inl ⟨q1, q2, q3⟩))
      · refine x_aload_n (pc := 101) dM_brief_101 rfl (q := 0) rfl ?_
        refine x_getR (pc := 102) dM_brief_102 kv0 flM_67 rfl e1 ?_
        refine x_iload (pc := 105) dM_brief_105 (q := 5) rfl ?_
        refine x_aldIj (pc := 107) (j := (v5).toNatClampNeg) (Or.inl ⟨rfl, rfl⟩) dM_brief_107 (wfk hw e1 kv0) ak_14 rfl (s1 ⟨q1, q2, q3⟩) ?_
        refine x_bipush (pc := 108) dM_brief_108 (v := (-4)) rfl ?_
        refine x_icmp_eq (pc := 110) dM_brief_110 (t := 150) rfl (fun q4 => ?_) (fun q4 => ?_)
        · exact g1_k1 (Or.inr (Or.inr (Or.inl ⟨q1, q2, q3, q4⟩)))
        · refine x_aload_n (pc := 113) dM_brief_113 rfl (q := 0) rfl ?_
          refine x_getR (pc := 114) dM_brief_114 kv0 flM_67 rfl e1 ?_
          refine x_iload (pc := 117) dM_brief_117 (q := 6) rfl ?_
          refine x_aldIj (pc := 119) (j := (v6).toNatClampNeg) (Or.inl ⟨rfl, rfl⟩) dM_brief_119 (wfk hw e1 kv0) ak_14 rfl (s2 ⟨q1, q2, q3, q4⟩) ?_
          refine x_bipush (pc := 120) dM_brief_120 (v := (-4)) rfl ?_
          refine x_icmp_eq (pc := 122) dM_brief_122 (t := 150) rfl (fun q5 => ?_) (fun q5 => ?_)
          · exact g1_k1 (Or.inr (Or.inr (Or.inr ⟨q1, q2, q3, q4, q5⟩)))
          · refine x_aload_n (pc := 125) dM_brief_125 rfl (q := 0) rfl ?_
            refine x_getR (pc := 126) dM_brief_126 kv0 flM_67 rfl e1 ?_
            refine x_iload (pc := 129) dM_brief_129 (q := 5) rfl ?_
            refine x_aldIj (pc := 131) (j := (v5).toNatClampNeg) (Or.inl ⟨rfl, rfl⟩) dM_brief_131 (wfk hw e1 kv0) ak_14 rfl (s3 ⟨q1, q2, q3, q4, q5⟩) ?_
            refine x_aload_n (pc := 132) dM_brief_132 rfl (q := 0) rfl ?_
            refine x_getR (pc := 133) dM_brief_133 kv0 flM_67 rfl e1 ?_
            refine x_iload (pc := 136) dM_brief_136 (q := 6) rfl ?_
            refine x_aldIj (pc := 138) (j := (v6).toNatClampNeg) (Or.inl ⟨rfl, rfl⟩) dM_brief_138 (wfk hw e1 kv0) ak_14 rfl (s4 ⟨q1, q2, q3, q4, q5⟩) ?_
            refine x_icmp_ne (pc := 139) dM_brief_139 (t := 146) rfl (fun q6 => ?_) (fun q6 => ?_)
            · refine x_iconst (pc := 146) dM_brief_146 (v := 0) rfl ?_
              refine x_goto (pc := 147) dM_brief_147 (t := 152) rfl ?_
              have h := g1_2 ⟨q1, q2, q3, q4, q5, q6⟩
              exact x_loc [0, 1, 2, 3, 5, 6] rfl h
            · refine x_iconst (pc := 142) dM_brief_142 (v := 1) rfl ?_
              refine x_goto (pc := 143) dM_brief_143 (t := 152) rfl ?_
              have h := g1_3 ⟨q1, q2, q3, q4, q5, q6⟩
              exact x_loc [0, 1, 2, 3, 5, 6] rfl h

theorem vM_brief_152 {M : Mm} {b : Nat × Nat} {K : Int32 → Mm → Prop} {v0 : Nat} {v1 : Int32} {v2 : Int32} {v3 : Int32} {v5 : Int32} {v6 : Int32} {w0 : Int32}  
    (h : X mM_brief 79 [(0, .ref v0), (1, .int v1), (2, .int v2), (3, .int v3), (4, .int w0), (5, .int v5), (6, .int (v6 + 1))] [] M b (QI K)) : X mM_brief 152 [(0, .ref v0), (1, .int v1), (2, .int v2), (3, .int v3), (5, .int v5), (6, .int v6)] [.int w0] M b (QI K) := by
  refine x_wf (fun hw => ?_)
  refine x_istore (pc := 152) dM_brief_152 (by decide) (L' := [(4, .int w0), (0, .ref v0), (1, .int v1), (2, .int v2), (3, .int v3), (5, .int v5), (6, .int v6)]) rfl ?_
  refine x_iinc (pc := 154) dM_brief_154 (q := 6) rfl (v := v6 + 1) rfl (by decide) (L' := [(6, .int (v6 + 1)), (4, .int w0), (0, .ref v0), (1, .int v1), (2, .int v2), (3, .int v3), (5, .int v5)]) rfl ?_
  refine x_goto (pc := 157) dM_brief_157 (t := 79) rfl ?_
  exact x_loc [2, 3, 4, 5, 1, 6, 0] rfl h

theorem vM_brief_191 {M : Mm} {b : Nat × Nat} {K : Int32 → Mm → Prop} {w0 : Int32}  
    (h : K w0 M) : X mM_brief 191 [] [.int w0] M b (QI K) := by
  refine x_wf (fun hw => ?_)
  refine x_goto (pc := 191) dM_brief_191 (t := 195) rfl ?_
  exact x_retQI (pc := 195) dM_brief_195 rfl rfl h

theorem dM_sheet_0 : decode (mB mM_sheet) 0 = .ok (.iload_n 1, 1) := op27 (by decide +kernel)
theorem dM_sheet_1 : decode (mB mM_sheet) 1 = .ok (.iload_n 2, 1) := op28 (by decide +kernel)
theorem dM_sheet_2 : decode (mB mM_sheet) 2 = .ok (.invokestatic 357, 3) := op184 1 101 (by decide +kernel)
theorem dM_sheet_5 : decode (mB mM_sheet) 5 = .ok (.ifCond .eq 9, 3) := op153 0 9 (by decide +kernel)
theorem dM_sheet_8 : decode (mB mM_sheet) 8 = .ok (.iload_n 3, 1) := op29 (by decide +kernel)
theorem dM_sheet_9 : decode (mB mM_sheet) 9 = .ok (.bipush 40, 2) := op16 40 (by decide +kernel)
theorem dM_sheet_11 : decode (mB mM_sheet) 11 = .ok (.if_icmp .le 5, 3) := op164 0 5 (by decide +kernel)
theorem dM_sheet_14 : decode (mB mM_sheet) 14 = .ok (.iconst (-1), 1) := op2 (by decide +kernel)
theorem dM_sheet_15 : decode (mB mM_sheet) 15 = .ok (.ireturn, 1) := op172 (by decide +kernel)
theorem dM_sheet_16 : decode (mB mM_sheet) 16 = .ok (.iload_n 3, 1) := op29 (by decide +kernel)
theorem dM_sheet_17 : decode (mB mM_sheet) 17 = .ok (.ifCond .ge 6, 3) := op156 0 6 (by decide +kernel)
theorem dM_sheet_20 : decode (mB mM_sheet) 20 = .ok (.bipush (-14), 2) := op16 242 (by decide +kernel)
theorem dM_sheet_22 : decode (mB mM_sheet) 22 = .ok (.ireturn, 1) := op172 (by decide +kernel)
theorem dM_sheet_23 : decode (mB mM_sheet) 23 = .ok (.aload_n 0, 1) := op42 (by decide +kernel)
theorem dM_sheet_24 : decode (mB mM_sheet) 24 = .ok (.getfield 88, 3) := op180 0 88 (by decide +kernel)
theorem dM_sheet_27 : decode (mB mM_sheet) 27 = .ok (.iload_n 1, 1) := op27 (by decide +kernel)
theorem dM_sheet_28 : decode (mB mM_sheet) 28 = .ok (.iload_n 2, 1) := op28 (by decide +kernel)
theorem dM_sheet_29 : decode (mB mM_sheet) 29 = .ok (.iastore, 1) := op79 (by decide +kernel)
theorem dM_sheet_30 : decode (mB mM_sheet) 30 = .ok (.aload_n 0, 1) := op42 (by decide +kernel)
theorem dM_sheet_31 : decode (mB mM_sheet) 31 = .ok (.getfield 91, 3) := op180 0 91 (by decide +kernel)
theorem dM_sheet_34 : decode (mB mM_sheet) 34 = .ok (.iload_n 1, 1) := op27 (by decide +kernel)
theorem dM_sheet_35 : decode (mB mM_sheet) 35 = .ok (.iload_n 3, 1) := op29 (by decide +kernel)
theorem dM_sheet_36 : decode (mB mM_sheet) 36 = .ok (.iastore, 1) := op79 (by decide +kernel)
theorem dM_sheet_37 : decode (mB mM_sheet) 37 = .ok (.iconst 0, 1) := op3 (by decide +kernel)
theorem dM_sheet_38 : decode (mB mM_sheet) 38 = .ok (.istore 4, 2) := op54 4 (by decide +kernel)
theorem dM_sheet_40 : decode (mB mM_sheet) 40 = .ok (.iload 4, 2) := op21 4 (by decide +kernel)
theorem dM_sheet_42 : decode (mB mM_sheet) 42 = .ok (.bipush 40, 2) := op16 40 (by decide +kernel)
theorem dM_sheet_44 : decode (mB mM_sheet) 44 = .ok (.if_icmp .ge 22, 3) := op162 0 22 (by decide +kernel)
theorem dM_sheet_47 : decode (mB mM_sheet) 47 = .ok (.aload_n 0, 1) := op42 (by decide +kernel)
theorem dM_sheet_48 : decode (mB mM_sheet) 48 = .ok (.getfield 94, 3) := op180 0 94 (by decide +kernel)
theorem dM_sheet_51 : decode (mB mM_sheet) 51 = .ok (.bipush 40, 2) := op16 40 (by decide +kernel)
theorem dM_sheet_53 : decode (mB mM_sheet) 53 = .ok (.iload_n 1, 1) := op27 (by decide +kernel)
theorem dM_sheet_54 : decode (mB mM_sheet) 54 = .ok (.imul, 1) := op104 (by decide +kernel)
theorem dM_sheet_55 : decode (mB mM_sheet) 55 = .ok (.iload 4, 2) := op21 4 (by decide +kernel)
theorem dM_sheet_57 : decode (mB mM_sheet) 57 = .ok (.iadd, 1) := op96 (by decide +kernel)
theorem dM_sheet_58 : decode (mB mM_sheet) 58 = .ok (.iconst 0, 1) := op3 (by decide +kernel)
theorem dM_sheet_59 : decode (mB mM_sheet) 59 = .ok (.iastore, 1) := op79 (by decide +kernel)
theorem dM_sheet_60 : decode (mB mM_sheet) 60 = .ok (.iinc 4 1, 3) := op132 4 1 (by decide +kernel)
theorem dM_sheet_63 : decode (mB mM_sheet) 63 = .ok (.goto (-23), 3) := op167 255 233 (by decide +kernel)
theorem dM_sheet_66 : decode (mB mM_sheet) 66 = .ok (.iconst 1, 1) := op4 (by decide +kernel)
theorem dM_sheet_67 : decode (mB mM_sheet) 67 = .ok (.ireturn, 1) := op172 (by decide +kernel)

theorem vM_sheet_0 {M : Mm} {b : Nat × Nat} {K : Int32 → Mm → Prop} {v0 : Nat} {v1 : Int32} {v2 : Int32} {v3 : Int32}  
    (h : CI mM_isSheet [.int v1, .int v2] M (fun rv N => X mM_sheet 5 [(0, .ref v0), (1, .int v1), (2, .int v2), (3, .int v3)] [.int rv] N b (QI K))) : X mM_sheet 0 [(0, .ref v0), (1, .int v1), (2, .int v2), (3, .int v3)] [] M b (QI K) := by
  refine x_wf (fun hw => ?_)
  refine x_iload_n (pc := 0) dM_sheet_0 rfl (q := 1) rfl ?_
  refine x_iload_n (pc := 1) dM_sheet_1 rfl (q := 2) rfl ?_
  exact x_invS (pc := 2) dM_sheet_2 (S := []) (As := [.int v1, .int v2]) mlM_357 hM_isSheet rfl ⟨by decide, by decide⟩ ⟨Nat.zero_le _, Nat.zero_le _⟩ rfl (Nat.le_of_ble_eq_true rfl) (aftI (b' := b) ⟨Nat.le_refl _, Nat.le_refl _⟩ (fun rv N h => h) h)

theorem vM_sheet_5 {M : Mm} {b : Nat × Nat} {K : Int32 → Mm → Prop} {v0 : Nat} {v1 : Int32} {v2 : Int32} {v3 : Int32} {w0 : Int32} {r1 : Nat} {r2 : Nat} (kv0 : v0 % 64 = 11) (e1 : gr M v0 40 = some r1) (e2 : gr M v0 41 = some r2)
    (h : (((w0 = 0) ∨ (¬ w0 = 0 ∧ ¬ v3 ≤ 40)) → (K (-1) M)) ∧ ((¬ w0 = 0 ∧ v3 ≤ 40 ∧ 0 ≤ v3) → (vp_in v1 4 ∧ (vp_in v1 4 ∧ (X mM_sheet 40 [(0, .ref v0), (1, .int v1), (4, .int 0)] [] (si (si M r1 (v1).toNatClampNeg v2) r2 (v1).toNatClampNeg v3) b (QI K))))) ∧ ((¬ w0 = 0 ∧ v3 ≤ 40 ∧ ¬ 0 ≤ v3) → (K (-14) M))) : X mM_sheet 5 [(0, .ref v0), (1, .int v1), (2, .int v2), (3, .int v3)] [.int w0] M b (QI K) := by
  refine x_wf (fun hw => ?_)
  obtain ⟨g1_0, g1_1, g1_2⟩ := h
  have g1_k0 : (w0 = 0) ∨ (¬ w0 = 0 ∧ ¬ v3 ≤ 40) → X mM_sheet 14 [(0, .ref v0), (1, .int v1), (2, .int v2), (3, .int v3)] [] M b (QI K) := fun q => by
    have h := g1_0 q
    refine x_iconst (pc := 14) dM_sheet_14 (v := (-1)) rfl ?_
    exact x_retQI (pc := 15) dM_sheet_15 rfl rfl h
  refine x_if_eq (pc := 5) dM_sheet_5 (t := 14) rfl (fun q1 => ?_) (fun q1 => ?_)
  · exact g1_k0 (Or.inl q1)
  · refine x_iload_n (pc := 8) dM_sheet_8 rfl (q := 3) rfl ?_
    refine x_bipush (pc := 9) dM_sheet_9 (v := 40) rfl ?_
    refine x_icmp_le (pc := 11) dM_sheet_11 (t := 16) rfl (fun q2 => ?_) (fun q2 => ?_)
    · refine x_iload_n (pc := 16) dM_sheet_16 rfl (q := 3) rfl ?_
      refine x_if_ge (pc := 17) dM_sheet_17 (t := 23) rfl (fun q3 => ?_) (fun q3 => ?_)
      · refine x_aload_n (pc := 23) dM_sheet_23 rfl (q := 0) rfl ?_
        refine x_getR (pc := 24) dM_sheet_24 kv0 flM_88 rfl e1 ?_
        refine x_iload_n (pc := 27) dM_sheet_27 rfl (q := 1) rfl ?_
        refine x_iload_n (pc := 28) dM_sheet_28 rfl (q := 2) rfl ?_
        have h := g1_1 ⟨q1, q2, q3⟩
        obtain ⟨s501, h⟩ := h
        refine x_astIj (pc := 29) (j := (v1).toNatClampNeg) (v := v2) (Or.inl ⟨rfl, rfl, rfl⟩) dM_sheet_29 (wfk hw e1 kv0) ak_28 rfl s501 ?_
        refine x_aload_n (pc := 30) dM_sheet_30 rfl (q := 0) rfl ?_
        refine x_getR (pc := 31) dM_sheet_31 kv0 flM_91 rfl e2 ?_
        refine x_iload_n (pc := 34) dM_sheet_34 rfl (q := 1) rfl ?_
        refine x_iload_n (pc := 35) dM_sheet_35 rfl (q := 3) rfl ?_
        obtain ⟨s502, h⟩ := h
        refine x_astIj (pc := 36) (j := (v1).toNatClampNeg) (v := v3) (Or.inl ⟨rfl, rfl, rfl⟩) dM_sheet_36 (wfk hw e2 kv0) ak_28 rfl s502 ?_
        refine x_iconst (pc := 37) dM_sheet_37 (v := 0) rfl ?_
        refine x_istore (pc := 38) dM_sheet_38 (by decide) (L' := [(4, .int 0), (0, .ref v0), (1, .int v1), (2, .int v2), (3, .int v3)]) rfl ?_
        exact x_loc [1, 2, 0] rfl h
      · refine x_bipush (pc := 20) dM_sheet_20 (v := (-14)) rfl ?_
        have h := g1_2 ⟨q1, q2, q3⟩
        exact x_retQI (pc := 22) dM_sheet_22 rfl rfl h
    · exact g1_k0 (Or.inr ⟨q1, q2⟩)

theorem vM_sheet_40 {M : Mm} {b : Nat × Nat} {K : Int32 → Mm → Prop} {v0 : Nat} {v1 : Int32} {v4 : Int32} {r1 : Nat} (kv0 : v0 % 64 = 11) (e1 : gr M v0 42 = some r1)
    (h : (40 ≤ v4 → (K 1 M)) ∧ (¬ 40 ≤ v4 → (vp_in ((40 * v1) + v4) 160 ∧ (X mM_sheet 40 [(0, .ref v0), (1, .int v1), (4, .int (v4 + 1))] [] (si M r1 ((40 * v1) + v4).toNatClampNeg 0) b (QI K))))) : X mM_sheet 40 [(0, .ref v0), (1, .int v1), (4, .int v4)] [] M b (QI K) := by
  refine x_wf (fun hw => ?_)
  refine x_iload (pc := 40) dM_sheet_40 (q := 2) rfl ?_
  refine x_bipush (pc := 42) dM_sheet_42 (v := 40) rfl ?_
  obtain ⟨g1_0, g1_1⟩ := h
  refine x_icmp_ge (pc := 44) dM_sheet_44 (t := 66) rfl (fun q1 => ?_) (fun q1 => ?_)
  · refine x_iconst (pc := 66) dM_sheet_66 (v := 1) rfl ?_
    have h := g1_0 q1
    exact x_retQI (pc := 67) dM_sheet_67 rfl rfl h
  · refine x_aload_n (pc := 47) dM_sheet_47 rfl (q := 0) rfl ?_
    refine x_getR (pc := 48) dM_sheet_48 kv0 flM_94 rfl e1 ?_
    refine x_bipush (pc := 51) dM_sheet_51 (v := 40) rfl ?_
    refine x_iload_n (pc := 53) dM_sheet_53 rfl (q := 1) rfl ?_
    refine x_imul (pc := 54) dM_sheet_54 ?_
    refine x_iload (pc := 55) dM_sheet_55 (q := 2) rfl ?_
    refine x_iadd (pc := 57) dM_sheet_57 ?_
    refine x_iconst (pc := 58) dM_sheet_58 (v := 0) rfl ?_
    have h := g1_1 q1
    obtain ⟨s501, h⟩ := h
    refine x_astIj (pc := 59) (j := ((40 * v1) + v4).toNatClampNeg) (v := 0) (Or.inl ⟨rfl, rfl, rfl⟩) dM_sheet_59 (wfk hw e1 kv0) ak_29 rfl s501 ?_
    refine x_iinc (pc := 60) dM_sheet_60 (q := 2) rfl (v := v4 + 1) rfl (by decide) (L' := [(4, .int (v4 + 1)), (0, .ref v0), (1, .int v1)]) rfl ?_
    refine x_goto (pc := 63) dM_sheet_63 (t := 40) rfl ?_
    exact x_loc [1, 2, 0] rfl h

theorem dM_isSheet_0 : decode (mB mM_isSheet) 0 = .ok (.iload_n 0, 1) := op26 (by decide +kernel)
theorem dM_isSheet_1 : decode (mB mM_isSheet) 1 = .ok (.i2l, 1) := op133 (by decide +kernel)
theorem dM_isSheet_2 : decode (mB mM_isSheet) 2 = .ok (.lconst 0, 1) := op9 (by decide +kernel)
theorem dM_isSheet_3 : decode (mB mM_isSheet) 3 = .ok (.ldc2_w 204, 3) := op20 0 204 (by decide +kernel)
theorem dM_isSheet_6 : decode (mB mM_isSheet) 6 = .ok (.invokestatic 126, 3) := op184 0 126 (by decide +kernel)
theorem dM_isSheet_9 : decode (mB mM_isSheet) 9 = .ok (.ifCond .eq 19, 3) := op153 0 19 (by decide +kernel)
theorem dM_isSheet_12 : decode (mB mM_isSheet) 12 = .ok (.iload_n 1, 1) := op27 (by decide +kernel)
theorem dM_isSheet_13 : decode (mB mM_isSheet) 13 = .ok (.i2l, 1) := op133 (by decide +kernel)
theorem dM_isSheet_14 : decode (mB mM_isSheet) 14 = .ok (.lconst 0, 1) := op9 (by decide +kernel)
theorem dM_isSheet_15 : decode (mB mM_isSheet) 15 = .ok (.ldc2_w 281, 3) := op20 1 25 (by decide +kernel)
theorem dM_isSheet_18 : decode (mB mM_isSheet) 18 = .ok (.invokestatic 126, 3) := op184 0 126 (by decide +kernel)
theorem dM_isSheet_21 : decode (mB mM_isSheet) 21 = .ok (.ifCond .eq 7, 3) := op153 0 7 (by decide +kernel)
theorem dM_isSheet_24 : decode (mB mM_isSheet) 24 = .ok (.iconst 1, 1) := op4 (by decide +kernel)
theorem dM_isSheet_25 : decode (mB mM_isSheet) 25 = .ok (.goto 4, 3) := op167 0 4 (by decide +kernel)
theorem dM_isSheet_28 : decode (mB mM_isSheet) 28 = .ok (.iconst 0, 1) := op3 (by decide +kernel)
theorem dM_isSheet_29 : decode (mB mM_isSheet) 29 = .ok (.ireturn, 1) := op172 (by decide +kernel)

theorem vM_isSheet_0 {M : Mm} {b : Nat × Nat} {K : Int32 → Mm → Prop} {v0 : Int32} {v1 : Int32}  
    (h : CI mM_in [.long ((v0).toInt64), .long 0, .long 3] M (fun rv N => X mM_isSheet 9 [(1, .int v1)] [.int rv] N b (QI K))) : X mM_isSheet 0 [(0, .int v0), (1, .int v1)] [] M b (QI K) := by
  refine x_wf (fun hw => ?_)
  refine x_iload_n (pc := 0) dM_isSheet_0 rfl (q := 0) rfl ?_
  refine x_i2l (pc := 1) dM_isSheet_1 ?_
  refine x_lconst (pc := 2) dM_isSheet_2 (v := 0) rfl ?_
  refine x_ldc2 (pc := 3) dM_isSheet_3 klM_204 ?_
  exact x_invS (pc := 6) dM_isSheet_6 (S := []) (As := [.long ((v0).toInt64), .long 0, .long 3]) mlM_126 hM_in rfl ⟨by decide, by decide⟩ ⟨Nat.zero_le _, Nat.zero_le _⟩ rfl (Nat.le_of_ble_eq_true rfl) (aftI (b' := b) ⟨Nat.le_refl _, Nat.le_refl _⟩ (fun rv N h => x_loc [1] rfl h) h)

theorem vM_isSheet_9 {M : Mm} {b : Nat × Nat} {K : Int32 → Mm → Prop} {v1 : Int32} {w0 : Int32}  
    (h : (w0 = 0 → (K 0 M)) ∧ (¬ w0 = 0 → (CI mM_in [.long ((v1).toInt64), .long 0, .long 2] M (fun rv N => X mM_isSheet 21 [] [.int rv] N b (QI K))))) : X mM_isSheet 9 [(1, .int v1)] [.int w0] M b (QI K) := by
  refine x_wf (fun hw => ?_)
  obtain ⟨g1_0, g1_1⟩ := h
  refine x_if_eq (pc := 9) dM_isSheet_9 (t := 28) rfl (fun q1 => ?_) (fun q1 => ?_)
  · have h := g1_0 q1
    refine x_iconst (pc := 28) dM_isSheet_28 (v := 0) rfl ?_
    exact x_retQI (pc := 29) dM_isSheet_29 rfl (by (repeat' split) <;> rfl) h
  · refine x_iload_n (pc := 12) dM_isSheet_12 rfl (q := 0) rfl ?_
    refine x_i2l (pc := 13) dM_isSheet_13 ?_
    refine x_lconst (pc := 14) dM_isSheet_14 (v := 0) rfl ?_
    refine x_ldc2 (pc := 15) dM_isSheet_15 klM_281 ?_
    have h := g1_1 q1
    exact x_invS (pc := 18) dM_isSheet_18 (S := []) (As := [.long ((v1).toInt64), .long 0, .long 2]) mlM_126 hM_in rfl ⟨by decide, by decide⟩ ⟨Nat.zero_le _, Nat.zero_le _⟩ rfl (Nat.le_of_ble_eq_true rfl) (aftI (b' := b) ⟨Nat.le_refl _, Nat.le_refl _⟩ (fun rv N h => x_loc [] rfl h) h)

theorem vM_isSheet_21 {M : Mm} {b : Nat × Nat} {K : Int32 → Mm → Prop} {w0 : Int32}  
    (h : (w0 = 0 → (K 0 M)) ∧ (¬ w0 = 0 → (K 1 M))) : X mM_isSheet 21 [] [.int w0] M b (QI K) := by
  refine x_wf (fun hw => ?_)
  obtain ⟨g1_0, g1_1⟩ := h
  refine x_if_eq (pc := 21) dM_isSheet_21 (t := 28) rfl (fun q1 => ?_) (fun q1 => ?_)
  · have h := g1_0 q1
    refine x_iconst (pc := 28) dM_isSheet_28 (v := 0) rfl ?_
    exact x_retQI (pc := 29) dM_isSheet_29 rfl (by (repeat' split) <;> rfl) h
  · refine x_iconst (pc := 24) dM_isSheet_24 (v := 1) rfl ?_
    refine x_goto (pc := 25) dM_isSheet_25 (t := 29) rfl ?_
    have h := g1_1 q1
    exact x_retQI (pc := 29) dM_isSheet_29 rfl (by (repeat' split) <;> rfl) h

theorem dM_lay_0 : decode (mB mM_lay) 0 = .ok (.iload_n 1, 1) := op27 (by decide +kernel)
theorem dM_lay_1 : decode (mB mM_lay) 1 = .ok (.iconst 0, 1) := op3 (by decide +kernel)
theorem dM_lay_2 : decode (mB mM_lay) 2 = .ok (.invokestatic 357, 3) := op184 1 101 (by decide +kernel)
theorem dM_lay_5 : decode (mB mM_lay) 5 = .ok (.ifCond .ne 5, 3) := op154 0 5 (by decide +kernel)
theorem dM_lay_8 : decode (mB mM_lay) 8 = .ok (.iconst (-1), 1) := op2 (by decide +kernel)
theorem dM_lay_9 : decode (mB mM_lay) 9 = .ok (.ireturn, 1) := op172 (by decide +kernel)
theorem dM_lay_10 : decode (mB mM_lay) 10 = .ok (.aload_n 0, 1) := op42 (by decide +kernel)
theorem dM_lay_11 : decode (mB mM_lay) 11 = .ok (.getfield 88, 3) := op180 0 88 (by decide +kernel)
theorem dM_lay_14 : decode (mB mM_lay) 14 = .ok (.iload_n 1, 1) := op27 (by decide +kernel)
theorem dM_lay_15 : decode (mB mM_lay) 15 = .ok (.iaload, 1) := op46 (by decide +kernel)
theorem dM_lay_16 : decode (mB mM_lay) 16 = .ok (.bipush (-4), 2) := op16 252 (by decide +kernel)
theorem dM_lay_18 : decode (mB mM_lay) 18 = .ok (.if_icmp .ne 6, 3) := op160 0 6 (by decide +kernel)
theorem dM_lay_21 : decode (mB mM_lay) 21 = .ok (.bipush (-11), 2) := op16 245 (by decide +kernel)
theorem dM_lay_23 : decode (mB mM_lay) 23 = .ok (.ireturn, 1) := op172 (by decide +kernel)
theorem dM_lay_24 : decode (mB mM_lay) 24 = .ok (.iload_n 2, 1) := op28 (by decide +kernel)
theorem dM_lay_25 : decode (mB mM_lay) 25 = .ok (.i2l, 1) := op133 (by decide +kernel)
theorem dM_lay_26 : decode (mB mM_lay) 26 = .ok (.lconst 0, 1) := op9 (by decide +kernel)
theorem dM_lay_27 : decode (mB mM_lay) 27 = .ok (.aload_n 0, 1) := op42 (by decide +kernel)
theorem dM_lay_28 : decode (mB mM_lay) 28 = .ok (.getfield 91, 3) := op180 0 91 (by decide +kernel)
theorem dM_lay_31 : decode (mB mM_lay) 31 = .ok (.iload_n 1, 1) := op27 (by decide +kernel)
theorem dM_lay_32 : decode (mB mM_lay) 32 = .ok (.iaload, 1) := op46 (by decide +kernel)
theorem dM_lay_33 : decode (mB mM_lay) 33 = .ok (.iconst 1, 1) := op4 (by decide +kernel)
theorem dM_lay_34 : decode (mB mM_lay) 34 = .ok (.isub, 1) := op100 (by decide +kernel)
theorem dM_lay_35 : decode (mB mM_lay) 35 = .ok (.i2l, 1) := op133 (by decide +kernel)
theorem dM_lay_36 : decode (mB mM_lay) 36 = .ok (.invokestatic 126, 3) := op184 0 126 (by decide +kernel)
theorem dM_lay_39 : decode (mB mM_lay) 39 = .ok (.ifCond .ne 6, 3) := op154 0 6 (by decide +kernel)
theorem dM_lay_42 : decode (mB mM_lay) 42 = .ok (.bipush (-12), 2) := op16 244 (by decide +kernel)
theorem dM_lay_44 : decode (mB mM_lay) 44 = .ok (.ireturn, 1) := op172 (by decide +kernel)
theorem dM_lay_45 : decode (mB mM_lay) 45 = .ok (.aload_n 0, 1) := op42 (by decide +kernel)
theorem dM_lay_46 : decode (mB mM_lay) 46 = .ok (.getfield 94, 3) := op180 0 94 (by decide +kernel)
theorem dM_lay_49 : decode (mB mM_lay) 49 = .ok (.bipush 40, 2) := op16 40 (by decide +kernel)
theorem dM_lay_51 : decode (mB mM_lay) 51 = .ok (.iload_n 1, 1) := op27 (by decide +kernel)
theorem dM_lay_52 : decode (mB mM_lay) 52 = .ok (.imul, 1) := op104 (by decide +kernel)
theorem dM_lay_53 : decode (mB mM_lay) 53 = .ok (.iload_n 2, 1) := op28 (by decide +kernel)
theorem dM_lay_54 : decode (mB mM_lay) 54 = .ok (.iadd, 1) := op96 (by decide +kernel)
theorem dM_lay_55 : decode (mB mM_lay) 55 = .ok (.aload_n 0, 1) := op42 (by decide +kernel)
theorem dM_lay_56 : decode (mB mM_lay) 56 = .ok (.getfield 88, 3) := op180 0 88 (by decide +kernel)
theorem dM_lay_59 : decode (mB mM_lay) 59 = .ok (.iload_n 1, 1) := op27 (by decide +kernel)
theorem dM_lay_60 : decode (mB mM_lay) 60 = .ok (.iaload, 1) := op46 (by decide +kernel)
theorem dM_lay_61 : decode (mB mM_lay) 61 = .ok (.ifCond .ne 8, 3) := op154 0 8 (by decide +kernel)
theorem dM_lay_64 : decode (mB mM_lay) 64 = .ok (.iload_n 3, 1) := op29 (by decide +kernel)
theorem dM_lay_65 : decode (mB mM_lay) 65 = .ok (.i2b, 1) := op145 (by decide +kernel)
theorem dM_lay_66 : decode (mB mM_lay) 66 = .ok (.goto 19, 3) := op167 0 19 (by decide +kernel)
theorem dM_lay_69 : decode (mB mM_lay) 69 = .ok (.aload_n 0, 1) := op42 (by decide +kernel)
theorem dM_lay_70 : decode (mB mM_lay) 70 = .ok (.getfield 88, 3) := op180 0 88 (by decide +kernel)
theorem dM_lay_73 : decode (mB mM_lay) 73 = .ok (.iload_n 1, 1) := op27 (by decide +kernel)
theorem dM_lay_74 : decode (mB mM_lay) 74 = .ok (.iaload, 1) := op46 (by decide +kernel)
theorem dM_lay_75 : decode (mB mM_lay) 75 = .ok (.iconst 1, 1) := op4 (by decide +kernel)
theorem dM_lay_76 : decode (mB mM_lay) 76 = .ok (.if_icmp .ne 8, 3) := op160 0 8 (by decide +kernel)
theorem dM_lay_79 : decode (mB mM_lay) 79 = .ok (.iload_n 3, 1) := op29 (by decide +kernel)
theorem dM_lay_80 : decode (mB mM_lay) 80 = .ok (.i2s, 1) := op147 (by decide +kernel)
theorem dM_lay_81 : decode (mB mM_lay) 81 = .ok (.goto 4, 3) := op167 0 4 (by decide +kernel)
theorem dM_lay_84 : decode (mB mM_lay) 84 = .ok (.iload_n 3, 1) := op29 (by decide +kernel)
theorem dM_lay_85 : decode (mB mM_lay) 85 = .ok (.iastore, 1) := op79 (by decide +kernel)
theorem dM_lay_86 : decode (mB mM_lay) 86 = .ok (.iconst 1, 1) := op4 (by decide +kernel)
theorem dM_lay_87 : decode (mB mM_lay) 87 = .ok (.ireturn, 1) := op172 (by decide +kernel)

theorem vM_lay_0 {M : Mm} {b : Nat × Nat} {K : Int32 → Mm → Prop} {v0 : Nat} {v1 : Int32} {v2 : Int32} {v3 : Int32}  
    (h : CI mM_isSheet [.int v1, .int 0] M (fun rv N => X mM_lay 5 [(0, .ref v0), (1, .int v1), (2, .int v2), (3, .int v3)] [.int rv] N b (QI K))) : X mM_lay 0 [(0, .ref v0), (1, .int v1), (2, .int v2), (3, .int v3)] [] M b (QI K) := by
  refine x_wf (fun hw => ?_)
  refine x_iload_n (pc := 0) dM_lay_0 rfl (q := 1) rfl ?_
  refine x_iconst (pc := 1) dM_lay_1 (v := 0) rfl ?_
  exact x_invS (pc := 2) dM_lay_2 (S := []) (As := [.int v1, .int 0]) mlM_357 hM_isSheet rfl ⟨by decide, by decide⟩ ⟨Nat.zero_le _, Nat.zero_le _⟩ rfl (Nat.le_of_ble_eq_true rfl) (aftI (b' := b) ⟨Nat.le_refl _, Nat.le_refl _⟩ (fun rv N h => h) h)

theorem vM_lay_5 {M : Mm} {b : Nat × Nat} {K : Int32 → Mm → Prop} {v0 : Nat} {v1 : Int32} {v2 : Int32} {v3 : Int32} {w0 : Int32} {r1 : Nat} {r2 : Nat} (kv0 : v0 % 64 = 11) (e1 : gr M v0 40 = some r1) (e2 : gr M v0 41 = some r2)
    (h : (¬ w0 = 0 → vp_in v1 4) ∧ (¬ w0 = 0 ∧ ¬ (gi M r1 (v1).toNatClampNeg) = (-4) → vp_in v1 4) ∧ ((¬ w0 = 0 ∧ ¬ (gi M r1 (v1).toNatClampNeg) = (-4)) → (CI mM_in [.long ((v2).toInt64), .long 0, .long (((gi M r2 (v1).toNatClampNeg) - 1).toInt64)] M (fun rv N => X mM_lay 39 [(0, .ref v0), (1, .int v1), (2, .int v2), (3, .int v3)] [.int rv] N b (QI K)))) ∧ ((¬ w0 = 0 ∧ (gi M r1 (v1).toNatClampNeg) = (-4)) → (K (-11) M)) ∧ (w0 = 0 → (K (-1) M))) : X mM_lay 5 [(0, .ref v0), (1, .int v1), (2, .int v2), (3, .int v3)] [.int w0] M b (QI K) := by
  refine x_wf (fun hw => ?_)
  obtain ⟨s1, s2, g1_0, g1_1, g1_2⟩ := h
  refine x_if_ne (pc := 5) dM_lay_5 (t := 10) rfl (fun q1 => ?_) (fun q1 => ?_)
  · refine x_aload_n (pc := 10) dM_lay_10 rfl (q := 0) rfl ?_
    refine x_getR (pc := 11) dM_lay_11 kv0 flM_88 rfl e1 ?_
    refine x_iload_n (pc := 14) dM_lay_14 rfl (q := 1) rfl ?_
    refine x_aldIj (pc := 15) (j := (v1).toNatClampNeg) (Or.inl ⟨rfl, rfl⟩) dM_lay_15 (wfk hw e1 kv0) ak_28 rfl (s1 q1) ?_
    refine x_bipush (pc := 16) dM_lay_16 (v := (-4)) rfl ?_
    refine x_icmp_ne (pc := 18) dM_lay_18 (t := 24) rfl (fun q2 => ?_) (fun q2 => ?_)
    · refine x_iload_n (pc := 24) dM_lay_24 rfl (q := 2) rfl ?_
      refine x_i2l (pc := 25) dM_lay_25 ?_
      refine x_lconst (pc := 26) dM_lay_26 (v := 0) rfl ?_
      refine x_aload_n (pc := 27) dM_lay_27 rfl (q := 0) rfl ?_
      refine x_getR (pc := 28) dM_lay_28 kv0 flM_91 rfl e2 ?_
      refine x_iload_n (pc := 31) dM_lay_31 rfl (q := 1) rfl ?_
      refine x_aldIj (pc := 32) (j := (v1).toNatClampNeg) (Or.inl ⟨rfl, rfl⟩) dM_lay_32 (wfk hw e2 kv0) ak_28 rfl (s2 ⟨q1, q2⟩) ?_
      refine x_iconst (pc := 33) dM_lay_33 (v := 1) rfl ?_
      refine x_isub (pc := 34) dM_lay_34 ?_
      refine x_i2l (pc := 35) dM_lay_35 ?_
      have h := g1_0 ⟨q1, q2⟩
      exact x_invS (pc := 36) dM_lay_36 (S := []) (As := [.long ((v2).toInt64), .long 0, .long (((gi M r2 (v1).toNatClampNeg) - 1).toInt64)]) mlM_126 hM_in rfl ⟨by decide, by decide⟩ ⟨Nat.zero_le _, Nat.zero_le _⟩ rfl (Nat.le_of_ble_eq_true rfl) (aftI (b' := b) ⟨Nat.le_refl _, Nat.le_refl _⟩ (fun rv N h => h) h)
    · refine x_bipush (pc := 21) dM_lay_21 (v := (-11)) rfl ?_
      have h := g1_1 ⟨q1, q2⟩
      exact x_retQI (pc := 23) dM_lay_23 rfl rfl h
  · refine x_iconst (pc := 8) dM_lay_8 (v := (-1)) rfl ?_
    have h := g1_2 q1
    exact x_retQI (pc := 9) dM_lay_9 rfl rfl h

theorem vM_lay_39 {M : Mm} {b : Nat × Nat} {K : Int32 → Mm → Prop} {v0 : Nat} {v1 : Int32} {v2 : Int32} {v3 : Int32} {w0 : Int32} {r1 : Nat} {r2 : Nat} (kv0 : v0 % 64 = 11) (e1 : gr M v0 42 = some r1) (e2 : gr M v0 40 = some r2)
    (h : (¬ w0 = 0 → vp_in v1 4) ∧ (¬ w0 = 0 ∧ ¬ (gi M r2 (v1).toNatClampNeg) = 0 → vp_in v1 4) ∧ ((¬ w0 = 0 ∧ ¬ (gi M r2 (v1).toNatClampNeg) = 0 ∧ ¬ (gi M r2 (v1).toNatClampNeg) = 1) → (X mM_lay 85 [] [.int v3, .int ((40 * v1) + v2), .ref r1] M b (QI K))) ∧ ((¬ w0 = 0 ∧ ¬ (gi M r2 (v1).toNatClampNeg) = 0 ∧ (gi M r2 (v1).toNatClampNeg) = 1) → (X mM_lay 85 [] [.int ((v3).toInt16.toInt32), .int ((40 * v1) + v2), .ref r1] M b (QI K))) ∧ ((¬ w0 = 0 ∧ (gi M r2 (v1).toNatClampNeg) = 0) → (X mM_lay 85 [] [.int ((v3).toInt8.toInt32), .int ((40 * v1) + v2), .ref r1] M b (QI K))) ∧ (w0 = 0 → (K (-12) M))) : X mM_lay 39 [(0, .ref v0), (1, .int v1), (2, .int v2), (3, .int v3)] [.int w0] M b (QI K) := by
  refine x_wf (fun hw => ?_)
  obtain ⟨s1, s2, g1_0, g1_1, g1_2, g1_3⟩ := h
  refine x_if_ne (pc := 39) dM_lay_39 (t := 45) rfl (fun q1 => ?_) (fun q1 => ?_)
  · refine x_aload_n (pc := 45) dM_lay_45 rfl (q := 0) rfl ?_
    refine x_getR (pc := 46) dM_lay_46 kv0 flM_94 rfl e1 ?_
    refine x_bipush (pc := 49) dM_lay_49 (v := 40) rfl ?_
    refine x_iload_n (pc := 51) dM_lay_51 rfl (q := 1) rfl ?_
    refine x_imul (pc := 52) dM_lay_52 ?_
    refine x_iload_n (pc := 53) dM_lay_53 rfl (q := 2) rfl ?_
    refine x_iadd (pc := 54) dM_lay_54 ?_
    refine x_aload_n (pc := 55) dM_lay_55 rfl (q := 0) rfl ?_
    refine x_getR (pc := 56) dM_lay_56 kv0 flM_88 rfl e2 ?_
    refine x_iload_n (pc := 59) dM_lay_59 rfl (q := 1) rfl ?_
    refine x_aldIj (pc := 60) (j := (v1).toNatClampNeg) (Or.inl ⟨rfl, rfl⟩) dM_lay_60 (wfk hw e2 kv0) ak_28 rfl (s1 q1) ?_
    refine x_if_ne (pc := 61) dM_lay_61 (t := 69) rfl (fun q2 => ?_) (fun q2 => ?_)
    · refine x_aload_n (pc := 69) dM_lay_69 rfl (q := 0) rfl ?_
      refine x_getR (pc := 70) dM_lay_70 kv0 flM_88 rfl e2 ?_
      refine x_iload_n (pc := 73) dM_lay_73 rfl (q := 1) rfl ?_
      refine x_aldIj (pc := 74) (j := (v1).toNatClampNeg) (Or.inl ⟨rfl, rfl⟩) dM_lay_74 (wfk hw e2 kv0) ak_28 rfl (s2 ⟨q1, q2⟩) ?_
      refine x_iconst (pc := 75) dM_lay_75 (v := 1) rfl ?_
      refine x_icmp_ne (pc := 76) dM_lay_76 (t := 84) rfl (fun q3 => ?_) (fun q3 => ?_)
      · refine x_iload_n (pc := 84) dM_lay_84 rfl (q := 3) rfl ?_
        have h := g1_0 ⟨q1, q2, q3⟩
        exact x_loc [] rfl h
      · refine x_iload_n (pc := 79) dM_lay_79 rfl (q := 3) rfl ?_
        refine x_i2s (pc := 80) dM_lay_80 ?_
        refine x_goto (pc := 81) dM_lay_81 (t := 85) rfl ?_
        have h := g1_1 ⟨q1, q2, q3⟩
        exact x_loc [] rfl h
    · refine x_iload_n (pc := 64) dM_lay_64 rfl (q := 3) rfl ?_
      refine x_i2b (pc := 65) dM_lay_65 ?_
      refine x_goto (pc := 66) dM_lay_66 (t := 85) rfl ?_
      have h := g1_2 ⟨q1, q2⟩
      exact x_loc [] rfl h
  · refine x_bipush (pc := 42) dM_lay_42 (v := (-12)) rfl ?_
    have h := g1_3 q1
    exact x_retQI (pc := 44) dM_lay_44 rfl rfl h

theorem vM_lay_85 {M : Mm} {b : Nat × Nat} {K : Int32 → Mm → Prop} {w0 : Int32} {w1 : Int32} {w2 : Nat} (kw2 : w2 % 64 = 29) 
    (h : vp_in w1 160 ∧ (K 1 (si M w2 (w1).toNatClampNeg w0))) : X mM_lay 85 [] [.int w0, .int w1, .ref w2] M b (QI K) := by
  refine x_wf (fun hw => ?_)
  obtain ⟨s501, h⟩ := h
  refine x_astIj (pc := 85) (j := (w1).toNatClampNeg) (v := w0) (Or.inl ⟨rfl, rfl, rfl⟩) dM_lay_85 kw2 ak_29 rfl s501 ?_
  refine x_iconst (pc := 86) dM_lay_86 (v := 1) rfl ?_
  exact x_retQI (pc := 87) dM_lay_87 rfl rfl h

theorem dM_read_0 : decode (mB mM_read) 0 = .ok (.iload_n 1, 1) := op27 (by decide +kernel)
theorem dM_read_1 : decode (mB mM_read) 1 = .ok (.iload_n 2, 1) := op28 (by decide +kernel)
theorem dM_read_2 : decode (mB mM_read) 2 = .ok (.invokestatic 357, 3) := op184 1 101 (by decide +kernel)
theorem dM_read_5 : decode (mB mM_read) 5 = .ok (.ifCond .eq 29, 3) := op153 0 29 (by decide +kernel)
theorem dM_read_8 : decode (mB mM_read) 8 = .ok (.iload 4, 2) := op21 4 (by decide +kernel)
theorem dM_read_10 : decode (mB mM_read) 10 = .ok (.i2l, 1) := op133 (by decide +kernel)
theorem dM_read_11 : decode (mB mM_read) 11 = .ok (.lconst 0, 1) := op9 (by decide +kernel)
theorem dM_read_12 : decode (mB mM_read) 12 = .ok (.ldc2_w 361, 3) := op20 1 105 (by decide +kernel)
theorem dM_read_15 : decode (mB mM_read) 15 = .ok (.invokestatic 126, 3) := op184 0 126 (by decide +kernel)
theorem dM_read_18 : decode (mB mM_read) 18 = .ok (.ifCond .eq 16, 3) := op153 0 16 (by decide +kernel)
theorem dM_read_21 : decode (mB mM_read) 21 = .ok (.iload 5, 2) := op21 5 (by decide +kernel)
theorem dM_read_23 : decode (mB mM_read) 23 = .ok (.i2l, 1) := op133 (by decide +kernel)
theorem dM_read_24 : decode (mB mM_read) 24 = .ok (.lconst 0, 1) := op9 (by decide +kernel)
theorem dM_read_25 : decode (mB mM_read) 25 = .ok (.ldc2_w 281, 3) := op20 1 25 (by decide +kernel)
theorem dM_read_28 : decode (mB mM_read) 28 = .ok (.invokestatic 126, 3) := op184 0 126 (by decide +kernel)
theorem dM_read_31 : decode (mB mM_read) 31 = .ok (.ifCond .ne 5, 3) := op154 0 5 (by decide +kernel)
theorem dM_read_34 : decode (mB mM_read) 34 = .ok (.iconst (-1), 1) := op2 (by decide +kernel)
theorem dM_read_35 : decode (mB mM_read) 35 = .ok (.ireturn, 1) := op172 (by decide +kernel)
theorem dM_read_36 : decode (mB mM_read) 36 = .ok (.aload_n 0, 1) := op42 (by decide +kernel)
theorem dM_read_37 : decode (mB mM_read) 37 = .ok (.getfield 88, 3) := op180 0 88 (by decide +kernel)
theorem dM_read_40 : decode (mB mM_read) 40 = .ok (.iload_n 1, 1) := op27 (by decide +kernel)
theorem dM_read_41 : decode (mB mM_read) 41 = .ok (.iaload, 1) := op46 (by decide +kernel)
theorem dM_read_42 : decode (mB mM_read) 42 = .ok (.iload_n 2, 1) := op28 (by decide +kernel)
theorem dM_read_43 : decode (mB mM_read) 43 = .ok (.if_icmp .eq 22, 3) := op159 0 22 (by decide +kernel)
theorem dM_read_46 : decode (mB mM_read) 46 = .ok (.aload_n 0, 1) := op42 (by decide +kernel)
theorem dM_read_47 : decode (mB mM_read) 47 = .ok (.getfield 88, 3) := op180 0 88 (by decide +kernel)
theorem dM_read_50 : decode (mB mM_read) 50 = .ok (.iload_n 1, 1) := op27 (by decide +kernel)
theorem dM_read_51 : decode (mB mM_read) 51 = .ok (.iaload, 1) := op46 (by decide +kernel)
theorem dM_read_52 : decode (mB mM_read) 52 = .ok (.bipush (-4), 2) := op16 252 (by decide +kernel)
theorem dM_read_54 : decode (mB mM_read) 54 = .ok (.if_icmp .ne 8, 3) := op160 0 8 (by decide +kernel)
theorem dM_read_57 : decode (mB mM_read) 57 = .ok (.bipush (-11), 2) := op16 245 (by decide +kernel)
theorem dM_read_59 : decode (mB mM_read) 59 = .ok (.goto 5, 3) := op167 0 5 (by decide +kernel)
theorem dM_read_62 : decode (mB mM_read) 62 = .ok (.bipush (-13), 2) := op16 243 (by decide +kernel)
theorem dM_read_64 : decode (mB mM_read) 64 = .ok (.ireturn, 1) := op172 (by decide +kernel)
theorem dM_read_65 : decode (mB mM_read) 65 = .ok (.aload_n 0, 1) := op42 (by decide +kernel)
theorem dM_read_66 : decode (mB mM_read) 66 = .ok (.invokevirtual 319, 3) := op182 1 63 (by decide +kernel)
theorem dM_read_69 : decode (mB mM_read) 69 = .ok (.iconst 0, 1) := op3 (by decide +kernel)
theorem dM_read_70 : decode (mB mM_read) 70 = .ok (.istore 6, 2) := op54 6 (by decide +kernel)
theorem dM_read_72 : decode (mB mM_read) 72 = .ok (.iconst 0, 1) := op3 (by decide +kernel)
theorem dM_read_73 : decode (mB mM_read) 73 = .ok (.istore 7, 2) := op54 7 (by decide +kernel)
theorem dM_read_75 : decode (mB mM_read) 75 = .ok (.iload 7, 2) := op21 7 (by decide +kernel)
theorem dM_read_77 : decode (mB mM_read) 77 = .ok (.iload 4, 2) := op21 4 (by decide +kernel)
theorem dM_read_79 : decode (mB mM_read) 79 = .ok (.if_icmp .ge 110, 3) := op162 0 110 (by decide +kernel)
theorem dM_read_82 : decode (mB mM_read) 82 = .ok (.iload_n 3, 1) := op29 (by decide +kernel)
theorem dM_read_83 : decode (mB mM_read) 83 = .ok (.i2l, 1) := op133 (by decide +kernel)
theorem dM_read_84 : decode (mB mM_read) 84 = .ok (.iload 7, 2) := op21 7 (by decide +kernel)
theorem dM_read_86 : decode (mB mM_read) 86 = .ok (.i2l, 1) := op133 (by decide +kernel)
theorem dM_read_87 : decode (mB mM_read) 87 = .ok (.ladd, 1) := op97 (by decide +kernel)
theorem dM_read_88 : decode (mB mM_read) 88 = .ok (.lstore 8, 2) := op55 8 (by decide +kernel)
theorem dM_read_90 : decode (mB mM_read) 90 = .ok (.lload 8, 2) := op22 8 (by decide +kernel)
theorem dM_read_92 : decode (mB mM_read) 92 = .ok (.lconst 0, 1) := op9 (by decide +kernel)
theorem dM_read_93 : decode (mB mM_read) 93 = .ok (.lcmp, 1) := op148 (by decide +kernel)
theorem dM_read_94 : decode (mB mM_read) 94 = .ok (.ifCond .lt 16, 3) := op155 0 16 (by decide +kernel)
theorem dM_read_97 : decode (mB mM_read) 97 = .ok (.lload 8, 2) := op22 8 (by decide +kernel)
theorem dM_read_99 : decode (mB mM_read) 99 = .ok (.aload_n 0, 1) := op42 (by decide +kernel)
theorem dM_read_100 : decode (mB mM_read) 100 = .ok (.getfield 91, 3) := op180 0 91 (by decide +kernel)
theorem dM_read_103 : decode (mB mM_read) 103 = .ok (.iload_n 1, 1) := op27 (by decide +kernel)
theorem dM_read_104 : decode (mB mM_read) 104 = .ok (.iaload, 1) := op46 (by decide +kernel)
theorem dM_read_105 : decode (mB mM_read) 105 = .ok (.i2l, 1) := op133 (by decide +kernel)
theorem dM_read_106 : decode (mB mM_read) 106 = .ok (.lcmp, 1) := op148 (by decide +kernel)
theorem dM_read_107 : decode (mB mM_read) 107 = .ok (.ifCond .lt 6, 3) := op155 0 6 (by decide +kernel)
theorem dM_read_110 : decode (mB mM_read) 110 = .ok (.bipush (-12), 2) := op16 244 (by decide +kernel)
theorem dM_read_112 : decode (mB mM_read) 112 = .ok (.ireturn, 1) := op172 (by decide +kernel)
theorem dM_read_113 : decode (mB mM_read) 113 = .ok (.aload_n 0, 1) := op42 (by decide +kernel)
theorem dM_read_114 : decode (mB mM_read) 114 = .ok (.getfield 94, 3) := op180 0 94 (by decide +kernel)
theorem dM_read_117 : decode (mB mM_read) 117 = .ok (.bipush 40, 2) := op16 40 (by decide +kernel)
theorem dM_read_119 : decode (mB mM_read) 119 = .ok (.iload_n 1, 1) := op27 (by decide +kernel)
theorem dM_read_120 : decode (mB mM_read) 120 = .ok (.imul, 1) := op104 (by decide +kernel)
theorem dM_read_121 : decode (mB mM_read) 121 = .ok (.lload 8, 2) := op22 8 (by decide +kernel)
theorem dM_read_123 : decode (mB mM_read) 123 = .ok (.l2i, 1) := op136 (by decide +kernel)
theorem dM_read_124 : decode (mB mM_read) 124 = .ok (.iadd, 1) := op96 (by decide +kernel)
theorem dM_read_125 : decode (mB mM_read) 125 = .ok (.iaload, 1) := op46 (by decide +kernel)
theorem dM_read_126 : decode (mB mM_read) 126 = .ok (.istore 10, 2) := op54 10 (by decide +kernel)
theorem dM_read_128 : decode (mB mM_read) 128 = .ok (.iload 10, 2) := op21 10 (by decide +kernel)
theorem dM_read_130 : decode (mB mM_read) 130 = .ok (.invokestatic 275, 3) := op184 1 19 (by decide +kernel)
theorem dM_read_133 : decode (mB mM_read) 133 = .ok (.ifCond .ne 9, 3) := op154 0 9 (by decide +kernel)
theorem dM_read_136 : decode (mB mM_read) 136 = .ok (.bipush (-20), 2) := op16 236 (by decide +kernel)
theorem dM_read_138 : decode (mB mM_read) 138 = .ok (.iload 7, 2) := op21 7 (by decide +kernel)
theorem dM_read_140 : decode (mB mM_read) 140 = .ok (.isub, 1) := op100 (by decide +kernel)
theorem dM_read_141 : decode (mB mM_read) 141 = .ok (.ireturn, 1) := op172 (by decide +kernel)
theorem dM_read_142 : decode (mB mM_read) 142 = .ok (.iload 6, 2) := op21 6 (by decide +kernel)
theorem dM_read_144 : decode (mB mM_read) 144 = .ok (.aload_n 0, 1) := op42 (by decide +kernel)
theorem dM_read_145 : decode (mB mM_read) 145 = .ok (.getfield 67, 3) := op180 0 67 (by decide +kernel)
theorem dM_read_148 : decode (mB mM_read) 148 = .ok (.iload 10, 2) := op21 10 (by decide +kernel)
theorem dM_read_150 : decode (mB mM_read) 150 = .ok (.iaload, 1) := op46 (by decide +kernel)
theorem dM_read_151 : decode (mB mM_read) 151 = .ok (.iload 5, 2) := op21 5 (by decide +kernel)
theorem dM_read_153 : decode (mB mM_read) 153 = .ok (.ifCond .ne 7, 3) := op154 0 7 (by decide +kernel)
theorem dM_read_156 : decode (mB mM_read) 156 = .ok (.iconst 1, 1) := op4 (by decide +kernel)
theorem dM_read_157 : decode (mB mM_read) 157 = .ok (.goto 15, 3) := op167 0 15 (by decide +kernel)
theorem dM_read_160 : decode (mB mM_read) 160 = .ok (.iload 5, 2) := op21 5 (by decide +kernel)
theorem dM_read_162 : decode (mB mM_read) 162 = .ok (.iconst 1, 1) := op4 (by decide +kernel)
theorem dM_read_163 : decode (mB mM_read) 163 = .ok (.if_icmp .ne 7, 3) := op160 0 7 (by decide +kernel)
theorem dM_read_166 : decode (mB mM_read) 166 = .ok (.iconst 0, 1) := op3 (by decide +kernel)
theorem dM_read_167 : decode (mB mM_read) 167 = .ok (.goto 5, 3) := op167 0 5 (by decide +kernel)
theorem dM_read_170 : decode (mB mM_read) 170 = .ok (.bipush (-4), 2) := op16 252 (by decide +kernel)
theorem dM_read_172 : decode (mB mM_read) 172 = .ok (.if_icmp .ne 7, 3) := op160 0 7 (by decide +kernel)
theorem dM_read_175 : decode (mB mM_read) 175 = .ok (.iconst 1, 1) := op4 (by decide +kernel)
theorem dM_read_176 : decode (mB mM_read) 176 = .ok (.goto 4, 3) := op167 0 4 (by decide +kernel)
theorem dM_read_179 : decode (mB mM_read) 179 = .ok (.iconst 0, 1) := op3 (by decide +kernel)
theorem dM_read_180 : decode (mB mM_read) 180 = .ok (.iadd, 1) := op96 (by decide +kernel)
theorem dM_read_181 : decode (mB mM_read) 181 = .ok (.istore 6, 2) := op54 6 (by decide +kernel)
theorem dM_read_183 : decode (mB mM_read) 183 = .ok (.iinc 7 1, 3) := op132 7 1 (by decide +kernel)
theorem dM_read_186 : decode (mB mM_read) 186 = .ok (.goto (-111), 3) := op167 255 145 (by decide +kernel)
theorem dM_read_189 : decode (mB mM_read) 189 = .ok (.iload 6, 2) := op21 6 (by decide +kernel)
theorem dM_read_191 : decode (mB mM_read) 191 = .ok (.ireturn, 1) := op172 (by decide +kernel)

theorem vM_read_0 {M : Mm} {b : Nat × Nat} {K : Int32 → Mm → Prop} {v0 : Nat} {v1 : Int32} {v2 : Int32} {v3 : Int32} {v4 : Int32} {v5 : Int32}  
    (h : CI mM_isSheet [.int v1, .int v2] M (fun rv N => X mM_read 5 [(0, .ref v0), (1, .int v1), (2, .int v2), (3, .int v3), (4, .int v4), (5, .int v5)] [.int rv] N b (QI K))) : X mM_read 0 [(0, .ref v0), (1, .int v1), (2, .int v2), (3, .int v3), (4, .int v4), (5, .int v5)] [] M b (QI K) := by
  refine x_wf (fun hw => ?_)
  refine x_iload_n (pc := 0) dM_read_0 rfl (q := 1) rfl ?_
  refine x_iload_n (pc := 1) dM_read_1 rfl (q := 2) rfl ?_
  exact x_invS (pc := 2) dM_read_2 (S := []) (As := [.int v1, .int v2]) mlM_357 hM_isSheet rfl ⟨by decide, by decide⟩ ⟨Nat.zero_le _, Nat.zero_le _⟩ rfl (Nat.le_of_ble_eq_true rfl) (aftI (b' := b) ⟨Nat.le_refl _, Nat.le_refl _⟩ (fun rv N h => h) h)

theorem vM_read_5 {M : Mm} {b : Nat × Nat} {K : Int32 → Mm → Prop} {v0 : Nat} {v1 : Int32} {v2 : Int32} {v3 : Int32} {v4 : Int32} {v5 : Int32} {w0 : Int32}  
    (h : (w0 = 0 → (K (-1) M)) ∧ (¬ w0 = 0 → (CI mM_in [.long ((v4).toInt64), .long 0, .long 40] M (fun rv N => X mM_read 18 [(0, .ref v0), (1, .int v1), (2, .int v2), (3, .int v3), (4, .int v4), (5, .int v5)] [.int rv] N b (QI K))))) : X mM_read 5 [(0, .ref v0), (1, .int v1), (2, .int v2), (3, .int v3), (4, .int v4), (5, .int v5)] [.int w0] M b (QI K) := by
  refine x_wf (fun hw => ?_)
  obtain ⟨g1_0, g1_1⟩ := h
  refine x_if_eq (pc := 5) dM_read_5 (t := 34) rfl (fun q1 => ?_) (fun q1 => ?_)
  · have h := g1_0 q1
    refine x_iconst (pc := 34) dM_read_34 (v := (-1)) rfl ?_
    exact x_retQI (pc := 35) dM_read_35 rfl rfl h
  · refine x_iload (pc := 8) dM_read_8 (q := 4) rfl ?_
    refine x_i2l (pc := 10) dM_read_10 ?_
    refine x_lconst (pc := 11) dM_read_11 (v := 0) rfl ?_
    refine x_ldc2 (pc := 12) dM_read_12 klM_361 ?_
    have h := g1_1 q1
    exact x_invS (pc := 15) dM_read_15 (S := []) (As := [.long ((v4).toInt64), .long 0, .long 40]) mlM_126 hM_in rfl ⟨by decide, by decide⟩ ⟨Nat.zero_le _, Nat.zero_le _⟩ rfl (Nat.le_of_ble_eq_true rfl) (aftI (b' := b) ⟨Nat.le_refl _, Nat.le_refl _⟩ (fun rv N h => h) h)

theorem vM_read_18 {M : Mm} {b : Nat × Nat} {K : Int32 → Mm → Prop} {v0 : Nat} {v1 : Int32} {v2 : Int32} {v3 : Int32} {v4 : Int32} {v5 : Int32} {w0 : Int32}  
    (h : (w0 = 0 → (K (-1) M)) ∧ (¬ w0 = 0 → (CI mM_in [.long ((v5).toInt64), .long 0, .long 2] M (fun rv N => X mM_read 31 [(0, .ref v0), (1, .int v1), (2, .int v2), (3, .int v3), (4, .int v4), (5, .int v5)] [.int rv] N b (QI K))))) : X mM_read 18 [(0, .ref v0), (1, .int v1), (2, .int v2), (3, .int v3), (4, .int v4), (5, .int v5)] [.int w0] M b (QI K) := by
  refine x_wf (fun hw => ?_)
  obtain ⟨g1_0, g1_1⟩ := h
  refine x_if_eq (pc := 18) dM_read_18 (t := 34) rfl (fun q1 => ?_) (fun q1 => ?_)
  · have h := g1_0 q1
    refine x_iconst (pc := 34) dM_read_34 (v := (-1)) rfl ?_
    exact x_retQI (pc := 35) dM_read_35 rfl rfl h
  · refine x_iload (pc := 21) dM_read_21 (q := 5) rfl ?_
    refine x_i2l (pc := 23) dM_read_23 ?_
    refine x_lconst (pc := 24) dM_read_24 (v := 0) rfl ?_
    refine x_ldc2 (pc := 25) dM_read_25 klM_281 ?_
    have h := g1_1 q1
    exact x_invS (pc := 28) dM_read_28 (S := []) (As := [.long ((v5).toInt64), .long 0, .long 2]) mlM_126 hM_in rfl ⟨by decide, by decide⟩ ⟨Nat.zero_le _, Nat.zero_le _⟩ rfl (Nat.le_of_ble_eq_true rfl) (aftI (b' := b) ⟨Nat.le_refl _, Nat.le_refl _⟩ (fun rv N h => h) h)

theorem vM_read_31 {M : Mm} {b : Nat × Nat} {K : Int32 → Mm → Prop} {v0 : Nat} {v1 : Int32} {v2 : Int32} {v3 : Int32} {v4 : Int32} {v5 : Int32} {w0 : Int32} {r1 : Nat} (kv0 : v0 % 64 = 11) (e1 : gr M v0 40 = some r1)
    (h : (¬ w0 = 0 → vp_in v1 4) ∧ (¬ w0 = 0 ∧ ¬ (gi M r1 (v1).toNatClampNeg) = v2 → vp_in v1 4) ∧ ((¬ w0 = 0 ∧ (gi M r1 (v1).toNatClampNeg) = v2) → (CV mM_findAll [.ref v0] M (fun N => X mM_read 69 [(0, .ref v0), (1, .int v1), (3, .int v3), (4, .int v4), (5, .int v5)] [] N b (QI K)))) ∧ ((¬ w0 = 0 ∧ ¬ (gi M r1 (v1).toNatClampNeg) = v2 ∧ ¬ (gi M r1 (v1).toNatClampNeg) = (-4)) → (K (-13) M)) ∧ ((¬ w0 = 0 ∧ ¬ (gi M r1 (v1).toNatClampNeg) = v2 ∧ (gi M r1 (v1).toNatClampNeg) = (-4)) → (K (-11) M)) ∧ (w0 = 0 → (K (-1) M))) : X mM_read 31 [(0, .ref v0), (1, .int v1), (2, .int v2), (3, .int v3), (4, .int v4), (5, .int v5)] [.int w0] M b (QI K) := by
  refine x_wf (fun hw => ?_)
  obtain ⟨s1, s2, g1_0, g1_1, g1_2, g1_3⟩ := h
  refine x_if_ne (pc := 31) dM_read_31 (t := 36) rfl (fun q1 => ?_) (fun q1 => ?_)
  · refine x_aload_n (pc := 36) dM_read_36 rfl (q := 0) rfl ?_
    refine x_getR (pc := 37) dM_read_37 kv0 flM_88 rfl e1 ?_
    refine x_iload_n (pc := 40) dM_read_40 rfl (q := 1) rfl ?_
    refine x_aldIj (pc := 41) (j := (v1).toNatClampNeg) (Or.inl ⟨rfl, rfl⟩) dM_read_41 (wfk hw e1 kv0) ak_28 rfl (s1 q1) ?_
    refine x_iload_n (pc := 42) dM_read_42 rfl (q := 2) rfl ?_
    refine x_icmp_eq (pc := 43) dM_read_43 (t := 65) rfl (fun q2 => ?_) (fun q2 => ?_)
    · refine x_aload_n (pc := 65) dM_read_65 rfl (q := 0) rfl ?_
      have h := g1_0 ⟨q1, q2⟩
      exact x_invV (pc := 66) dM_read_66 (c := 11) (S := []) (As := []) mlM_319 hM_findAll rfl (by decide) rfl kv0 ⟨by decide, by decide⟩ ⟨Nat.zero_le _, Nat.zero_le _⟩ rfl (Nat.le_of_ble_eq_true rfl) (aftV (b' := b) ⟨Nat.le_refl _, Nat.le_refl _⟩ (fun N h => x_loc [0, 1, 3, 4, 5] rfl h) h)
    · refine x_aload_n (pc := 46) dM_read_46 rfl (q := 0) rfl ?_
      refine x_getR (pc := 47) dM_read_47 kv0 flM_88 rfl e1 ?_
      refine x_iload_n (pc := 50) dM_read_50 rfl (q := 1) rfl ?_
      refine x_aldIj (pc := 51) (j := (v1).toNatClampNeg) (Or.inl ⟨rfl, rfl⟩) dM_read_51 (wfk hw e1 kv0) ak_28 rfl (s2 ⟨q1, q2⟩) ?_
      refine x_bipush (pc := 52) dM_read_52 (v := (-4)) rfl ?_
      refine x_icmp_ne (pc := 54) dM_read_54 (t := 62) rfl (fun q3 => ?_) (fun q3 => ?_)
      · refine x_bipush (pc := 62) dM_read_62 (v := (-13)) rfl ?_
        have h := g1_1 ⟨q1, q2, q3⟩
        exact x_retQI (pc := 64) dM_read_64 rfl rfl h
      · refine x_bipush (pc := 57) dM_read_57 (v := (-11)) rfl ?_
        refine x_goto (pc := 59) dM_read_59 (t := 64) rfl ?_
        have h := g1_2 ⟨q1, q2, q3⟩
        exact x_retQI (pc := 64) dM_read_64 rfl rfl h
  · have h := g1_3 q1
    refine x_iconst (pc := 34) dM_read_34 (v := (-1)) rfl ?_
    exact x_retQI (pc := 35) dM_read_35 rfl rfl h

theorem vM_read_69 {M : Mm} {b : Nat × Nat} {K : Int32 → Mm → Prop} {v0 : Nat} {v1 : Int32} {v3 : Int32} {v4 : Int32} {v5 : Int32}  
    (h : X mM_read 75 [(0, .ref v0), (1, .int v1), (3, .int v3), (4, .int v4), (5, .int v5), (6, .int 0), (7, .int 0)] [] M b (QI K)) : X mM_read 69 [(0, .ref v0), (1, .int v1), (3, .int v3), (4, .int v4), (5, .int v5)] [] M b (QI K) := by
  refine x_wf (fun hw => ?_)
  refine x_iconst (pc := 69) dM_read_69 (v := 0) rfl ?_
  refine x_istore (pc := 70) dM_read_70 (by decide) (L' := [(6, .int 0), (0, .ref v0), (1, .int v1), (3, .int v3), (4, .int v4), (5, .int v5)]) rfl ?_
  refine x_iconst (pc := 72) dM_read_72 (v := 0) rfl ?_
  refine x_istore (pc := 73) dM_read_73 (by decide) (L' := [(7, .int 0), (6, .int 0), (0, .ref v0), (1, .int v1), (3, .int v3), (4, .int v4), (5, .int v5)]) rfl ?_
  exact x_loc [2, 3, 4, 5, 6, 1, 0] rfl h

theorem vM_read_75 {M : Mm} {b : Nat × Nat} {K : Int32 → Mm → Prop} {v0 : Nat} {v1 : Int32} {v3 : Int32} {v4 : Int32} {v5 : Int32} {v6 : Int32} {v7 : Int32} {r1 : Nat} {r2 : Nat} (kv0 : v0 % 64 = 11) (e1 : gr M v0 41 = some r1) (e2 : gr M v0 42 = some r2)
    (h : (v4 ≤ v7 → (K v6 M)) ∧ (¬ v4 ≤ v7 → ((¬ (((v3).toInt64) + ((v7).toInt64)) < 0 → vp_in v1 4) ∧ (¬ (((v3).toInt64) + ((v7).toInt64)) < 0 ∧ (((v3).toInt64) + ((v7).toInt64)) < ((gi M r1 (v1).toNatClampNeg).toInt64) → vp_in ((40 * v1) + ((((v3).toInt64) + ((v7).toInt64)).toInt32)) 160) ∧ ((((((v3).toInt64) + ((v7).toInt64)) < 0) ∨ (¬ (((v3).toInt64) + ((v7).toInt64)) < 0 ∧ ¬ (((v3).toInt64) + ((v7).toInt64)) < ((gi M r1 (v1).toNatClampNeg).toInt64))) → (K (-12) M)) ∧ ((¬ (((v3).toInt64) + ((v7).toInt64)) < 0 ∧ (((v3).toInt64) + ((v7).toInt64)) < ((gi M r1 (v1).toNatClampNeg).toInt64)) → (CI mM_isCase [.int (gi M r2 ((40 * v1) + ((((v3).toInt64) + ((v7).toInt64)).toInt32)).toNatClampNeg)] M (fun rv N => X mM_read 133 [(0, .ref v0), (1, .int v1), (3, .int v3), (4, .int v4), (5, .int v5), (6, .int v6), (7, .int v7), (10, .int (gi M r2 ((40 * v1) + ((((v3).toInt64) + ((v7).toInt64)).toInt32)).toNatClampNeg))] [.int rv] N b (QI K))))))) : X mM_read 75 [(0, .ref v0), (1, .int v1), (3, .int v3), (4, .int v4), (5, .int v5), (6, .int v6), (7, .int v7)] [] M b (QI K) := by
  refine x_wf (fun hw => ?_)
  refine x_iload (pc := 75) dM_read_75 (q := 6) rfl ?_
  refine x_iload (pc := 77) dM_read_77 (q := 3) rfl ?_
  obtain ⟨g1_0, g1_1⟩ := h
  refine x_icmp_ge (pc := 79) dM_read_79 (t := 189) rfl (fun q1 => ?_) (fun q1 => ?_)
  · refine x_iload (pc := 189) dM_read_189 (q := 5) rfl ?_
    have h := g1_0 q1
    exact x_retQI (pc := 191) dM_read_191 rfl rfl h
  · refine x_iload_n (pc := 82) dM_read_82 rfl (q := 2) rfl ?_
    refine x_i2l (pc := 83) dM_read_83 ?_
    refine x_iload (pc := 84) dM_read_84 (q := 6) rfl ?_
    refine x_i2l (pc := 86) dM_read_86 ?_
    refine x_ladd (pc := 87) dM_read_87 ?_
    have h := g1_1 q1
    refine x_lstore (pc := 88) dM_read_88 (by decide) (L' := [(8, .long (((v3).toInt64) + ((v7).toInt64))), (0, .ref v0), (1, .int v1), (3, .int v3), (4, .int v4), (5, .int v5), (6, .int v6), (7, .int v7)]) rfl ?_
    refine x_lload (pc := 90) dM_read_90 (q := 0) rfl ?_
    refine x_lconst (pc := 92) dM_read_92 (v := 0) rfl ?_
    obtain ⟨s1, s2, g2_0, g2_1⟩ := h
    have g2_k0 : ((((v3).toInt64) + ((v7).toInt64)) < 0) ∨ (¬ (((v3).toInt64) + ((v7).toInt64)) < 0 ∧ ¬ (((v3).toInt64) + ((v7).toInt64)) < ((gi M r1 (v1).toNatClampNeg).toInt64)) → X mM_read 110 [(8, .long (((v3).toInt64) + ((v7).toInt64))), (0, .ref v0), (1, .int v1), (3, .int v3), (4, .int v4), (5, .int v5), (6, .int v6), (7, .int v7)] [] M b (QI K) := fun q => by
      have h := g2_0 q
      refine x_bipush (pc := 110) dM_read_110 (v := (-12)) rfl ?_
      exact x_retQI (pc := 112) dM_read_112 rfl rfl h
    refine x_lc_lt (pc := 93) dM_read_93 dM_read_94 (t := 110) rfl (fun q2 => ?_) (fun q2 => ?_)
    · exact g2_k0 (Or.inl q2)
    · refine x_lload (pc := 97) dM_read_97 (q := 0) rfl ?_
      refine x_aload_n (pc := 99) dM_read_99 rfl (q := 1) rfl ?_
      refine x_getR (pc := 100) dM_read_100 kv0 flM_91 rfl e1 ?_
      refine x_iload_n (pc := 103) dM_read_103 rfl (q := 2) rfl ?_
      refine x_aldIj (pc := 104) (j := (v1).toNatClampNeg) (Or.inl ⟨rfl, rfl⟩) dM_read_104 (wfk hw e1 kv0) ak_28 rfl (s1 q2) ?_
      refine x_i2l (pc := 105) dM_read_105 ?_
      refine x_lc_lt (pc := 106) dM_read_106 dM_read_107 (t := 113) rfl (fun q3 => ?_) (fun q3 => ?_)
      · refine x_aload_n (pc := 113) dM_read_113 rfl (q := 1) rfl ?_
        refine x_getR (pc := 114) dM_read_114 kv0 flM_94 rfl e2 ?_
        refine x_bipush (pc := 117) dM_read_117 (v := 40) rfl ?_
        refine x_iload_n (pc := 119) dM_read_119 rfl (q := 2) rfl ?_
        refine x_imul (pc := 120) dM_read_120 ?_
        refine x_lload (pc := 121) dM_read_121 (q := 0) rfl ?_
        refine x_l2i (pc := 123) dM_read_123 ?_
        refine x_iadd (pc := 124) dM_read_124 ?_
        refine x_aldIj (pc := 125) (j := ((40 * v1) + ((((v3).toInt64) + ((v7).toInt64)).toInt32)).toNatClampNeg) (Or.inl ⟨rfl, rfl⟩) dM_read_125 (wfk hw e2 kv0) ak_29 rfl (s2 ⟨q2, q3⟩) ?_
        have h := g2_1 ⟨q2, q3⟩
        refine x_istore (pc := 126) dM_read_126 (by decide) (L' := [(10, .int (gi M r2 ((40 * v1) + ((((v3).toInt64) + ((v7).toInt64)).toInt32)).toNatClampNeg)), (8, .long (((v3).toInt64) + ((v7).toInt64))), (0, .ref v0), (1, .int v1), (3, .int v3), (4, .int v4), (5, .int v5), (6, .int v6), (7, .int v7)]) rfl ?_
        refine x_iload (pc := 128) dM_read_128 (q := 0) rfl ?_
        exact x_invS (pc := 130) dM_read_130 (S := []) (As := [.int (gi M r2 ((40 * v1) + ((((v3).toInt64) + ((v7).toInt64)).toInt32)).toNatClampNeg)]) mlM_275 hM_isCase rfl ⟨by decide, by decide⟩ ⟨Nat.zero_le _, Nat.zero_le _⟩ rfl (Nat.le_of_ble_eq_true rfl) (aftI (b' := b) ⟨Nat.le_refl _, Nat.le_refl _⟩ (fun rv N h => x_loc [2, 3, 4, 5, 6, 7, 8, 0] rfl h) h)
      · exact g2_k0 (Or.inr ⟨q2, q3⟩)

theorem vM_read_133 {M : Mm} {b : Nat × Nat} {K : Int32 → Mm → Prop} {v0 : Nat} {v1 : Int32} {v3 : Int32} {v4 : Int32} {v5 : Int32} {v6 : Int32} {v7 : Int32} {v10 : Int32} {w0 : Int32} {r1 : Nat} (kv0 : v0 % 64 = 11) (e1 : gr M v0 30 = some r1)
    (h : (¬ w0 = 0 → vp_in v10 64) ∧ ((¬ w0 = 0 ∧ ¬ v5 = 0 ∧ ¬ v5 = 1) → (X mM_read 172 [(0, .ref v0), (1, .int v1), (3, .int v3), (4, .int v4), (5, .int v5), (7, .int v7)] [.int (-4), .int (gi M r1 (v10).toNatClampNeg), .int v6] M b (QI K))) ∧ ((¬ w0 = 0 ∧ ¬ v5 = 0 ∧ v5 = 1) → (X mM_read 172 [(0, .ref v0), (1, .int v1), (3, .int v3), (4, .int v4), (5, .int v5), (7, .int v7)] [.int 0, .int (gi M r1 (v10).toNatClampNeg), .int v6] M b (QI K))) ∧ ((¬ w0 = 0 ∧ v5 = 0) → (X mM_read 172 [(0, .ref v0), (1, .int v1), (3, .int v3), (4, .int v4), (5, .int v5), (7, .int v7)] [.int 1, .int (gi M r1 (v10).toNatClampNeg), .int v6] M b (QI K))) ∧ (w0 = 0 → (K ((-20) - v7) M))) : X mM_read 133 [(0, .ref v0), (1, .int v1), (3, .int v3), (4, .int v4), (5, .int v5), (6, .int v6), (7, .int v7), (10, .int v10)] [.int w0] M b (QI K) := by
  refine x_wf (fun hw => ?_)
  obtain ⟨s1, g1_0, g1_1, g1_2, g1_3⟩ := h
  refine x_if_ne (pc := 133) dM_read_133 (t := 142) rfl (fun q1 => ?_) (fun q1 => ?_)
  · refine x_iload (pc := 142) dM_read_142 (q := 5) rfl ?_
    refine x_aload_n (pc := 144) dM_read_144 rfl (q := 0) rfl ?_
    refine x_getR (pc := 145) dM_read_145 kv0 flM_67 rfl e1 ?_
    refine x_iload (pc := 148) dM_read_148 (q := 7) rfl ?_
    refine x_aldIj (pc := 150) (j := (v10).toNatClampNeg) (Or.inl ⟨rfl, rfl⟩) dM_read_150 (wfk hw e1 kv0) ak_14 rfl (s1 q1) ?_
    refine x_iload (pc := 151) dM_read_151 (q := 4) rfl ?_
    refine x_if_ne (pc := 153) dM_read_153 (t := 160) rfl (fun q2 => ?_) (fun q2 => ?_)
    · refine x_iload (pc := 160) dM_read_160 (q := 4) rfl ?_
      refine x_iconst (pc := 162) dM_read_162 (v := 1) rfl ?_
      refine x_icmp_ne (pc := 163) dM_read_163 (t := 170) rfl (fun q3 => ?_) (fun q3 => ?_)
      · refine x_bipush (pc := 170) dM_read_170 (v := (-4)) rfl ?_
        have h := g1_0 ⟨q1, q2, q3⟩
        exact x_loc [0, 1, 2, 3, 4, 6] rfl h
      · refine x_iconst (pc := 166) dM_read_166 (v := 0) rfl ?_
        refine x_goto (pc := 167) dM_read_167 (t := 172) rfl ?_
        have h := g1_1 ⟨q1, q2, q3⟩
        exact x_loc [0, 1, 2, 3, 4, 6] rfl h
    · refine x_iconst (pc := 156) dM_read_156 (v := 1) rfl ?_
      refine x_goto (pc := 157) dM_read_157 (t := 172) rfl ?_
      have h := g1_2 ⟨q1, q2⟩
      exact x_loc [0, 1, 2, 3, 4, 6] rfl h
  · refine x_bipush (pc := 136) dM_read_136 (v := (-20)) rfl ?_
    refine x_iload (pc := 138) dM_read_138 (q := 6) rfl ?_
    refine x_isub (pc := 140) dM_read_140 ?_
    have h := g1_3 q1
    exact x_retQI (pc := 141) dM_read_141 rfl rfl h

theorem vM_read_172 {M : Mm} {b : Nat × Nat} {K : Int32 → Mm → Prop} {v0 : Nat} {v1 : Int32} {v3 : Int32} {v4 : Int32} {v5 : Int32} {v7 : Int32} {w0 : Int32} {w1 : Int32} {w2 : Int32}  
    (h : X mM_read 75 [(0, .ref v0), (1, .int v1), (3, .int v3), (4, .int v4), (5, .int v5), (6, .int (w2 + (if w1 = w0 then 1 else 0 : Int32))), (7, .int (v7 + 1))] [] M b (QI K)) : X mM_read 172 [(0, .ref v0), (1, .int v1), (3, .int v3), (4, .int v4), (5, .int v5), (7, .int v7)] [.int w0, .int w1, .int w2] M b (QI K) := by
  refine x_wf (fun hw => ?_)
  suffices hJ : X mM_read 180 [(0, .ref v0), (1, .int v1), (3, .int v3), (4, .int v4), (5, .int v5), (7, .int v7)] [.int (if w1 = w0 then 1 else 0 : Int32), .int w2] M b (QI K) by
    refine x_icmp_ne (pc := 172) dM_read_172 (t := 179) rfl (fun q1 => ?_) (fun q1 => ?_)
    · refine x_iconst (pc := 179) dM_read_179 (v := 0) rfl ?_
      first | (rw [if_neg q1] at hJ; exact hJ) | (simp only [if_neg q1] at hJ ⊢; exact hJ)
    · refine x_iconst (pc := 175) dM_read_175 (v := 1) rfl ?_
      refine x_goto (pc := 176) dM_read_176 (t := 180) rfl ?_
      first | (rw [if_pos q1] at hJ; exact hJ) | (simp only [if_pos q1] at hJ ⊢; exact hJ)
  refine x_iadd (pc := 180) dM_read_180 ?_
  refine x_istore (pc := 181) dM_read_181 (by decide) (L' := [(6, .int (w2 + (if w1 = w0 then 1 else 0 : Int32))), (0, .ref v0), (1, .int v1), (3, .int v3), (4, .int v4), (5, .int v5), (7, .int v7)]) rfl ?_
  refine x_iinc (pc := 183) dM_read_183 (q := 6) rfl (v := v7 + 1) rfl (by decide) (L' := [(7, .int (v7 + 1)), (6, .int (w2 + (if w1 = w0 then 1 else 0 : Int32))), (0, .ref v0), (1, .int v1), (3, .int v3), (4, .int v4), (5, .int v5)]) rfl ?_
  refine x_goto (pc := 186) dM_read_186 (t := 75) rfl ?_
  exact x_loc [2, 3, 4, 5, 6, 1, 0] rfl h

theorem dM_count_0 : decode (mB mM_count) 0 = .ok (.iconst 0, 1) := op3 (by decide +kernel)
theorem dM_count_1 : decode (mB mM_count) 1 = .ok (.istore_n 2, 1) := op61 (by decide +kernel)
theorem dM_count_2 : decode (mB mM_count) 2 = .ok (.iconst 0, 1) := op3 (by decide +kernel)
theorem dM_count_3 : decode (mB mM_count) 3 = .ok (.istore_n 3, 1) := op62 (by decide +kernel)
theorem dM_count_4 : decode (mB mM_count) 4 = .ok (.iload_n 3, 1) := op29 (by decide +kernel)
theorem dM_count_5 : decode (mB mM_count) 5 = .ok (.aload_n 0, 1) := op42 (by decide +kernel)
theorem dM_count_6 : decode (mB mM_count) 6 = .ok (.getfield 112, 3) := op180 0 112 (by decide +kernel)
theorem dM_count_9 : decode (mB mM_count) 9 = .ok (.if_icmp .ge 27, 3) := op162 0 27 (by decide +kernel)
theorem dM_count_12 : decode (mB mM_count) 12 = .ok (.iload_n 2, 1) := op28 (by decide +kernel)
theorem dM_count_13 : decode (mB mM_count) 13 = .ok (.aload_n 0, 1) := op42 (by decide +kernel)
theorem dM_count_14 : decode (mB mM_count) 14 = .ok (.iload_n 3, 1) := op29 (by decide +kernel)
theorem dM_count_15 : decode (mB mM_count) 15 = .ok (.iconst 0, 1) := op3 (by decide +kernel)
theorem dM_count_16 : decode (mB mM_count) 16 = .ok (.invokevirtual 244, 3) := op182 0 244 (by decide +kernel)
theorem dM_count_19 : decode (mB mM_count) 19 = .ok (.iconst 5, 1) := op8 (by decide +kernel)
theorem dM_count_20 : decode (mB mM_count) 20 = .ok (.if_icmp .ne 7, 3) := op160 0 7 (by decide +kernel)
theorem dM_count_23 : decode (mB mM_count) 23 = .ok (.iconst 1, 1) := op4 (by decide +kernel)
theorem dM_count_24 : decode (mB mM_count) 24 = .ok (.goto 4, 3) := op167 0 4 (by decide +kernel)
theorem dM_count_27 : decode (mB mM_count) 27 = .ok (.iconst 0, 1) := op3 (by decide +kernel)
theorem dM_count_28 : decode (mB mM_count) 28 = .ok (.iadd, 1) := op96 (by decide +kernel)
theorem dM_count_29 : decode (mB mM_count) 29 = .ok (.istore_n 2, 1) := op61 (by decide +kernel)
theorem dM_count_30 : decode (mB mM_count) 30 = .ok (.iinc 3 1, 3) := op132 3 1 (by decide +kernel)
theorem dM_count_33 : decode (mB mM_count) 33 = .ok (.goto (-29), 3) := op167 255 227 (by decide +kernel)
theorem dM_count_36 : decode (mB mM_count) 36 = .ok (.iload_n 1, 1) := op27 (by decide +kernel)
theorem dM_count_37 : decode (mB mM_count) 37 = .ok (.i2l, 1) := op133 (by decide +kernel)
theorem dM_count_38 : decode (mB mM_count) 38 = .ok (.ldc2_w 328, 3) := op20 1 72 (by decide +kernel)
theorem dM_count_41 : decode (mB mM_count) 41 = .ok (.ldc2_w 363, 3) := op20 1 107 (by decide +kernel)
theorem dM_count_44 : decode (mB mM_count) 44 = .ok (.invokestatic 126, 3) := op184 0 126 (by decide +kernel)
theorem dM_count_47 : decode (mB mM_count) 47 = .ok (.ifCond .eq 13, 3) := op153 0 13 (by decide +kernel)
theorem dM_count_50 : decode (mB mM_count) 50 = .ok (.aload_n 0, 1) := op42 (by decide +kernel)
theorem dM_count_51 : decode (mB mM_count) 51 = .ok (.getfield 13, 3) := op180 0 13 (by decide +kernel)
theorem dM_count_54 : decode (mB mM_count) 54 = .ok (.iload_n 1, 1) := op27 (by decide +kernel)
theorem dM_count_55 : decode (mB mM_count) 55 = .ok (.bipush 10, 2) := op16 10 (by decide +kernel)
theorem dM_count_57 : decode (mB mM_count) 57 = .ok (.isub, 1) := op100 (by decide +kernel)
theorem dM_count_58 : decode (mB mM_count) 58 = .ok (.iaload, 1) := op46 (by decide +kernel)
theorem dM_count_59 : decode (mB mM_count) 59 = .ok (.ireturn, 1) := op172 (by decide +kernel)
theorem dM_count_60 : decode (mB mM_count) 60 = .ok (.iload_n 1, 1) := op27 (by decide +kernel)
theorem dM_count_61 : decode (mB mM_count) 61 = .ok (.tableswitch 78 0 4 #[35, 40, 42, 50, 55], 35) := by decide +kernel
theorem dM_count_96 : decode (mB mM_count) 96 = .ok (.aload_n 0, 1) := op42 (by decide +kernel)
theorem dM_count_97 : decode (mB mM_count) 97 = .ok (.getfield 112, 3) := op180 0 112 (by decide +kernel)
theorem dM_count_100 : decode (mB mM_count) 100 = .ok (.ireturn, 1) := op172 (by decide +kernel)
theorem dM_count_101 : decode (mB mM_count) 101 = .ok (.iload_n 2, 1) := op28 (by decide +kernel)
theorem dM_count_102 : decode (mB mM_count) 102 = .ok (.ireturn, 1) := op172 (by decide +kernel)
theorem dM_count_103 : decode (mB mM_count) 103 = .ok (.aload_n 0, 1) := op42 (by decide +kernel)
theorem dM_count_104 : decode (mB mM_count) 104 = .ok (.getfield 29, 3) := op180 0 29 (by decide +kernel)
theorem dM_count_107 : decode (mB mM_count) 107 = .ok (.invokestatic 264, 3) := op184 1 8 (by decide +kernel)
theorem dM_count_110 : decode (mB mM_count) 110 = .ok (.ireturn, 1) := op172 (by decide +kernel)
theorem dM_count_111 : decode (mB mM_count) 111 = .ok (.aload_n 0, 1) := op42 (by decide +kernel)
theorem dM_count_112 : decode (mB mM_count) 112 = .ok (.getfield 121, 3) := op180 0 121 (by decide +kernel)
theorem dM_count_115 : decode (mB mM_count) 115 = .ok (.ireturn, 1) := op172 (by decide +kernel)
theorem dM_count_116 : decode (mB mM_count) 116 = .ok (.aload_n 0, 1) := op42 (by decide +kernel)
theorem dM_count_117 : decode (mB mM_count) 117 = .ok (.getfield 88, 3) := op180 0 88 (by decide +kernel)
theorem dM_count_120 : decode (mB mM_count) 120 = .ok (.iconst 0, 1) := op3 (by decide +kernel)
theorem dM_count_121 : decode (mB mM_count) 121 = .ok (.iaload, 1) := op46 (by decide +kernel)
theorem dM_count_122 : decode (mB mM_count) 122 = .ok (.bipush (-4), 2) := op16 252 (by decide +kernel)
theorem dM_count_124 : decode (mB mM_count) 124 = .ok (.if_icmp .ne 8, 3) := op160 0 8 (by decide +kernel)
theorem dM_count_127 : decode (mB mM_count) 127 = .ok (.bipush (-4), 2) := op16 252 (by decide +kernel)
theorem dM_count_129 : decode (mB mM_count) 129 = .ok (.goto 9, 3) := op167 0 9 (by decide +kernel)
theorem dM_count_132 : decode (mB mM_count) 132 = .ok (.aload_n 0, 1) := op42 (by decide +kernel)
theorem dM_count_133 : decode (mB mM_count) 133 = .ok (.getfield 91, 3) := op180 0 91 (by decide +kernel)
theorem dM_count_136 : decode (mB mM_count) 136 = .ok (.iconst 0, 1) := op3 (by decide +kernel)
theorem dM_count_137 : decode (mB mM_count) 137 = .ok (.iaload, 1) := op46 (by decide +kernel)
theorem dM_count_138 : decode (mB mM_count) 138 = .ok (.ireturn, 1) := op172 (by decide +kernel)
theorem dM_count_139 : decode (mB mM_count) 139 = .ok (.iconst (-1), 1) := op2 (by decide +kernel)
theorem dM_count_140 : decode (mB mM_count) 140 = .ok (.ireturn, 1) := op172 (by decide +kernel)

theorem vM_count_0 {M : Mm} {b : Nat × Nat} {K : Int32 → Mm → Prop} {v0 : Nat} {v1 : Int32}  
    (h : X mM_count 4 [(0, .ref v0), (1, .int v1), (2, .int 0), (3, .int 0)] [] M b (QI K)) : X mM_count 0 [(0, .ref v0), (1, .int v1)] [] M b (QI K) := by
  refine x_wf (fun hw => ?_)
  refine x_iconst (pc := 0) dM_count_0 (v := 0) rfl ?_
  refine x_istore_n (pc := 1) dM_count_1 rfl (by decide) (L' := [(2, .int 0), (0, .ref v0), (1, .int v1)]) rfl ?_
  refine x_iconst (pc := 2) dM_count_2 (v := 0) rfl ?_
  refine x_istore_n (pc := 3) dM_count_3 rfl (by decide) (L' := [(3, .int 0), (2, .int 0), (0, .ref v0), (1, .int v1)]) rfl ?_
  exact x_loc [2, 3, 1, 0] rfl h

theorem vM_count_4 {M : Mm} {b : Nat × Nat} {K : Int32 → Mm → Prop} {v0 : Nat} {v1 : Int32} {v2 : Int32} {v3 : Int32} (kv0 : v0 % 64 = 11) 
    (h : ((gi M v0 0) ≤ v3 → (CI mM_in [.long ((v1).toInt64), .long 10, .long 17] M (fun rv N => X mM_count 47 [(0, .ref v0), (1, .int v1), (2, .int v2)] [.int rv] N b (QI K)))) ∧ (¬ (gi M v0 0) ≤ v3 → (CI mM_of [.ref v0, .int v3, .int 0] M (fun rv N => X mM_count 19 [(0, .ref v0), (1, .int v1), (3, .int v3)] [.int rv, .int v2] N b (QI K))))) : X mM_count 4 [(0, .ref v0), (1, .int v1), (2, .int v2), (3, .int v3)] [] M b (QI K) := by
  refine x_wf (fun hw => ?_)
  refine x_iload_n (pc := 4) dM_count_4 rfl (q := 3) rfl ?_
  refine x_aload_n (pc := 5) dM_count_5 rfl (q := 0) rfl ?_
  refine x_getI (pc := 6) dM_count_6 kv0 flM_112 rfl ?_
  obtain ⟨g1_0, g1_1⟩ := h
  refine x_icmp_ge (pc := 9) dM_count_9 (t := 36) rfl (fun q1 => ?_) (fun q1 => ?_)
  · refine x_iload_n (pc := 36) dM_count_36 rfl (q := 1) rfl ?_
    refine x_i2l (pc := 37) dM_count_37 ?_
    refine x_ldc2 (pc := 38) dM_count_38 klM_328 ?_
    refine x_ldc2 (pc := 41) dM_count_41 klM_363 ?_
    have h := g1_0 q1
    exact x_invS (pc := 44) dM_count_44 (S := []) (As := [.long ((v1).toInt64), .long 10, .long 17]) mlM_126 hM_in rfl ⟨by decide, by decide⟩ ⟨Nat.zero_le _, Nat.zero_le _⟩ rfl (Nat.le_of_ble_eq_true rfl) (aftI (b' := b) ⟨Nat.le_refl _, Nat.le_refl _⟩ (fun rv N h => x_loc [0, 1, 2] rfl h) h)
  · refine x_iload_n (pc := 12) dM_count_12 rfl (q := 2) rfl ?_
    refine x_aload_n (pc := 13) dM_count_13 rfl (q := 0) rfl ?_
    refine x_iload_n (pc := 14) dM_count_14 rfl (q := 3) rfl ?_
    refine x_iconst (pc := 15) dM_count_15 (v := 0) rfl ?_
    have h := g1_1 q1
    exact x_invV (pc := 16) dM_count_16 (c := 11) (S := [.int v2]) (As := [.int v3, .int 0]) mlM_244 hM_of rfl (by decide) rfl kv0 ⟨by decide, by decide⟩ ⟨Nat.zero_le _, Nat.zero_le _⟩ rfl (Nat.le_of_ble_eq_true rfl) (aftI (b' := b) ⟨Nat.le_refl _, Nat.le_refl _⟩ (fun rv N h => x_loc [0, 1, 3] rfl h) h)

theorem vM_count_19 {M : Mm} {b : Nat × Nat} {K : Int32 → Mm → Prop} {v0 : Nat} {v1 : Int32} {v3 : Int32} {w0 : Int32} {w1 : Int32}  
    (h : X mM_count 4 [(0, .ref v0), (1, .int v1), (2, .int (w1 + (if w0 = 5 then 1 else 0 : Int32))), (3, .int (v3 + 1))] [] M b (QI K)) : X mM_count 19 [(0, .ref v0), (1, .int v1), (3, .int v3)] [.int w0, .int w1] M b (QI K) := by
  refine x_wf (fun hw => ?_)
  refine x_iconst (pc := 19) dM_count_19 (v := 5) rfl ?_
  suffices hJ : X mM_count 28 [(0, .ref v0), (1, .int v1), (3, .int v3)] [.int (if w0 = 5 then 1 else 0 : Int32), .int w1] M b (QI K) by
    refine x_icmp_ne (pc := 20) dM_count_20 (t := 27) rfl (fun q1 => ?_) (fun q1 => ?_)
    · refine x_iconst (pc := 27) dM_count_27 (v := 0) rfl ?_
      first | (rw [if_neg q1] at hJ; exact hJ) | (simp only [if_neg q1] at hJ ⊢; exact hJ)
    · refine x_iconst (pc := 23) dM_count_23 (v := 1) rfl ?_
      refine x_goto (pc := 24) dM_count_24 (t := 28) rfl ?_
      first | (rw [if_pos q1] at hJ; exact hJ) | (simp only [if_pos q1] at hJ ⊢; exact hJ)
  refine x_iadd (pc := 28) dM_count_28 ?_
  refine x_istore_n (pc := 29) dM_count_29 rfl (by decide) (L' := [(2, .int (w1 + (if w0 = 5 then 1 else 0 : Int32))), (0, .ref v0), (1, .int v1), (3, .int v3)]) rfl ?_
  refine x_iinc (pc := 30) dM_count_30 (q := 3) rfl (v := v3 + 1) rfl (by decide) (L' := [(3, .int (v3 + 1)), (2, .int (w1 + (if w0 = 5 then 1 else 0 : Int32))), (0, .ref v0), (1, .int v1)]) rfl ?_
  refine x_goto (pc := 33) dM_count_33 (t := 4) rfl ?_
  exact x_loc [2, 3, 1, 0] rfl h

theorem vM_count_47 {M : Mm} {b : Nat × Nat} {K : Int32 → Mm → Prop} {v0 : Nat} {v1 : Int32} {v2 : Int32} {w0 : Int32} {r1 : Nat} {r2 : Nat} {r3 : Nat} (kv0 : v0 % 64 = 11) (e1 : gr M v0 2 = some r1) (e2 : gr M v0 40 = some r2) (e3 : gr M v0 41 = some r3)
    (h : (¬ w0 = 0 → vp_in (v1 - 10) 8) ∧ (w0 = 0 → ((v1 = 0 → (K (gi M v0 0) M)) ∧ (v1 = 1 → (K v2 M)) ∧ (v1 = 2 → (CI mM_countOf [.int (gi M v0 9)] M (fun rv N => X mM_count 110 [] [.int rv] N b (QI K)))) ∧ (v1 = 3 → (K (gi M v0 11) M)) ∧ (v1 = 4 → (K (if (gi M r2 0) = (-4) then (-4) else (gi M r3 0) : Int32) M)) ∧ (¬ v1 = 0 ∧ ¬ v1 = 1 ∧ ¬ v1 = 2 ∧ ¬ v1 = 3 ∧ ¬ v1 = 4 → (K (-1) M)))) ∧ (¬ w0 = 0 → (K (gi M r1 (v1 - 10).toNatClampNeg) M))) : X mM_count 47 [(0, .ref v0), (1, .int v1), (2, .int v2)] [.int w0] M b (QI K) := by
  refine x_wf (fun hw => ?_)
  obtain ⟨s1, g1_0, g1_1⟩ := h
  refine x_if_eq (pc := 47) dM_count_47 (t := 60) rfl (fun q1 => ?_) (fun q1 => ?_)
  · refine x_iload_n (pc := 60) dM_count_60 rfl (q := 1) rfl ?_
    have h := g1_0 q1
    obtain ⟨g2_0, g2_1, g2_2, g2_3, g2_4, g2_5⟩ := h
    by_cases q2 : v1 = 0
    · refine x_tblIn (pc := 61) dM_count_61 (by rw [q2]; decide) (by rw [q2]; decide) (off := 35) (by rw [q2]; rfl) (t := 96) rfl ?_
      have h := g2_0 q2
      refine x_aload_n (pc := 96) dM_count_96 rfl (q := 0) rfl ?_
      refine x_getI (pc := 97) dM_count_97 kv0 flM_112 rfl ?_
      exact x_retQI (pc := 100) dM_count_100 rfl rfl h
    by_cases q3 : v1 = 1
    · refine x_tblIn (pc := 61) dM_count_61 (by rw [q3]; decide) (by rw [q3]; decide) (off := 40) (by rw [q3]; rfl) (t := 101) rfl ?_
      have h := g2_1 q3
      refine x_iload_n (pc := 101) dM_count_101 rfl (q := 2) rfl ?_
      exact x_retQI (pc := 102) dM_count_102 rfl rfl h
    by_cases q4 : v1 = 2
    · refine x_tblIn (pc := 61) dM_count_61 (by rw [q4]; decide) (by rw [q4]; decide) (off := 42) (by rw [q4]; rfl) (t := 103) rfl ?_
      have h := g2_2 q4
      refine x_aload_n (pc := 103) dM_count_103 rfl (q := 0) rfl ?_
      refine x_getI (pc := 104) dM_count_104 kv0 flM_29 rfl ?_
      exact x_invS (pc := 107) dM_count_107 (S := []) (As := [.int (gi M v0 9)]) mlM_264 hM_countOf rfl ⟨by decide, by decide⟩ ⟨Nat.zero_le _, Nat.zero_le _⟩ rfl (Nat.le_of_ble_eq_true rfl) (aftI (b' := b) ⟨Nat.le_refl _, Nat.le_refl _⟩ (fun rv N h => x_loc [] rfl h) h)
    by_cases q5 : v1 = 3
    · refine x_tblIn (pc := 61) dM_count_61 (by rw [q5]; decide) (by rw [q5]; decide) (off := 50) (by rw [q5]; rfl) (t := 111) rfl ?_
      have h := g2_3 q5
      refine x_aload_n (pc := 111) dM_count_111 rfl (q := 0) rfl ?_
      refine x_getI (pc := 112) dM_count_112 kv0 flM_121 rfl ?_
      exact x_retQI (pc := 115) dM_count_115 rfl rfl h
    by_cases q6 : v1 = 4
    · refine x_tblIn (pc := 61) dM_count_61 (by rw [q6]; decide) (by rw [q6]; decide) (off := 55) (by rw [q6]; rfl) (t := 116) rfl ?_
      have h := g2_4 q6
      refine x_aload_n (pc := 116) dM_count_116 rfl (q := 0) rfl ?_
      refine x_getR (pc := 117) dM_count_117 kv0 flM_88 rfl e2 ?_
      refine x_iconst (pc := 120) dM_count_120 (v := 0) rfl ?_
      refine x_aldIj (pc := 121) (j := 0) (Or.inl ⟨rfl, rfl⟩) dM_count_121 (wfk hw e2 kv0) ak_28 (by decide) (by unfold vp_in; decide) ?_
      refine x_bipush (pc := 122) dM_count_122 (v := (-4)) rfl ?_
      suffices hJ : X mM_count 138 [(0, .ref v0), (1, .int v1), (2, .int v2)] [.int (if (gi M r2 0) = (-4) then (-4) else (gi M r3 0) : Int32)] M b (QI K) by
        refine x_icmp_ne (pc := 124) dM_count_124 (t := 132) rfl (fun q7 => ?_) (fun q7 => ?_)
        · refine x_aload_n (pc := 132) dM_count_132 rfl (q := 0) rfl ?_
          refine x_getR (pc := 133) dM_count_133 kv0 flM_91 rfl e3 ?_
          refine x_iconst (pc := 136) dM_count_136 (v := 0) rfl ?_
          refine x_aldIj (pc := 137) (j := 0) (Or.inl ⟨rfl, rfl⟩) dM_count_137 (wfk hw e3 kv0) ak_28 (by decide) (by unfold vp_in; decide) ?_
          first | (rw [if_neg q7] at hJ; exact hJ) | (simp only [if_neg q7] at hJ ⊢; exact hJ)
        · refine x_bipush (pc := 127) dM_count_127 (v := (-4)) rfl ?_
          refine x_goto (pc := 129) dM_count_129 (t := 138) rfl ?_
          first | (rw [if_pos q7] at hJ; exact hJ) | (simp only [if_pos q7] at hJ ⊢; exact hJ)
      exact x_retQI (pc := 138) dM_count_138 rfl rfl h
    have h := g2_5 ⟨q2, q3, q4, q5, q6⟩
    have hout : (v1).toInt < 0 ∨ 4 < (v1).toInt := tblout (fun (k : Int) h1 h2 => by
      rcases (show k = 0 ∨ k = 1 ∨ k = 2 ∨ k = 3 ∨ k = 4 by omega) with rfl | rfl | rfl | rfl | rfl
      · exact q2
      · exact q3
      · exact q4
      · exact q5
      · exact q6)
    refine x_tblOut (pc := 61) dM_count_61 hout (t := 139) rfl ?_
    refine x_iconst (pc := 139) dM_count_139 (v := (-1)) rfl ?_
    exact x_retQI (pc := 140) dM_count_140 rfl rfl h
  · refine x_aload_n (pc := 50) dM_count_50 rfl (q := 0) rfl ?_
    refine x_getR (pc := 51) dM_count_51 kv0 flM_13 rfl e1 ?_
    refine x_iload_n (pc := 54) dM_count_54 rfl (q := 1) rfl ?_
    refine x_bipush (pc := 55) dM_count_55 (v := 10) rfl ?_
    refine x_isub (pc := 57) dM_count_57 ?_
    refine x_aldIj (pc := 58) (j := (v1 - 10).toNatClampNeg) (Or.inl ⟨rfl, rfl⟩) dM_count_58 (wfk hw e1 kv0) ak_13 rfl (s1 q1) ?_
    have h := g1_1 q1
    exact x_retQI (pc := 59) dM_count_59 rfl rfl h

theorem vM_count_110 {M : Mm} {b : Nat × Nat} {K : Int32 → Mm → Prop} {w0 : Int32}  
    (h : K w0 M) : X mM_count 110 [] [.int w0] M b (QI K) := by
  refine x_wf (fun hw => ?_)
  exact x_retQI (pc := 110) dM_count_110 rfl rfl h

