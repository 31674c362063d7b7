theorem dM_init_0 : decode (mB mM_init) 0 = .ok (.aload_n 0, 1) := op42 (by decide +kernel)
theorem dM_init_1 : decode (mB mM_init) 1 = .ok (.invokespecial 1, 3) := op183 0 1 (by decide +kernel)
theorem dM_init_4 : decode (mB mM_init) 4 = .ok (.aload_n 0, 1) := op42 (by decide +kernel)
theorem dM_init_5 : decode (mB mM_init) 5 = .ok (.sipush 250, 3) := op17 0 250 (by decide +kernel)
theorem dM_init_8 : decode (mB mM_init) 8 = .ok (.newarray .int, 2) := by decide +kernel
theorem dM_init_10 : decode (mB mM_init) 10 = .ok (.putfield 7, 3) := op181 0 7 (by decide +kernel)
theorem dM_init_13 : decode (mB mM_init) 13 = .ok (.aload_n 0, 1) := op42 (by decide +kernel)
theorem dM_init_14 : decode (mB mM_init) 14 = .ok (.bipush 8, 2) := op16 8 (by decide +kernel)
theorem dM_init_16 : decode (mB mM_init) 16 = .ok (.newarray .int, 2) := by decide +kernel
theorem dM_init_18 : decode (mB mM_init) 18 = .ok (.putfield 13, 3) := op181 0 13 (by decide +kernel)
theorem dM_init_21 : decode (mB mM_init) 21 = .ok (.aload_n 0, 1) := op42 (by decide +kernel)
theorem dM_init_22 : decode (mB mM_init) 22 = .ok (.sipush 250, 3) := op17 0 250 (by decide +kernel)
theorem dM_init_25 : decode (mB mM_init) 25 = .ok (.newarray .int, 2) := by decide +kernel
theorem dM_init_27 : decode (mB mM_init) 27 = .ok (.putfield 16, 3) := op181 0 16 (by decide +kernel)
theorem dM_init_30 : decode (mB mM_init) 30 = .ok (.aload_n 0, 1) := op42 (by decide +kernel)
theorem dM_init_31 : decode (mB mM_init) 31 = .ok (.bipush 8, 2) := op16 8 (by decide +kernel)
theorem dM_init_33 : decode (mB mM_init) 33 = .ok (.newarray .int, 2) := by decide +kernel
theorem dM_init_35 : decode (mB mM_init) 35 = .ok (.putfield 19, 3) := op181 0 19 (by decide +kernel)
theorem dM_init_38 : decode (mB mM_init) 38 = .ok (.aload_n 0, 1) := op42 (by decide +kernel)
theorem dM_init_39 : decode (mB mM_init) 39 = .ok (.bipush 8, 2) := op16 8 (by decide +kernel)
theorem dM_init_41 : decode (mB mM_init) 41 = .ok (.newarray .boolean, 2) := by decide +kernel
theorem dM_init_43 : decode (mB mM_init) 43 = .ok (.putfield 22, 3) := op181 0 22 (by decide +kernel)
theorem dM_init_46 : decode (mB mM_init) 46 = .ok (.aload_n 0, 1) := op42 (by decide +kernel)
theorem dM_init_47 : decode (mB mM_init) 47 = .ok (.bipush 25, 2) := op16 25 (by decide +kernel)
theorem dM_init_49 : decode (mB mM_init) 49 = .ok (.newarray .int, 2) := by decide +kernel
theorem dM_init_51 : decode (mB mM_init) 51 = .ok (.putfield 26, 3) := op181 0 26 (by decide +kernel)
theorem dM_init_54 : decode (mB mM_init) 54 = .ok (.aload_n 0, 1) := op42 (by decide +kernel)
theorem dM_init_55 : decode (mB mM_init) 55 = .ok (.sipush 255, 3) := op17 0 255 (by decide +kernel)
theorem dM_init_58 : decode (mB mM_init) 58 = .ok (.putfield 29, 3) := op181 0 29 (by decide +kernel)
theorem dM_init_61 : decode (mB mM_init) 61 = .ok (.aload_n 0, 1) := op42 (by decide +kernel)
theorem dM_init_62 : decode (mB mM_init) 62 = .ok (.sipush 400, 3) := op17 1 144 (by decide +kernel)
theorem dM_init_65 : decode (mB mM_init) 65 = .ok (.newarray .int, 2) := by decide +kernel
theorem dM_init_67 : decode (mB mM_init) 67 = .ok (.putfield 33, 3) := op181 0 33 (by decide +kernel)
theorem dM_init_70 : decode (mB mM_init) 70 = .ok (.aload_n 0, 1) := op42 (by decide +kernel)
theorem dM_init_71 : decode (mB mM_init) 71 = .ok (.bipush 7, 2) := op16 7 (by decide +kernel)
theorem dM_init_73 : decode (mB mM_init) 73 = .ok (.newarray .int, 2) := by decide +kernel
theorem dM_init_75 : decode (mB mM_init) 75 = .ok (.putfield 36, 3) := op181 0 36 (by decide +kernel)
theorem dM_init_78 : decode (mB mM_init) 78 = .ok (.aload_n 0, 1) := op42 (by decide +kernel)
theorem dM_init_79 : decode (mB mM_init) 79 = .ok (.bipush 7, 2) := op16 7 (by decide +kernel)
theorem dM_init_81 : decode (mB mM_init) 81 = .ok (.newarray .int, 2) := by decide +kernel
theorem dM_init_83 : decode (mB mM_init) 83 = .ok (.putfield 39, 3) := op181 0 39 (by decide +kernel)
theorem dM_init_86 : decode (mB mM_init) 86 = .ok (.aload_n 0, 1) := op42 (by decide +kernel)
theorem dM_init_87 : decode (mB mM_init) 87 = .ok (.bipush 7, 2) := op16 7 (by decide +kernel)
theorem dM_init_89 : decode (mB mM_init) 89 = .ok (.newarray .int, 2) := by decide +kernel
theorem dM_init_91 : decode (mB mM_init) 91 = .ok (.putfield 42, 3) := op181 0 42 (by decide +kernel)
theorem dM_init_94 : decode (mB mM_init) 94 = .ok (.aload_n 0, 1) := op42 (by decide +kernel)
theorem dM_init_95 : decode (mB mM_init) 95 = .ok (.bipush 7, 2) := op16 7 (by decide +kernel)
theorem dM_init_97 : decode (mB mM_init) 97 = .ok (.newarray .boolean, 2) := by decide +kernel
theorem dM_init_99 : decode (mB mM_init) 99 = .ok (.putfield 45, 3) := op181 0 45 (by decide +kernel)
theorem dM_init_102 : decode (mB mM_init) 102 = .ok (.aload_n 0, 1) := op42 (by decide +kernel)
theorem dM_init_103 : decode (mB mM_init) 103 = .ok (.bipush 25, 2) := op16 25 (by decide +kernel)
theorem dM_init_105 : decode (mB mM_init) 105 = .ok (.newarray .int, 2) := by decide +kernel
theorem dM_init_107 : decode (mB mM_init) 107 = .ok (.putfield 48, 3) := op181 0 48 (by decide +kernel)
theorem dM_init_110 : decode (mB mM_init) 110 = .ok (.aload_n 0, 1) := op42 (by decide +kernel)
theorem dM_init_111 : decode (mB mM_init) 111 = .ok (.bipush 25, 2) := op16 25 (by decide +kernel)
theorem dM_init_113 : decode (mB mM_init) 113 = .ok (.newarray .long, 2) := by decide +kernel
theorem dM_init_115 : decode (mB mM_init) 115 = .ok (.putfield 51, 3) := op181 0 51 (by decide +kernel)
theorem dM_init_118 : decode (mB mM_init) 118 = .ok (.aload_n 0, 1) := op42 (by decide +kernel)
theorem dM_init_119 : decode (mB mM_init) 119 = .ok (.bipush 25, 2) := op16 25 (by decide +kernel)
theorem dM_init_121 : decode (mB mM_init) 121 = .ok (.newarray .long, 2) := by decide +kernel
theorem dM_init_123 : decode (mB mM_init) 123 = .ok (.putfield 55, 3) := op181 0 55 (by decide +kernel)
theorem dM_init_126 : decode (mB mM_init) 126 = .ok (.aload_n 0, 1) := op42 (by decide +kernel)
theorem dM_init_127 : decode (mB mM_init) 127 = .ok (.bipush 8, 2) := op16 8 (by decide +kernel)
theorem dM_init_129 : decode (mB mM_init) 129 = .ok (.newarray .long, 2) := by decide +kernel
theorem dM_init_131 : decode (mB mM_init) 131 = .ok (.putfield 58, 3) := op181 0 58 (by decide +kernel)
theorem dM_init_134 : decode (mB mM_init) 134 = .ok (.aload_n 0, 1) := op42 (by decide +kernel)
theorem dM_init_135 : decode (mB mM_init) 135 = .ok (.bipush 8, 2) := op16 8 (by decide +kernel)
theorem dM_init_137 : decode (mB mM_init) 137 = .ok (.newarray .long, 2) := by decide +kernel
theorem dM_init_139 : decode (mB mM_init) 139 = .ok (.putfield 61, 3) := op181 0 61 (by decide +kernel)
theorem dM_init_142 : decode (mB mM_init) 142 = .ok (.aload_n 0, 1) := op42 (by decide +kernel)
theorem dM_init_143 : decode (mB mM_init) 143 = .ok (.bipush 8, 2) := op16 8 (by decide +kernel)
theorem dM_init_145 : decode (mB mM_init) 145 = .ok (.newarray .long, 2) := by decide +kernel
theorem dM_init_147 : decode (mB mM_init) 147 = .ok (.putfield 64, 3) := op181 0 64 (by decide +kernel)
theorem dM_init_150 : decode (mB mM_init) 150 = .ok (.aload_n 0, 1) := op42 (by decide +kernel)
theorem dM_init_151 : decode (mB mM_init) 151 = .ok (.bipush 64, 2) := op16 64 (by decide +kernel)
theorem dM_init_153 : decode (mB mM_init) 153 = .ok (.newarray .int, 2) := by decide +kernel
theorem dM_init_155 : decode (mB mM_init) 155 = .ok (.putfield 67, 3) := op181 0 67 (by decide +kernel)
theorem dM_init_158 : decode (mB mM_init) 158 = .ok (.aload_n 0, 1) := op42 (by decide +kernel)
theorem dM_init_159 : decode (mB mM_init) 159 = .ok (.bipush 64, 2) := op16 64 (by decide +kernel)
theorem dM_init_161 : decode (mB mM_init) 161 = .ok (.newarray .int, 2) := by decide +kernel
theorem dM_init_163 : decode (mB mM_init) 163 = .ok (.putfield 70, 3) := op181 0 70 (by decide +kernel)
theorem dM_init_166 : decode (mB mM_init) 166 = .ok (.aload_n 0, 1) := op42 (by decide +kernel)
theorem dM_init_167 : decode (mB mM_init) 167 = .ok (.bipush 64, 2) := op16 64 (by decide +kernel)
theorem dM_init_169 : decode (mB mM_init) 169 = .ok (.newarray .int, 2) := by decide +kernel
theorem dM_init_171 : decode (mB mM_init) 171 = .ok (.putfield 73, 3) := op181 0 73 (by decide +kernel)
theorem dM_init_174 : decode (mB mM_init) 174 = .ok (.aload_n 0, 1) := op42 (by decide +kernel)
theorem dM_init_175 : decode (mB mM_init) 175 = .ok (.bipush 64, 2) := op16 64 (by decide +kernel)
theorem dM_init_177 : decode (mB mM_init) 177 = .ok (.newarray .int, 2) := by decide +kernel
theorem dM_init_179 : decode (mB mM_init) 179 = .ok (.putfield 76, 3) := op181 0 76 (by decide +kernel)
theorem dM_init_182 : decode (mB mM_init) 182 = .ok (.aload_n 0, 1) := op42 (by decide +kernel)
theorem dM_init_183 : decode (mB mM_init) 183 = .ok (.bipush 64, 2) := op16 64 (by decide +kernel)
theorem dM_init_185 : decode (mB mM_init) 185 = .ok (.newarray .int, 2) := by decide +kernel
theorem dM_init_187 : decode (mB mM_init) 187 = .ok (.putfield 79, 3) := op181 0 79 (by decide +kernel)
theorem dM_init_190 : decode (mB mM_init) 190 = .ok (.aload_n 0, 1) := op42 (by decide +kernel)
theorem dM_init_191 : decode (mB mM_init) 191 = .ok (.bipush 64, 2) := op16 64 (by decide +kernel)
theorem dM_init_193 : decode (mB mM_init) 193 = .ok (.newarray .int, 2) := by decide +kernel
theorem dM_init_195 : decode (mB mM_init) 195 = .ok (.putfield 82, 3) := op181 0 82 (by decide +kernel)
theorem dM_init_198 : decode (mB mM_init) 198 = .ok (.aload_n 0, 1) := op42 (by decide +kernel)
theorem dM_init_199 : decode (mB mM_init) 199 = .ok (.sipush 256, 3) := op17 1 0 (by decide +kernel)
theorem dM_init_202 : decode (mB mM_init) 202 = .ok (.newarray .int, 2) := by decide +kernel
theorem dM_init_204 : decode (mB mM_init) 204 = .ok (.putfield 85, 3) := op181 0 85 (by decide +kernel)
theorem dM_init_207 : decode (mB mM_init) 207 = .ok (.aload_n 0, 1) := op42 (by decide +kernel)
theorem dM_init_208 : decode (mB mM_init) 208 = .ok (.iconst 4, 1) := op7 (by decide +kernel)
theorem dM_init_209 : decode (mB mM_init) 209 = .ok (.newarray .int, 2) := by decide +kernel
theorem dM_init_211 : decode (mB mM_init) 211 = .ok (.putfield 88, 3) := op181 0 88 (by decide +kernel)
theorem dM_init_214 : decode (mB mM_init) 214 = .ok (.aload_n 0, 1) := op42 (by decide +kernel)
theorem dM_init_215 : decode (mB mM_init) 215 = .ok (.iconst 4, 1) := op7 (by decide +kernel)
theorem dM_init_216 : decode (mB mM_init) 216 = .ok (.newarray .int, 2) := by decide +kernel
theorem dM_init_218 : decode (mB mM_init) 218 = .ok (.putfield 91, 3) := op181 0 91 (by decide +kernel)
theorem dM_init_221 : decode (mB mM_init) 221 = .ok (.aload_n 0, 1) := op42 (by decide +kernel)
theorem dM_init_222 : decode (mB mM_init) 222 = .ok (.sipush 160, 3) := op17 0 160 (by decide +kernel)
theorem dM_init_225 : decode (mB mM_init) 225 = .ok (.newarray .int, 2) := by decide +kernel
theorem dM_init_227 : decode (mB mM_init) 227 = .ok (.putfield 94, 3) := op181 0 94 (by decide +kernel)
theorem dM_init_230 : decode (mB mM_init) 230 = .ok (.iconst 0, 1) := op3 (by decide +kernel)
theorem dM_init_231 : decode (mB mM_init) 231 = .ok (.istore_n 1, 1) := op60 (by decide +kernel)
theorem dM_init_232 : decode (mB mM_init) 232 = .ok (.iload_n 1, 1) := op27 (by decide +kernel)
theorem dM_init_233 : decode (mB mM_init) 233 = .ok (.iconst 4, 1) := op7 (by decide +kernel)
theorem dM_init_234 : decode (mB mM_init) 234 = .ok (.if_icmp .ge 17, 3) := op162 0 17 (by decide +kernel)
theorem dM_init_237 : decode (mB mM_init) 237 = .ok (.aload_n 0, 1) := op42 (by decide +kernel)
theorem dM_init_238 : decode (mB mM_init) 238 = .ok (.getfield 88, 3) := op180 0 88 (by decide +kernel)
theorem dM_init_241 : decode (mB mM_init) 241 = .ok (.iload_n 1, 1) := op27 (by decide +kernel)
theorem dM_init_242 : decode (mB mM_init) 242 = .ok (.bipush (-4), 2) := op16 252 (by decide +kernel)
theorem dM_init_244 : decode (mB mM_init) 244 = .ok (.iastore, 1) := op79 (by decide +kernel)
theorem dM_init_245 : decode (mB mM_init) 245 = .ok (.iinc 1 1, 3) := op132 1 1 (by decide +kernel)
theorem dM_init_248 : decode (mB mM_init) 248 = .ok (.goto (-16), 3) := op167 255 240 (by decide +kernel)
theorem dM_init_251 : decode (mB mM_init) 251 = .ok (.aload_n 0, 1) := op42 (by decide +kernel)
theorem dM_init_252 : decode (mB mM_init) 252 = .ok (.invokevirtual 97, 3) := op182 0 97 (by decide +kernel)
theorem dM_init_255 : decode (mB mM_init) 255 = .ok (.aload_n 0, 1) := op42 (by decide +kernel)
theorem dM_init_256 : decode (mB mM_init) 256 = .ok (.invokevirtual 100, 3) := op182 0 100 (by decide +kernel)
theorem dM_init_259 : decode (mB mM_init) 259 = .ok (.aload_n 0, 1) := op42 (by decide +kernel)
theorem dM_init_260 : decode (mB mM_init) 260 = .ok (.invokevirtual 103, 3) := op182 0 103 (by decide +kernel)
theorem dM_init_263 : decode (mB mM_init) 263 = .ok (.iconst 0, 1) := op3 (by decide +kernel)
theorem dM_init_264 : decode (mB mM_init) 264 = .ok (.istore_n 1, 1) := op60 (by decide +kernel)
theorem dM_init_265 : decode (mB mM_init) 265 = .ok (.iload_n 1, 1) := op27 (by decide +kernel)
theorem dM_init_266 : decode (mB mM_init) 266 = .ok (.bipush 7, 2) := op16 7 (by decide +kernel)
theorem dM_init_268 : decode (mB mM_init) 268 = .ok (.if_icmp .ge 33, 3) := op162 0 33 (by decide +kernel)
theorem dM_init_271 : decode (mB mM_init) 271 = .ok (.aload_n 0, 1) := op42 (by decide +kernel)
theorem dM_init_272 : decode (mB mM_init) 272 = .ok (.getfield 36, 3) := op180 0 36 (by decide +kernel)
theorem dM_init_275 : decode (mB mM_init) 275 = .ok (.iload_n 1, 1) := op27 (by decide +kernel)
theorem dM_init_276 : decode (mB mM_init) 276 = .ok (.aload_n 0, 1) := op42 (by decide +kernel)
theorem dM_init_277 : decode (mB mM_init) 277 = .ok (.getfield 42, 3) := op180 0 42 (by decide +kernel)
theorem dM_init_280 : decode (mB mM_init) 280 = .ok (.iload_n 1, 1) := op27 (by decide +kernel)
theorem dM_init_281 : decode (mB mM_init) 281 = .ok (.iaload, 1) := op46 (by decide +kernel)
theorem dM_init_282 : decode (mB mM_init) 282 = .ok (.iastore, 1) := op79 (by decide +kernel)
theorem dM_init_283 : decode (mB mM_init) 283 = .ok (.aload_n 0, 1) := op42 (by decide +kernel)
theorem dM_init_284 : decode (mB mM_init) 284 = .ok (.getfield 39, 3) := op180 0 39 (by decide +kernel)
theorem dM_init_287 : decode (mB mM_init) 287 = .ok (.iload_n 1, 1) := op27 (by decide +kernel)
theorem dM_init_288 : decode (mB mM_init) 288 = .ok (.aload_n 0, 1) := op42 (by decide +kernel)
theorem dM_init_289 : decode (mB mM_init) 289 = .ok (.getfield 42, 3) := op180 0 42 (by decide +kernel)
theorem dM_init_292 : decode (mB mM_init) 292 = .ok (.iload_n 1, 1) := op27 (by decide +kernel)
theorem dM_init_293 : decode (mB mM_init) 293 = .ok (.iaload, 1) := op46 (by decide +kernel)
theorem dM_init_294 : decode (mB mM_init) 294 = .ok (.iastore, 1) := op79 (by decide +kernel)
theorem dM_init_295 : decode (mB mM_init) 295 = .ok (.iinc 1 1, 3) := op132 1 1 (by decide +kernel)
theorem dM_init_298 : decode (mB mM_init) 298 = .ok (.goto (-33), 3) := op167 255 223 (by decide +kernel)
theorem dM_init_301 : decode (mB mM_init) 301 = .ok (.return_, 1) := op177 (by decide +kernel)

theorem vM_init_0 {M : Mm} {b : Nat × Nat} {K : Mm → Prop} {v0 : Nat}  
    (h : X mM_init 4 [(0, .ref v0)] [] M b (QV K)) : X mM_init 0 [(0, .ref v0)] [] M b (QV K) := by
  refine x_wf (fun hw => ?_)
  refine x_aload_n (pc := 0) dM_init_0 rfl (q := 0) rfl ?_
  refine x_obj (pc := 1) dM_init_1 mlM_1 h_obj.1 h_obj.2 (by decide) (Nat.le_of_ble_eq_true rfl) ?_
  exact h

theorem vM_init_4 {M : Mm} {b b' : Nat × Nat} (hb : b'.1 + 1 ≤ b.1 ∧ b'.2 + 250 ≤ b.2) {K : Mm → Prop} {v0 : Nat} (kv0 : v0 % 64 = 11) 
    (h : X mM_init 13 [(0, .ref v0)] [] (sr (nw M 21) v0 1 (some (64 * M.1.1.length + 21))) b' (QV K)) : X mM_init 4 [(0, .ref v0)] [] M b (QV K) := by
  refine x_wf (fun hw => ?_)
  refine x_aload_n (pc := 4) dM_init_4 rfl (q := 0) rfl ?_
  refine x_sipush (pc := 5) dM_init_5 (v := 250) rfl ?_
  refine x_newaB (pc := 8) dM_init_8 ak_21 (Or.inl ⟨rfl, rfl⟩) (by decide) (by decide) (by decide) ac_int (b' := b') (by have := hb; (try dsimp only); omega) ?_
  refine x_putR (pc := 10) dM_init_10 kv0 flM_7 (Or.inr ⟨rfl, rfl, rfl⟩) (Or.inr ⟨_, rfl⟩) (by first | exact (nwk M.1.1.length 21 (by decide)) | (rw [(nwk M.1.1.length 21 (by decide))]; rfl)) (by decide) ?_
  exact h

theorem vM_init_13 {M : Mm} {b b' : Nat × Nat} (hb : b'.1 + 1 ≤ b.1 ∧ b'.2 + 8 ≤ b.2) {K : Mm → Prop} {v0 : Nat} (kv0 : v0 % 64 = 11) 
    (h : X mM_init 21 [(0, .ref v0)] [] (sr (nw M 13) v0 2 (some (64 * M.1.1.length + 13))) b' (QV K)) : X mM_init 13 [(0, .ref v0)] [] M b (QV K) := by
  refine x_wf (fun hw => ?_)
  refine x_aload_n (pc := 13) dM_init_13 rfl (q := 0) rfl ?_
  refine x_bipush (pc := 14) dM_init_14 (v := 8) rfl ?_
  refine x_newaB (pc := 16) dM_init_16 ak_13 (Or.inl ⟨rfl, rfl⟩) (by decide) (by decide) (by decide) ac_int (b' := b') (by have := hb; (try dsimp only); omega) ?_
  refine x_putR (pc := 18) dM_init_18 kv0 flM_13 (Or.inr ⟨rfl, rfl, rfl⟩) (Or.inr ⟨_, rfl⟩) (by first | exact (nwk M.1.1.length 13 (by decide)) | (rw [(nwk M.1.1.length 13 (by decide))]; rfl)) (by decide) ?_
  exact h

theorem vM_init_21 {M : Mm} {b b' : Nat × Nat} (hb : b'.1 + 1 ≤ b.1 ∧ b'.2 + 250 ≤ b.2) {K : Mm → Prop} {v0 : Nat} (kv0 : v0 % 64 = 11) 
    (h : X mM_init 30 [(0, .ref v0)] [] (sr (nw M 21) v0 4 (some (64 * M.1.1.length + 21))) b' (QV K)) : X mM_init 21 [(0, .ref v0)] [] M b (QV K) := by
  refine x_wf (fun hw => ?_)
  refine x_aload_n (pc := 21) dM_init_21 rfl (q := 0) rfl ?_
  refine x_sipush (pc := 22) dM_init_22 (v := 250) rfl ?_
  refine x_newaB (pc := 25) dM_init_25 ak_21 (Or.inl ⟨rfl, rfl⟩) (by decide) (by decide) (by decide) ac_int (b' := b') (by have := hb; (try dsimp only); omega) ?_
  refine x_putR (pc := 27) dM_init_27 kv0 flM_16 (Or.inr ⟨rfl, rfl, rfl⟩) (Or.inr ⟨_, rfl⟩) (by first | exact (nwk M.1.1.length 21 (by decide)) | (rw [(nwk M.1.1.length 21 (by decide))]; rfl)) (by decide) ?_
  exact h

theorem vM_init_30 {M : Mm} {b b' : Nat × Nat} (hb : b'.1 + 1 ≤ b.1 ∧ b'.2 + 8 ≤ b.2) {K : Mm → Prop} {v0 : Nat} (kv0 : v0 % 64 = 11) 
    (h : X mM_init 38 [(0, .ref v0)] [] (sr (nw M 13) v0 5 (some (64 * M.1.1.length + 13))) b' (QV K)) : X mM_init 30 [(0, .ref v0)] [] M b (QV K) := by
  refine x_wf (fun hw => ?_)
  refine x_aload_n (pc := 30) dM_init_30 rfl (q := 0) rfl ?_
  refine x_bipush (pc := 31) dM_init_31 (v := 8) rfl ?_
  refine x_newaB (pc := 33) dM_init_33 ak_13 (Or.inl ⟨rfl, rfl⟩) (by decide) (by decide) (by decide) ac_int (b' := b') (by have := hb; (try dsimp only); omega) ?_
  refine x_putR (pc := 35) dM_init_35 kv0 flM_19 (Or.inr ⟨rfl, rfl, rfl⟩) (Or.inr ⟨_, rfl⟩) (by first | exact (nwk M.1.1.length 13 (by decide)) | (rw [(nwk M.1.1.length 13 (by decide))]; rfl)) (by decide) ?_
  exact h

theorem vM_init_38 {M : Mm} {b b' : Nat × Nat} (hb : b'.1 + 1 ≤ b.1 ∧ b'.2 + 8 ≤ b.2) {K : Mm → Prop} {v0 : Nat} (kv0 : v0 % 64 = 11) 
    (h : X mM_init 46 [(0, .ref v0)] [] (sr (nw M 24) v0 6 (some (64 * M.1.1.length + 24))) b' (QV K)) : X mM_init 38 [(0, .ref v0)] [] M b (QV K) := by
  refine x_wf (fun hw => ?_)
  refine x_aload_n (pc := 38) dM_init_38 rfl (q := 0) rfl ?_
  refine x_bipush (pc := 39) dM_init_39 (v := 8) rfl ?_
  refine x_newaB (pc := 41) dM_init_41 ak_24 (Or.inr (Or.inr (Or.inr ⟨rfl, rfl⟩))) (by decide) (by decide) (by decide) ac_boolean (b' := b') (by have := hb; (try dsimp only); omega) ?_
  refine x_putR (pc := 43) dM_init_43 kv0 flM_22 (Or.inr ⟨rfl, rfl, rfl⟩) (Or.inr ⟨_, rfl⟩) (by first | exact (nwk M.1.1.length 24 (by decide)) | (rw [(nwk M.1.1.length 24 (by decide))]; rfl)) (by decide) ?_
  exact h

theorem vM_init_46 {M : Mm} {b b' : Nat × Nat} (hb : b'.1 + 1 ≤ b.1 ∧ b'.2 + 25 ≤ b.2) {K : Mm → Prop} {v0 : Nat} (kv0 : v0 % 64 = 11) 
    (h : X mM_init 54 [(0, .ref v0)] [] (sr (nw M 23) v0 7 (some (64 * M.1.1.length + 23))) b' (QV K)) : X mM_init 46 [(0, .ref v0)] [] M b (QV K) := by
  refine x_wf (fun hw => ?_)
  refine x_aload_n (pc := 46) dM_init_46 rfl (q := 0) rfl ?_
  refine x_bipush (pc := 47) dM_init_47 (v := 25) rfl ?_
  refine x_newaB (pc := 49) dM_init_49 ak_23 (Or.inl ⟨rfl, rfl⟩) (by decide) (by decide) (by decide) ac_int (b' := b') (by have := hb; (try dsimp only); omega) ?_
  refine x_putR (pc := 51) dM_init_51 kv0 flM_26 (Or.inr ⟨rfl, rfl, rfl⟩) (Or.inr ⟨_, rfl⟩) (by first | exact (nwk M.1.1.length 23 (by decide)) | (rw [(nwk M.1.1.length 23 (by decide))]; rfl)) (by decide) ?_
  exact h

theorem vM_init_54 {M : Mm} {b b' : Nat × Nat} (hb : b'.1 + 1 ≤ b.1 ∧ b'.2 + 400 ≤ b.2) {K : Mm → Prop} {v0 : Nat} (kv0 : v0 % 64 = 11) 
    (h : X mM_init 70 [(0, .ref v0)] [] (sr (nw (si M v0 9 255) 22) v0 10 (some (64 * (si M v0 9 255).1.1.length + 22))) b' (QV K)) : X mM_init 54 [(0, .ref v0)] [] M b (QV K) := by
  refine x_wf (fun hw => ?_)
  refine x_aload_n (pc := 54) dM_init_54 rfl (q := 0) rfl ?_
  refine x_sipush (pc := 55) dM_init_55 (v := 255) rfl ?_
  refine x_putI (pc := 58) dM_init_58 kv0 flM_29 rfl rfl ?_
  refine x_aload_n (pc := 61) dM_init_61 rfl (q := 0) rfl ?_
  refine x_sipush (pc := 62) dM_init_62 (v := 400) rfl ?_
  refine x_newaB (pc := 65) dM_init_65 ak_22 (Or.inl ⟨rfl, rfl⟩) (by decide) (by decide) (by decide) ac_int (b' := b') (by have := hb; (try dsimp only); omega) ?_
  refine x_putR (pc := 67) dM_init_67 kv0 flM_33 (Or.inr ⟨rfl, rfl, rfl⟩) (Or.inr ⟨_, rfl⟩) (by first | exact (nwk (si M v0 9 255).1.1.length 22 (by decide)) | (rw [(nwk (si M v0 9 255).1.1.length 22 (by decide))]; rfl)) (by decide) ?_
  exact h

theorem vM_init_70 {M : Mm} {b b' : Nat × Nat} (hb : b'.1 + 1 ≤ b.1 ∧ b'.2 + 7 ≤ b.2) {K : Mm → Prop} {v0 : Nat} (kv0 : v0 % 64 = 11) 
    (h : X mM_init 78 [(0, .ref v0)] [] (sr (nw M 15) v0 18 (some (64 * M.1.1.length + 15))) b' (QV K)) : X mM_init 70 [(0, .ref v0)] [] M b (QV K) := by
  refine x_wf (fun hw => ?_)
  refine x_aload_n (pc := 70) dM_init_70 rfl (q := 0) rfl ?_
  refine x_bipush (pc := 71) dM_init_71 (v := 7) rfl ?_
  refine x_newaB (pc := 73) dM_init_73 ak_15 (Or.inl ⟨rfl, rfl⟩) (by decide) (by decide) (by decide) ac_int (b' := b') (by have := hb; (try dsimp only); omega) ?_
  refine x_putR (pc := 75) dM_init_75 kv0 flM_36 (Or.inr ⟨rfl, rfl, rfl⟩) (Or.inr ⟨_, rfl⟩) (by first | exact (nwk M.1.1.length 15 (by decide)) | (rw [(nwk M.1.1.length 15 (by decide))]; rfl)) (by decide) ?_
  exact h

theorem vM_init_78 {M : Mm} {b b' : Nat × Nat} (hb : b'.1 + 1 ≤ b.1 ∧ b'.2 + 7 ≤ b.2) {K : Mm → Prop} {v0 : Nat} (kv0 : v0 % 64 = 11) 
    (h : X mM_init 86 [(0, .ref v0)] [] (sr (nw M 15) v0 19 (some (64 * M.1.1.length + 15))) b' (QV K)) : X mM_init 78 [(0, .ref v0)] [] M b (QV K) := by
  refine x_wf (fun hw => ?_)
  refine x_aload_n (pc := 78) dM_init_78 rfl (q := 0) rfl ?_
  refine x_bipush (pc := 79) dM_init_79 (v := 7) rfl ?_
  refine x_newaB (pc := 81) dM_init_81 ak_15 (Or.inl ⟨rfl, rfl⟩) (by decide) (by decide) (by decide) ac_int (b' := b') (by have := hb; (try dsimp only); omega) ?_
  refine x_putR (pc := 83) dM_init_83 kv0 flM_39 (Or.inr ⟨rfl, rfl, rfl⟩) (Or.inr ⟨_, rfl⟩) (by first | exact (nwk M.1.1.length 15 (by decide)) | (rw [(nwk M.1.1.length 15 (by decide))]; rfl)) (by decide) ?_
  exact h

theorem vM_init_86 {M : Mm} {b b' : Nat × Nat} (hb : b'.1 + 1 ≤ b.1 ∧ b'.2 + 7 ≤ b.2) {K : Mm → Prop} {v0 : Nat} (kv0 : v0 % 64 = 11) 
    (h : X mM_init 94 [(0, .ref v0)] [] (sr (nw M 15) v0 20 (some (64 * M.1.1.length + 15))) b' (QV K)) : X mM_init 86 [(0, .ref v0)] [] M b (QV K) := by
  refine x_wf (fun hw => ?_)
  refine x_aload_n (pc := 86) dM_init_86 rfl (q := 0) rfl ?_
  refine x_bipush (pc := 87) dM_init_87 (v := 7) rfl ?_
  refine x_newaB (pc := 89) dM_init_89 ak_15 (Or.inl ⟨rfl, rfl⟩) (by decide) (by decide) (by decide) ac_int (b' := b') (by have := hb; (try dsimp only); omega) ?_
  refine x_putR (pc := 91) dM_init_91 kv0 flM_42 (Or.inr ⟨rfl, rfl, rfl⟩) (Or.inr ⟨_, rfl⟩) (by first | exact (nwk M.1.1.length 15 (by decide)) | (rw [(nwk M.1.1.length 15 (by decide))]; rfl)) (by decide) ?_
  exact h

theorem vM_init_94 {M : Mm} {b b' : Nat × Nat} (hb : b'.1 + 1 ≤ b.1 ∧ b'.2 + 7 ≤ b.2) {K : Mm → Prop} {v0 : Nat} (kv0 : v0 % 64 = 11) 
    (h : X mM_init 102 [(0, .ref v0)] [] (sr (nw M 25) v0 21 (some (64 * M.1.1.length + 25))) b' (QV K)) : X mM_init 94 [(0, .ref v0)] [] M b (QV K) := by
  refine x_wf (fun hw => ?_)
  refine x_aload_n (pc := 94) dM_init_94 rfl (q := 0) rfl ?_
  refine x_bipush (pc := 95) dM_init_95 (v := 7) rfl ?_
  refine x_newaB (pc := 97) dM_init_97 ak_25 (Or.inr (Or.inr (Or.inr ⟨rfl, rfl⟩))) (by decide) (by decide) (by decide) ac_boolean (b' := b') (by have := hb; (try dsimp only); omega) ?_
  refine x_putR (pc := 99) dM_init_99 kv0 flM_45 (Or.inr ⟨rfl, rfl, rfl⟩) (Or.inr ⟨_, rfl⟩) (by first | exact (nwk M.1.1.length 25 (by decide)) | (rw [(nwk M.1.1.length 25 (by decide))]; rfl)) (by decide) ?_
  exact h

theorem vM_init_102 {M : Mm} {b b' : Nat × Nat} (hb : b'.1 + 1 ≤ b.1 ∧ b'.2 + 25 ≤ b.2) {K : Mm → Prop} {v0 : Nat} (kv0 : v0 % 64 = 11) 
    (h : X mM_init 110 [(0, .ref v0)] [] (sr (nw M 23) v0 22 (some (64 * M.1.1.length + 23))) b' (QV K)) : X mM_init 102 [(0, .ref v0)] [] M b (QV K) := by
  refine x_wf (fun hw => ?_)
  refine x_aload_n (pc := 102) dM_init_102 rfl (q := 0) rfl ?_
  refine x_bipush (pc := 103) dM_init_103 (v := 25) rfl ?_
  refine x_newaB (pc := 105) dM_init_105 ak_23 (Or.inl ⟨rfl, rfl⟩) (by decide) (by decide) (by decide) ac_int (b' := b') (by have := hb; (try dsimp only); omega) ?_
  refine x_putR (pc := 107) dM_init_107 kv0 flM_48 (Or.inr ⟨rfl, rfl, rfl⟩) (Or.inr ⟨_, rfl⟩) (by first | exact (nwk M.1.1.length 23 (by decide)) | (rw [(nwk M.1.1.length 23 (by decide))]; rfl)) (by decide) ?_
  exact h

theorem vM_init_110 {M : Mm} {b b' : Nat × Nat} (hb : b'.1 + 1 ≤ b.1 ∧ b'.2 + 25 ≤ b.2) {K : Mm → Prop} {v0 : Nat} (kv0 : v0 % 64 = 11) 
    (h : X mM_init 118 [(0, .ref v0)] [] (sr (nw M 26) v0 25 (some (64 * M.1.1.length + 26))) b' (QV K)) : X mM_init 110 [(0, .ref v0)] [] M b (QV K) := by
  refine x_wf (fun hw => ?_)
  refine x_aload_n (pc := 110) dM_init_110 rfl (q := 0) rfl ?_
  refine x_bipush (pc := 111) dM_init_111 (v := 25) rfl ?_
  refine x_newaB (pc := 113) dM_init_113 ak_26 (Or.inr (Or.inl ⟨rfl, rfl⟩)) (by decide) (by decide) (by decide) ac_long (b' := b') (by have := hb; (try dsimp only); omega) ?_
  refine x_putR (pc := 115) dM_init_115 kv0 flM_51 (Or.inr ⟨rfl, rfl, rfl⟩) (Or.inr ⟨_, rfl⟩) (by first | exact (nwk M.1.1.length 26 (by decide)) | (rw [(nwk M.1.1.length 26 (by decide))]; rfl)) (by decide) ?_
  exact h

theorem vM_init_118 {M : Mm} {b b' : Nat × Nat} (hb : b'.1 + 1 ≤ b.1 ∧ b'.2 + 25 ≤ b.2) {K : Mm → Prop} {v0 : Nat} (kv0 : v0 % 64 = 11) 
    (h : X mM_init 126 [(0, .ref v0)] [] (sr (nw M 26) v0 26 (some (64 * M.1.1.length + 26))) b' (QV K)) : X mM_init 118 [(0, .ref v0)] [] M b (QV K) := by
  refine x_wf (fun hw => ?_)
  refine x_aload_n (pc := 118) dM_init_118 rfl (q := 0) rfl ?_
  refine x_bipush (pc := 119) dM_init_119 (v := 25) rfl ?_
  refine x_newaB (pc := 121) dM_init_121 ak_26 (Or.inr (Or.inl ⟨rfl, rfl⟩)) (by decide) (by decide) (by decide) ac_long (b' := b') (by have := hb; (try dsimp only); omega) ?_
  refine x_putR (pc := 123) dM_init_123 kv0 flM_55 (Or.inr ⟨rfl, rfl, rfl⟩) (Or.inr ⟨_, rfl⟩) (by first | exact (nwk M.1.1.length 26 (by decide)) | (rw [(nwk M.1.1.length 26 (by decide))]; rfl)) (by decide) ?_
  exact h

theorem vM_init_126 {M : Mm} {b b' : Nat × Nat} (hb : b'.1 + 1 ≤ b.1 ∧ b'.2 + 8 ≤ b.2) {K : Mm → Prop} {v0 : Nat} (kv0 : v0 % 64 = 11) 
    (h : X mM_init 134 [(0, .ref v0)] [] (sr (nw M 27) v0 27 (some (64 * M.1.1.length + 27))) b' (QV K)) : X mM_init 126 [(0, .ref v0)] [] M b (QV K) := by
  refine x_wf (fun hw => ?_)
  refine x_aload_n (pc := 126) dM_init_126 rfl (q := 0) rfl ?_
  refine x_bipush (pc := 127) dM_init_127 (v := 8) rfl ?_
  refine x_newaB (pc := 129) dM_init_129 ak_27 (Or.inr (Or.inl ⟨rfl, rfl⟩)) (by decide) (by decide) (by decide) ac_long (b' := b') (by have := hb; (try dsimp only); omega) ?_
  refine x_putR (pc := 131) dM_init_131 kv0 flM_58 (Or.inr ⟨rfl, rfl, rfl⟩) (Or.inr ⟨_, rfl⟩) (by first | exact (nwk M.1.1.length 27 (by decide)) | (rw [(nwk M.1.1.length 27 (by decide))]; rfl)) (by decide) ?_
  exact h

theorem vM_init_134 {M : Mm} {b b' : Nat × Nat} (hb : b'.1 + 1 ≤ b.1 ∧ b'.2 + 8 ≤ b.2) {K : Mm → Prop} {v0 : Nat} (kv0 : v0 % 64 = 11) 
    (h : X mM_init 142 [(0, .ref v0)] [] (sr (nw M 27) v0 28 (some (64 * M.1.1.length + 27))) b' (QV K)) : X mM_init 134 [(0, .ref v0)] [] M b (QV K) := by
  refine x_wf (fun hw => ?_)
  refine x_aload_n (pc := 134) dM_init_134 rfl (q := 0) rfl ?_
  refine x_bipush (pc := 135) dM_init_135 (v := 8) rfl ?_
  refine x_newaB (pc := 137) dM_init_137 ak_27 (Or.inr (Or.inl ⟨rfl, rfl⟩)) (by decide) (by decide) (by decide) ac_long (b' := b') (by have := hb; (try dsimp only); omega) ?_
  refine x_putR (pc := 139) dM_init_139 kv0 flM_61 (Or.inr ⟨rfl, rfl, rfl⟩) (Or.inr ⟨_, rfl⟩) (by first | exact (nwk M.1.1.length 27 (by decide)) | (rw [(nwk M.1.1.length 27 (by decide))]; rfl)) (by decide) ?_
  exact h

theorem vM_init_142 {M : Mm} {b b' : Nat × Nat} (hb : b'.1 + 1 ≤ b.1 ∧ b'.2 + 8 ≤ b.2) {K : Mm → Prop} {v0 : Nat} (kv0 : v0 % 64 = 11) 
    (h : X mM_init 150 [(0, .ref v0)] [] (sr (nw M 27) v0 29 (some (64 * M.1.1.length + 27))) b' (QV K)) : X mM_init 142 [(0, .ref v0)] [] M b (QV K) := by
  refine x_wf (fun hw => ?_)
  refine x_aload_n (pc := 142) dM_init_142 rfl (q := 0) rfl ?_
  refine x_bipush (pc := 143) dM_init_143 (v := 8) rfl ?_
  refine x_newaB (pc := 145) dM_init_145 ak_27 (Or.inr (Or.inl ⟨rfl, rfl⟩)) (by decide) (by decide) (by decide) ac_long (b' := b') (by have := hb; (try dsimp only); omega) ?_
  refine x_putR (pc := 147) dM_init_147 kv0 flM_64 (Or.inr ⟨rfl, rfl, rfl⟩) (Or.inr ⟨_, rfl⟩) (by first | exact (nwk M.1.1.length 27 (by decide)) | (rw [(nwk M.1.1.length 27 (by decide))]; rfl)) (by decide) ?_
  exact h

theorem vM_init_150 {M : Mm} {b b' : Nat × Nat} (hb : b'.1 + 1 ≤ b.1 ∧ b'.2 + 64 ≤ b.2) {K : Mm → Prop} {v0 : Nat} (kv0 : v0 % 64 = 11) 
    (h : X mM_init 158 [(0, .ref v0)] [] (sr (nw M 14) v0 30 (some (64 * M.1.1.length + 14))) b' (QV K)) : X mM_init 150 [(0, .ref v0)] [] M b (QV K) := by
  refine x_wf (fun hw => ?_)
  refine x_aload_n (pc := 150) dM_init_150 rfl (q := 0) rfl ?_
  refine x_bipush (pc := 151) dM_init_151 (v := 64) rfl ?_
  refine x_newaB (pc := 153) dM_init_153 ak_14 (Or.inl ⟨rfl, rfl⟩) (by decide) (by decide) (by decide) ac_int (b' := b') (by have := hb; (try dsimp only); omega) ?_
  refine x_putR (pc := 155) dM_init_155 kv0 flM_67 (Or.inr ⟨rfl, rfl, rfl⟩) (Or.inr ⟨_, rfl⟩) (by first | exact (nwk M.1.1.length 14 (by decide)) | (rw [(nwk M.1.1.length 14 (by decide))]; rfl)) (by decide) ?_
  exact h

theorem vM_init_158 {M : Mm} {b b' : Nat × Nat} (hb : b'.1 + 1 ≤ b.1 ∧ b'.2 + 64 ≤ b.2) {K : Mm → Prop} {v0 : Nat} (kv0 : v0 % 64 = 11) 
    (h : X mM_init 166 [(0, .ref v0)] [] (sr (nw M 14) v0 31 (some (64 * M.1.1.length + 14))) b' (QV K)) : X mM_init 158 [(0, .ref v0)] [] M b (QV K) := by
  refine x_wf (fun hw => ?_)
  refine x_aload_n (pc := 158) dM_init_158 rfl (q := 0) rfl ?_
  refine x_bipush (pc := 159) dM_init_159 (v := 64) rfl ?_
  refine x_newaB (pc := 161) dM_init_161 ak_14 (Or.inl ⟨rfl, rfl⟩) (by decide) (by decide) (by decide) ac_int (b' := b') (by have := hb; (try dsimp only); omega) ?_
  refine x_putR (pc := 163) dM_init_163 kv0 flM_70 (Or.inr ⟨rfl, rfl, rfl⟩) (Or.inr ⟨_, rfl⟩) (by first | exact (nwk M.1.1.length 14 (by decide)) | (rw [(nwk M.1.1.length 14 (by decide))]; rfl)) (by decide) ?_
  exact h

theorem vM_init_166 {M : Mm} {b b' : Nat × Nat} (hb : b'.1 + 1 ≤ b.1 ∧ b'.2 + 64 ≤ b.2) {K : Mm → Prop} {v0 : Nat} (kv0 : v0 % 64 = 11) 
    (h : X mM_init 174 [(0, .ref v0)] [] (sr (nw M 14) v0 32 (some (64 * M.1.1.length + 14))) b' (QV K)) : X mM_init 166 [(0, .ref v0)] [] M b (QV K) := by
  refine x_wf (fun hw => ?_)
  refine x_aload_n (pc := 166) dM_init_166 rfl (q := 0) rfl ?_
  refine x_bipush (pc := 167) dM_init_167 (v := 64) rfl ?_
  refine x_newaB (pc := 169) dM_init_169 ak_14 (Or.inl ⟨rfl, rfl⟩) (by decide) (by decide) (by decide) ac_int (b' := b') (by have := hb; (try dsimp only); omega) ?_
  refine x_putR (pc := 171) dM_init_171 kv0 flM_73 (Or.inr ⟨rfl, rfl, rfl⟩) (Or.inr ⟨_, rfl⟩) (by first | exact (nwk M.1.1.length 14 (by decide)) | (rw [(nwk M.1.1.length 14 (by decide))]; rfl)) (by decide) ?_
  exact h

theorem vM_init_174 {M : Mm} {b b' : Nat × Nat} (hb : b'.1 + 1 ≤ b.1 ∧ b'.2 + 64 ≤ b.2) {K : Mm → Prop} {v0 : Nat} (kv0 : v0 % 64 = 11) 
    (h : X mM_init 182 [(0, .ref v0)] [] (sr (nw M 14) v0 33 (some (64 * M.1.1.length + 14))) b' (QV K)) : X mM_init 174 [(0, .ref v0)] [] M b (QV K) := by
  refine x_wf (fun hw => ?_)
  refine x_aload_n (pc := 174) dM_init_174 rfl (q := 0) rfl ?_
  refine x_bipush (pc := 175) dM_init_175 (v := 64) rfl ?_
  refine x_newaB (pc := 177) dM_init_177 ak_14 (Or.inl ⟨rfl, rfl⟩) (by decide) (by decide) (by decide) ac_int (b' := b') (by have := hb; (try dsimp only); omega) ?_
  refine x_putR (pc := 179) dM_init_179 kv0 flM_76 (Or.inr ⟨rfl, rfl, rfl⟩) (Or.inr ⟨_, rfl⟩) (by first | exact (nwk M.1.1.length 14 (by decide)) | (rw [(nwk M.1.1.length 14 (by decide))]; rfl)) (by decide) ?_
  exact h

theorem vM_init_182 {M : Mm} {b b' : Nat × Nat} (hb : b'.1 + 1 ≤ b.1 ∧ b'.2 + 64 ≤ b.2) {K : Mm → Prop} {v0 : Nat} (kv0 : v0 % 64 = 11) 
    (h : X mM_init 190 [(0, .ref v0)] [] (sr (nw M 14) v0 34 (some (64 * M.1.1.length + 14))) b' (QV K)) : X mM_init 182 [(0, .ref v0)] [] M b (QV K) := by
  refine x_wf (fun hw => ?_)
  refine x_aload_n (pc := 182) dM_init_182 rfl (q := 0) rfl ?_
  refine x_bipush (pc := 183) dM_init_183 (v := 64) rfl ?_
  refine x_newaB (pc := 185) dM_init_185 ak_14 (Or.inl ⟨rfl, rfl⟩) (by decide) (by decide) (by decide) ac_int (b' := b') (by have := hb; (try dsimp only); omega) ?_
  refine x_putR (pc := 187) dM_init_187 kv0 flM_79 (Or.inr ⟨rfl, rfl, rfl⟩) (Or.inr ⟨_, rfl⟩) (by first | exact (nwk M.1.1.length 14 (by decide)) | (rw [(nwk M.1.1.length 14 (by decide))]; rfl)) (by decide) ?_
  exact h

theorem vM_init_190 {M : Mm} {b b' : Nat × Nat} (hb : b'.1 + 1 ≤ b.1 ∧ b'.2 + 64 ≤ b.2) {K : Mm → Prop} {v0 : Nat} (kv0 : v0 % 64 = 11) 
    (h : X mM_init 198 [(0, .ref v0)] [] (sr (nw M 14) v0 37 (some (64 * M.1.1.length + 14))) b' (QV K)) : X mM_init 190 [(0, .ref v0)] [] M b (QV K) := by
  refine x_wf (fun hw => ?_)
  refine x_aload_n (pc := 190) dM_init_190 rfl (q := 0) rfl ?_
  refine x_bipush (pc := 191) dM_init_191 (v := 64) rfl ?_
  refine x_newaB (pc := 193) dM_init_193 ak_14 (Or.inl ⟨rfl, rfl⟩) (by decide) (by decide) (by decide) ac_int (b' := b') (by have := hb; (try dsimp only); omega) ?_
  refine x_putR (pc := 195) dM_init_195 kv0 flM_82 (Or.inr ⟨rfl, rfl, rfl⟩) (Or.inr ⟨_, rfl⟩) (by first | exact (nwk M.1.1.length 14 (by decide)) | (rw [(nwk M.1.1.length 14 (by decide))]; rfl)) (by decide) ?_
  exact h

theorem vM_init_198 {M : Mm} {b b' : Nat × Nat} (hb : b'.1 + 1 ≤ b.1 ∧ b'.2 + 256 ≤ b.2) {K : Mm → Prop} {v0 : Nat} (kv0 : v0 % 64 = 11) 
    (h : X mM_init 207 [(0, .ref v0)] [] (sr (nw M 30) v0 38 (some (64 * M.1.1.length + 30))) b' (QV K)) : X mM_init 198 [(0, .ref v0)] [] M b (QV K) := by
  refine x_wf (fun hw => ?_)
  refine x_aload_n (pc := 198) dM_init_198 rfl (q := 0) rfl ?_
  refine x_sipush (pc := 199) dM_init_199 (v := 256) rfl ?_
  refine x_newaB (pc := 202) dM_init_202 ak_30 (Or.inl ⟨rfl, rfl⟩) (by decide) (by decide) (by decide) ac_int (b' := b') (by have := hb; (try dsimp only); omega) ?_
  refine x_putR (pc := 204) dM_init_204 kv0 flM_85 (Or.inr ⟨rfl, rfl, rfl⟩) (Or.inr ⟨_, rfl⟩) (by first | exact (nwk M.1.1.length 30 (by decide)) | (rw [(nwk M.1.1.length 30 (by decide))]; rfl)) (by decide) ?_
  exact h

theorem vM_init_207 {M : Mm} {b b' : Nat × Nat} (hb : b'.1 + 1 ≤ b.1 ∧ b'.2 + 4 ≤ b.2) {K : Mm → Prop} {v0 : Nat} (kv0 : v0 % 64 = 11) 
    (h : X mM_init 214 [(0, .ref v0)] [] (sr (nw M 28) v0 40 (some (64 * M.1.1.length + 28))) b' (QV K)) : X mM_init 207 [(0, .ref v0)] [] M b (QV K) := by
  refine x_wf (fun hw => ?_)
  refine x_aload_n (pc := 207) dM_init_207 rfl (q := 0) rfl ?_
  refine x_iconst (pc := 208) dM_init_208 (v := 4) rfl ?_
  refine x_newaB (pc := 209) dM_init_209 ak_28 (Or.inl ⟨rfl, rfl⟩) (by decide) (by decide) (by decide) ac_int (b' := b') (by have := hb; (try dsimp only); omega) ?_
  refine x_putR (pc := 211) dM_init_211 kv0 flM_88 (Or.inr ⟨rfl, rfl, rfl⟩) (Or.inr ⟨_, rfl⟩) (by first | exact (nwk M.1.1.length 28 (by decide)) | (rw [(nwk M.1.1.length 28 (by decide))]; rfl)) (by decide) ?_
  exact h

theorem vM_init_214 {M : Mm} {b b' : Nat × Nat} (hb : b'.1 + 1 ≤ b.1 ∧ b'.2 + 4 ≤ b.2) {K : Mm → Prop} {v0 : Nat} (kv0 : v0 % 64 = 11) 
    (h : X mM_init 221 [(0, .ref v0)] [] (sr (nw M 28) v0 41 (some (64 * M.1.1.length + 28))) b' (QV K)) : X mM_init 214 [(0, .ref v0)] [] M b (QV K) := by
  refine x_wf (fun hw => ?_)
  refine x_aload_n (pc := 214) dM_init_214 rfl (q := 0) rfl ?_
  refine x_iconst (pc := 215) dM_init_215 (v := 4) rfl ?_
  refine x_newaB (pc := 216) dM_init_216 ak_28 (Or.inl ⟨rfl, rfl⟩) (by decide) (by decide) (by decide) ac_int (b' := b') (by have := hb; (try dsimp only); omega) ?_
  refine x_putR (pc := 218) dM_init_218 kv0 flM_91 (Or.inr ⟨rfl, rfl, rfl⟩) (Or.inr ⟨_, rfl⟩) (by first | exact (nwk M.1.1.length 28 (by decide)) | (rw [(nwk M.1.1.length 28 (by decide))]; rfl)) (by decide) ?_
  exact h

theorem vM_init_221 {M : Mm} {b b' : Nat × Nat} (hb : b'.1 + 1 ≤ b.1 ∧ b'.2 + 160 ≤ b.2) {K : Mm → Prop} {v0 : Nat} (kv0 : v0 % 64 = 11) 
    (h : X mM_init 230 [(0, .ref v0)] [] (sr (nw M 29) v0 42 (some (64 * M.1.1.length + 29))) b' (QV K)) : X mM_init 221 [(0, .ref v0)] [] M b (QV K) := by
  refine x_wf (fun hw => ?_)
  refine x_aload_n (pc := 221) dM_init_221 rfl (q := 0) rfl ?_
  refine x_sipush (pc := 222) dM_init_222 (v := 160) rfl ?_
  refine x_newaB (pc := 225) dM_init_225 ak_29 (Or.inl ⟨rfl, rfl⟩) (by decide) (by decide) (by decide) ac_int (b' := b') (by have := hb; (try dsimp only); omega) ?_
  refine x_putR (pc := 227) dM_init_227 kv0 flM_94 (Or.inr ⟨rfl, rfl, rfl⟩) (Or.inr ⟨_, rfl⟩) (by first | exact (nwk M.1.1.length 29 (by decide)) | (rw [(nwk M.1.1.length 29 (by decide))]; rfl)) (by decide) ?_
  exact h

theorem vM_init_230 {M : Mm} {b : Nat × Nat} {K : Mm → Prop} {v0 : Nat}  
    (h : X mM_init 232 [(0, .ref v0), (1, .int 0)] [] M b (QV K)) : X mM_init 230 [(0, .ref v0)] [] M b (QV K) := by
  refine x_wf (fun hw => ?_)
  refine x_iconst (pc := 230) dM_init_230 (v := 0) rfl ?_
  refine x_istore_n (pc := 231) dM_init_231 rfl (by decide) (L' := [(1, .int 0), (0, .ref v0)]) rfl ?_
  exact x_loc [1, 0] rfl h

theorem vM_init_232 {M : Mm} {b : Nat × Nat} {K : Mm → Prop} {v0 : Nat} {v1 : Int32} {r1 : Nat} (kv0 : v0 % 64 = 11) (e1 : gr M v0 40 = some r1)
    (h : (4 ≤ v1 → (CV mM_firstLibrary [.ref v0] M (fun N => X mM_init 255 [(0, .ref v0)] [] N b (QV K)))) ∧ (¬ 4 ≤ v1 → (vp_in v1 4 ∧ (X mM_init 232 [(0, .ref v0), (1, .int (v1 + 1))] [] (si M r1 (v1).toNatClampNeg (-4)) b (QV K))))) : X mM_init 232 [(0, .ref v0), (1, .int v1)] [] M b (QV K) := by
  refine x_wf (fun hw => ?_)
  refine x_iload_n (pc := 232) dM_init_232 rfl (q := 1) rfl ?_
  refine x_iconst (pc := 233) dM_init_233 (v := 4) rfl ?_
  obtain ⟨g1_0, g1_1⟩ := h
  refine x_icmp_ge (pc := 234) dM_init_234 (t := 251) rfl (fun q1 => ?_) (fun q1 => ?_)
  · refine x_aload_n (pc := 251) dM_init_251 rfl (q := 0) rfl ?_
    have h := g1_0 q1
    exact x_invV (pc := 252) dM_init_252 (c := 11) (S := []) (As := []) mlM_97 hM_firstLibrary rfl (by decide) rfl kv0 ⟨by decide, by decide⟩ ⟨Nat.zero_le _, Nat.zero_le _⟩ rfl (Nat.le_of_ble_eq_true rfl) (aftV (b' := b) ⟨Nat.le_refl _, Nat.le_refl _⟩ (fun N h => x_loc [0] rfl h) h)
  · refine x_aload_n (pc := 237) dM_init_237 rfl (q := 0) rfl ?_
    refine x_getR (pc := 238) dM_init_238 kv0 flM_88 rfl e1 ?_
    refine x_iload_n (pc := 241) dM_init_241 rfl (q := 1) rfl ?_
    refine x_bipush (pc := 242) dM_init_242 (v := (-4)) rfl ?_
    have h := g1_1 q1
    obtain ⟨s501, h⟩ := h
    refine x_astIj (pc := 244) (j := (v1).toNatClampNeg) (v := (-4)) (Or.inl ⟨rfl, rfl, rfl⟩) dM_init_244 (wfk hw e1 kv0) ak_28 rfl s501 ?_
    refine x_iinc (pc := 245) dM_init_245 (q := 1) rfl (v := v1 + 1) rfl (by decide) (L' := [(1, .int (v1 + 1)), (0, .ref v0)]) rfl ?_
    refine x_goto (pc := 248) dM_init_248 (t := 232) rfl ?_
    exact x_loc [1, 0] rfl h

theorem vM_init_255 {M : Mm} {b : Nat × Nat} {K : Mm → Prop} {v0 : Nat} (kv0 : v0 % 64 = 11) 
    (h : CV mM_keepLibrary [.ref v0] M (fun N => X mM_init 259 [(0, .ref v0)] [] N b (QV K))) : X mM_init 255 [(0, .ref v0)] [] M b (QV K) := by
  refine x_wf (fun hw => ?_)
  refine x_aload_n (pc := 255) dM_init_255 rfl (q := 0) rfl ?_
  exact x_invV (pc := 256) dM_init_256 (c := 11) (S := []) (As := []) mlM_100 hM_keepLibrary rfl (by decide) rfl kv0 ⟨by decide, by decide⟩ ⟨Nat.zero_le _, Nat.zero_le _⟩ rfl (Nat.le_of_ble_eq_true rfl) (aftV (b' := b) ⟨Nat.le_refl _, Nat.le_refl _⟩ (fun N h => h) h)

theorem vM_init_259 {M : Mm} {b : Nat × Nat} {K : Mm → Prop} {v0 : Nat} (kv0 : v0 % 64 = 11) 
    (h : CV mM_firstRule [.ref v0] M (fun N => X mM_init 263 [(0, .ref v0)] [] N b (QV K))) : X mM_init 259 [(0, .ref v0)] [] M b (QV K) := by
  refine x_wf (fun hw => ?_)
  refine x_aload_n (pc := 259) dM_init_259 rfl (q := 0) rfl ?_
  exact x_invV (pc := 260) dM_init_260 (c := 11) (S := []) (As := []) mlM_103 hM_firstRule rfl (by decide) rfl kv0 ⟨by decide, by decide⟩ ⟨Nat.zero_le _, Nat.zero_le _⟩ rfl (Nat.le_of_ble_eq_true rfl) (aftV (b' := b) ⟨Nat.le_refl _, Nat.le_refl _⟩ (fun N h => h) h)

theorem vM_init_263 {M : Mm} {b : Nat × Nat} {K : Mm → Prop} {v0 : Nat}  
    (h : X mM_init 265 [(0, .ref v0), (1, .int 0)] [] M b (QV K)) : X mM_init 263 [(0, .ref v0)] [] M b (QV K) := by
  refine x_wf (fun hw => ?_)
  refine x_iconst (pc := 263) dM_init_263 (v := 0) rfl ?_
  refine x_istore_n (pc := 264) dM_init_264 rfl (by decide) (L' := [(1, .int 0), (0, .ref v0)]) rfl ?_
  exact x_loc [1, 0] rfl h

theorem vM_init_265 {M : Mm} {b : Nat × Nat} {K : Mm → Prop} {v0 : Nat} {v1 : Int32} {r1 : Nat} {r2 : Nat} {r3 : Nat} (kv0 : v0 % 64 = 11) (e1 : gr M v0 18 = some r1) (e2 : gr M v0 20 = some r2) (e3 : gr M v0 19 = some r3)
    (h : (¬ 7 ≤ v1 → vp_in v1 7) ∧ (7 ≤ v1 → (K M)) ∧ (¬ 7 ≤ v1 → (vp_in v1 7 ∧ (vp_in v1 7 ∧ (vp_in v1 7 ∧ (X mM_init 265 [(0, .ref v0), (1, .int (v1 + 1))] [] (si (si M r1 (v1).toNatClampNeg (gi M r2 (v1).toNatClampNeg)) r3 (v1).toNatClampNeg (gi (si M r1 (v1).toNatClampNeg (gi M r2 (v1).toNatClampNeg)) r2 (v1).toNatClampNeg)) b (QV K))))))) : X mM_init 265 [(0, .ref v0), (1, .int v1)] [] M b (QV K) := by
  refine x_wf (fun hw => ?_)
  refine x_iload_n (pc := 265) dM_init_265 rfl (q := 1) rfl ?_
  refine x_bipush (pc := 266) dM_init_266 (v := 7) rfl ?_
  obtain ⟨s1, g1_0, g1_1⟩ := h
  refine x_icmp_ge (pc := 268) dM_init_268 (t := 301) rfl (fun q1 => ?_) (fun q1 => ?_)
  · have h := g1_0 q1
    exact x_retQV (pc := 301) dM_init_301 rfl h
  · refine x_aload_n (pc := 271) dM_init_271 rfl (q := 0) rfl ?_
    refine x_getR (pc := 272) dM_init_272 kv0 flM_36 rfl e1 ?_
    refine x_iload_n (pc := 275) dM_init_275 rfl (q := 1) rfl ?_
    refine x_aload_n (pc := 276) dM_init_276 rfl (q := 0) rfl ?_
    refine x_getR (pc := 277) dM_init_277 kv0 flM_42 rfl e2 ?_
    refine x_iload_n (pc := 280) dM_init_280 rfl (q := 1) rfl ?_
    refine x_aldIj (pc := 281) (j := (v1).toNatClampNeg) (Or.inl ⟨rfl, rfl⟩) dM_init_281 (wfk hw e2 kv0) ak_15 rfl (s1 q1) ?_
    have h := g1_1 q1
    obtain ⟨s502, h⟩ := h
    refine x_astIj (pc := 282) (j := (v1).toNatClampNeg) (v := gi M r2 (v1).toNatClampNeg) (Or.inl ⟨rfl, rfl, rfl⟩) dM_init_282 (wfk hw e1 kv0) ak_15 rfl s502 ?_
    refine x_aload_n (pc := 283) dM_init_283 rfl (q := 0) rfl ?_
    refine x_getR (pc := 284) dM_init_284 kv0 flM_39 rfl e3 ?_
    refine x_iload_n (pc := 287) dM_init_287 rfl (q := 1) rfl ?_
    refine x_aload_n (pc := 288) dM_init_288 rfl (q := 0) rfl ?_
    refine x_getR (pc := 289) dM_init_289 kv0 flM_42 rfl e2 ?_
    refine x_iload_n (pc := 292) dM_init_292 rfl (q := 1) rfl ?_
    obtain ⟨s503, h⟩ := h
    refine x_aldIj (pc := 293) (j := (v1).toNatClampNeg) (Or.inl ⟨rfl, rfl⟩) dM_init_293 (wfk hw e2 kv0) ak_15 rfl s503 ?_
    obtain ⟨s504, h⟩ := h
    refine x_astIj (pc := 294) (j := (v1).toNatClampNeg) (v := gi (si M r1 (v1).toNatClampNeg (gi M r2 (v1).toNatClampNeg)) r2 (v1).toNatClampNeg) (Or.inl ⟨rfl, rfl, rfl⟩) dM_init_294 (wfk hw e3 kv0) ak_15 rfl s504 ?_
    refine x_iinc (pc := 295) dM_init_295 (q := 1) rfl (v := v1 + 1) rfl (by decide) (L' := [(1, .int (v1 + 1)), (0, .ref v0)]) rfl ?_
    refine x_goto (pc := 298) dM_init_298 (t := 265) rfl ?_
    exact x_loc [1, 0] rfl h

theorem dM_firstLibrary_0 : decode (mB mM_firstLibrary) 0 = .ok (.aload_n 0, 1) := op42 (by decide +kernel)
theorem dM_firstLibrary_1 : decode (mB mM_firstLibrary) 1 = .ok (.iconst 0, 1) := op3 (by decide +kernel)
theorem dM_firstLibrary_2 : decode (mB mM_firstLibrary) 2 = .ok (.putfield 106, 3) := op181 0 106 (by decide +kernel)
theorem dM_firstLibrary_5 : decode (mB mM_firstLibrary) 5 = .ok (.aload_n 0, 1) := op42 (by decide +kernel)
theorem dM_firstLibrary_6 : decode (mB mM_firstLibrary) 6 = .ok (.iconst 0, 1) := op3 (by decide +kernel)
theorem dM_firstLibrary_7 : decode (mB mM_firstLibrary) 7 = .ok (.putfield 109, 3) := op181 0 109 (by decide +kernel)
theorem dM_firstLibrary_10 : decode (mB mM_firstLibrary) 10 = .ok (.iconst 0, 1) := op3 (by decide +kernel)
theorem dM_firstLibrary_11 : decode (mB mM_firstLibrary) 11 = .ok (.istore_n 1, 1) := op60 (by decide +kernel)
theorem dM_firstLibrary_12 : decode (mB mM_firstLibrary) 12 = .ok (.iload_n 1, 1) := op27 (by decide +kernel)
theorem dM_firstLibrary_13 : decode (mB mM_firstLibrary) 13 = .ok (.bipush 8, 2) := op16 8 (by decide +kernel)
theorem dM_firstLibrary_15 : decode (mB mM_firstLibrary) 15 = .ok (.if_icmp .ge 23, 3) := op162 0 23 (by decide +kernel)
theorem dM_firstLibrary_18 : decode (mB mM_firstLibrary) 18 = .ok (.aload_n 0, 1) := op42 (by decide +kernel)
theorem dM_firstLibrary_19 : decode (mB mM_firstLibrary) 19 = .ok (.getfield 19, 3) := op180 0 19 (by decide +kernel)
theorem dM_firstLibrary_22 : decode (mB mM_firstLibrary) 22 = .ok (.iload_n 1, 1) := op27 (by decide +kernel)
theorem dM_firstLibrary_23 : decode (mB mM_firstLibrary) 23 = .ok (.iconst 2, 1) := op5 (by decide +kernel)
theorem dM_firstLibrary_24 : decode (mB mM_firstLibrary) 24 = .ok (.iastore, 1) := op79 (by decide +kernel)
theorem dM_firstLibrary_25 : decode (mB mM_firstLibrary) 25 = .ok (.aload_n 0, 1) := op42 (by decide +kernel)
theorem dM_firstLibrary_26 : decode (mB mM_firstLibrary) 26 = .ok (.getfield 22, 3) := op180 0 22 (by decide +kernel)
theorem dM_firstLibrary_29 : decode (mB mM_firstLibrary) 29 = .ok (.iload_n 1, 1) := op27 (by decide +kernel)
theorem dM_firstLibrary_30 : decode (mB mM_firstLibrary) 30 = .ok (.iconst 0, 1) := op3 (by decide +kernel)
theorem dM_firstLibrary_31 : decode (mB mM_firstLibrary) 31 = .ok (.bastore, 1) := op84 (by decide +kernel)
theorem dM_firstLibrary_32 : decode (mB mM_firstLibrary) 32 = .ok (.iinc 1 1, 3) := op132 1 1 (by decide +kernel)
theorem dM_firstLibrary_35 : decode (mB mM_firstLibrary) 35 = .ok (.goto (-23), 3) := op167 255 233 (by decide +kernel)
theorem dM_firstLibrary_38 : decode (mB mM_firstLibrary) 38 = .ok (.return_, 1) := op177 (by decide +kernel)

theorem vM_firstLibrary_0 {M : Mm} {b : Nat × Nat} {K : Mm → Prop} {v0 : Nat} (kv0 : v0 % 64 = 11) 
    (h : X mM_firstLibrary 12 [(0, .ref v0), (1, .int 0)] [] (si (si M v0 3 0) v0 8 0) b (QV K)) : X mM_firstLibrary 0 [(0, .ref v0)] [] M b (QV K) := by
  refine x_wf (fun hw => ?_)
  refine x_aload_n (pc := 0) dM_firstLibrary_0 rfl (q := 0) rfl ?_
  refine x_iconst (pc := 1) dM_firstLibrary_1 (v := 0) rfl ?_
  refine x_putI (pc := 2) dM_firstLibrary_2 kv0 flM_106 rfl rfl ?_
  refine x_aload_n (pc := 5) dM_firstLibrary_5 rfl (q := 0) rfl ?_
  refine x_iconst (pc := 6) dM_firstLibrary_6 (v := 0) rfl ?_
  refine x_putI (pc := 7) dM_firstLibrary_7 kv0 flM_109 rfl rfl ?_
  refine x_iconst (pc := 10) dM_firstLibrary_10 (v := 0) rfl ?_
  refine x_istore_n (pc := 11) dM_firstLibrary_11 rfl (by decide) (L' := [(1, .int 0), (0, .ref v0)]) rfl ?_
  exact x_loc [1, 0] rfl h

theorem vM_firstLibrary_12 {M : Mm} {b : Nat × Nat} {K : Mm → Prop} {v0 : Nat} {v1 : Int32} {r1 : Nat} {r2 : Nat} (kv0 : v0 % 64 = 11) (e1 : gr M v0 5 = some r1) (e2 : gr M v0 6 = some r2)
    (h : (8 ≤ v1 → (K M)) ∧ (¬ 8 ≤ v1 → (vp_in v1 8 ∧ (vp_in v1 8 ∧ (X mM_firstLibrary 12 [(0, .ref v0), (1, .int (v1 + 1))] [] (si (si M r1 (v1).toNatClampNeg 2) r2 (v1).toNatClampNeg (vp_nar .boolean 0)) b (QV K)))))) : X mM_firstLibrary 12 [(0, .ref v0), (1, .int v1)] [] M b (QV K) := by
  refine x_wf (fun hw => ?_)
  refine x_iload_n (pc := 12) dM_firstLibrary_12 rfl (q := 1) rfl ?_
  refine x_bipush (pc := 13) dM_firstLibrary_13 (v := 8) rfl ?_
  obtain ⟨g1_0, g1_1⟩ := h
  refine x_icmp_ge (pc := 15) dM_firstLibrary_15 (t := 38) rfl (fun q1 => ?_) (fun q1 => ?_)
  · have h := g1_0 q1
    exact x_retQV (pc := 38) dM_firstLibrary_38 rfl h
  · refine x_aload_n (pc := 18) dM_firstLibrary_18 rfl (q := 0) rfl ?_
    refine x_getR (pc := 19) dM_firstLibrary_19 kv0 flM_19 rfl e1 ?_
    refine x_iload_n (pc := 22) dM_firstLibrary_22 rfl (q := 1) rfl ?_
    refine x_iconst (pc := 23) dM_firstLibrary_23 (v := 2) rfl ?_
    have h := g1_1 q1
    obtain ⟨s501, h⟩ := h
    refine x_astIj (pc := 24) (j := (v1).toNatClampNeg) (v := 2) (Or.inl ⟨rfl, rfl, rfl⟩) dM_firstLibrary_24 (wfk hw e1 kv0) ak_13 rfl s501 ?_
    refine x_aload_n (pc := 25) dM_firstLibrary_25 rfl (q := 0) rfl ?_
    refine x_getR (pc := 26) dM_firstLibrary_26 kv0 flM_22 rfl e2 ?_
    refine x_iload_n (pc := 29) dM_firstLibrary_29 rfl (q := 1) rfl ?_
    refine x_iconst (pc := 30) dM_firstLibrary_30 (v := 0) rfl ?_
    obtain ⟨s502, h⟩ := h
    refine x_astIj (pc := 31) (j := (v1).toNatClampNeg) (v := vp_nar .boolean 0) (Or.inr (Or.inr ⟨rfl, rfl, rfl⟩)) dM_firstLibrary_31 (wfk hw e2 kv0) ak_24 rfl s502 ?_
    refine x_iinc (pc := 32) dM_firstLibrary_32 (q := 1) rfl (v := v1 + 1) rfl (by decide) (L' := [(1, .int (v1 + 1)), (0, .ref v0)]) rfl ?_
    refine x_goto (pc := 35) dM_firstLibrary_35 (t := 12) rfl ?_
    exact x_loc [1, 0] rfl h

theorem dM_keepLibrary_0 : decode (mB mM_keepLibrary) 0 = .ok (.aload_n 0, 1) := op42 (by decide +kernel)
theorem dM_keepLibrary_1 : decode (mB mM_keepLibrary) 1 = .ok (.aload_n 0, 1) := op42 (by decide +kernel)
theorem dM_keepLibrary_2 : decode (mB mM_keepLibrary) 2 = .ok (.getfield 106, 3) := op180 0 106 (by decide +kernel)
theorem dM_keepLibrary_5 : decode (mB mM_keepLibrary) 5 = .ok (.putfield 112, 3) := op181 0 112 (by decide +kernel)
theorem dM_keepLibrary_8 : decode (mB mM_keepLibrary) 8 = .ok (.iconst 0, 1) := op3 (by decide +kernel)
theorem dM_keepLibrary_9 : decode (mB mM_keepLibrary) 9 = .ok (.istore_n 1, 1) := op60 (by decide +kernel)
theorem dM_keepLibrary_10 : decode (mB mM_keepLibrary) 10 = .ok (.iload_n 1, 1) := op27 (by decide +kernel)
theorem dM_keepLibrary_11 : decode (mB mM_keepLibrary) 11 = .ok (.sipush 250, 3) := op17 0 250 (by decide +kernel)
theorem dM_keepLibrary_14 : decode (mB mM_keepLibrary) 14 = .ok (.if_icmp .ge 21, 3) := op162 0 21 (by decide +kernel)
theorem dM_keepLibrary_17 : decode (mB mM_keepLibrary) 17 = .ok (.aload_n 0, 1) := op42 (by decide +kernel)
theorem dM_keepLibrary_18 : decode (mB mM_keepLibrary) 18 = .ok (.getfield 7, 3) := op180 0 7 (by decide +kernel)
theorem dM_keepLibrary_21 : decode (mB mM_keepLibrary) 21 = .ok (.iload_n 1, 1) := op27 (by decide +kernel)
theorem dM_keepLibrary_22 : decode (mB mM_keepLibrary) 22 = .ok (.aload_n 0, 1) := op42 (by decide +kernel)
theorem dM_keepLibrary_23 : decode (mB mM_keepLibrary) 23 = .ok (.getfield 16, 3) := op180 0 16 (by decide +kernel)
theorem dM_keepLibrary_26 : decode (mB mM_keepLibrary) 26 = .ok (.iload_n 1, 1) := op27 (by decide +kernel)
theorem dM_keepLibrary_27 : decode (mB mM_keepLibrary) 27 = .ok (.iaload, 1) := op46 (by decide +kernel)
theorem dM_keepLibrary_28 : decode (mB mM_keepLibrary) 28 = .ok (.iastore, 1) := op79 (by decide +kernel)
theorem dM_keepLibrary_29 : decode (mB mM_keepLibrary) 29 = .ok (.iinc 1 1, 3) := op132 1 1 (by decide +kernel)
theorem dM_keepLibrary_32 : decode (mB mM_keepLibrary) 32 = .ok (.goto (-22), 3) := op167 255 234 (by decide +kernel)
theorem dM_keepLibrary_35 : decode (mB mM_keepLibrary) 35 = .ok (.iconst 0, 1) := op3 (by decide +kernel)
theorem dM_keepLibrary_36 : decode (mB mM_keepLibrary) 36 = .ok (.istore_n 1, 1) := op60 (by decide +kernel)
theorem dM_keepLibrary_37 : decode (mB mM_keepLibrary) 37 = .ok (.iload_n 1, 1) := op27 (by decide +kernel)
theorem dM_keepLibrary_38 : decode (mB mM_keepLibrary) 38 = .ok (.bipush 8, 2) := op16 8 (by decide +kernel)
theorem dM_keepLibrary_40 : decode (mB mM_keepLibrary) 40 = .ok (.if_icmp .ge 21, 3) := op162 0 21 (by decide +kernel)
theorem dM_keepLibrary_43 : decode (mB mM_keepLibrary) 43 = .ok (.aload_n 0, 1) := op42 (by decide +kernel)
theorem dM_keepLibrary_44 : decode (mB mM_keepLibrary) 44 = .ok (.getfield 13, 3) := op180 0 13 (by decide +kernel)
theorem dM_keepLibrary_47 : decode (mB mM_keepLibrary) 47 = .ok (.iload_n 1, 1) := op27 (by decide +kernel)
theorem dM_keepLibrary_48 : decode (mB mM_keepLibrary) 48 = .ok (.aload_n 0, 1) := op42 (by decide +kernel)
theorem dM_keepLibrary_49 : decode (mB mM_keepLibrary) 49 = .ok (.getfield 19, 3) := op180 0 19 (by decide +kernel)
theorem dM_keepLibrary_52 : decode (mB mM_keepLibrary) 52 = .ok (.iload_n 1, 1) := op27 (by decide +kernel)
theorem dM_keepLibrary_53 : decode (mB mM_keepLibrary) 53 = .ok (.iaload, 1) := op46 (by decide +kernel)
theorem dM_keepLibrary_54 : decode (mB mM_keepLibrary) 54 = .ok (.iastore, 1) := op79 (by decide +kernel)
theorem dM_keepLibrary_55 : decode (mB mM_keepLibrary) 55 = .ok (.iinc 1 1, 3) := op132 1 1 (by decide +kernel)
theorem dM_keepLibrary_58 : decode (mB mM_keepLibrary) 58 = .ok (.goto (-21), 3) := op167 255 235 (by decide +kernel)
theorem dM_keepLibrary_61 : decode (mB mM_keepLibrary) 61 = .ok (.aload_n 0, 1) := op42 (by decide +kernel)
theorem dM_keepLibrary_62 : decode (mB mM_keepLibrary) 62 = .ok (.sipush 255, 3) := op17 0 255 (by decide +kernel)
theorem dM_keepLibrary_65 : decode (mB mM_keepLibrary) 65 = .ok (.putfield 29, 3) := op181 0 29 (by decide +kernel)
theorem dM_keepLibrary_68 : decode (mB mM_keepLibrary) 68 = .ok (.aload_n 0, 1) := op42 (by decide +kernel)
theorem dM_keepLibrary_69 : decode (mB mM_keepLibrary) 69 = .ok (.invokevirtual 115, 3) := op182 0 115 (by decide +kernel)
theorem dM_keepLibrary_72 : decode (mB mM_keepLibrary) 72 = .ok (.aload_n 0, 1) := op42 (by decide +kernel)
theorem dM_keepLibrary_73 : decode (mB mM_keepLibrary) 73 = .ok (.invokevirtual 118, 3) := op182 0 118 (by decide +kernel)
theorem dM_keepLibrary_76 : decode (mB mM_keepLibrary) 76 = .ok (.return_, 1) := op177 (by decide +kernel)

theorem vM_keepLibrary_0 {M : Mm} {b : Nat × Nat} {K : Mm → Prop} {v0 : Nat} (kv0 : v0 % 64 = 11) 
    (h : X mM_keepLibrary 10 [(0, .ref v0), (1, .int 0)] [] (si M v0 0 (gi M v0 3)) b (QV K)) : X mM_keepLibrary 0 [(0, .ref v0)] [] M b (QV K) := by
  refine x_wf (fun hw => ?_)
  refine x_aload_n (pc := 0) dM_keepLibrary_0 rfl (q := 0) rfl ?_
  refine x_aload_n (pc := 1) dM_keepLibrary_1 rfl (q := 0) rfl ?_
  refine x_getI (pc := 2) dM_keepLibrary_2 kv0 flM_106 rfl ?_
  refine x_putI (pc := 5) dM_keepLibrary_5 kv0 flM_112 rfl rfl ?_
  refine x_iconst (pc := 8) dM_keepLibrary_8 (v := 0) rfl ?_
  refine x_istore_n (pc := 9) dM_keepLibrary_9 rfl (by decide) (L' := [(1, .int 0), (0, .ref v0)]) rfl ?_
  exact x_loc [1, 0] rfl h

theorem vM_keepLibrary_10 {M : Mm} {b : Nat × Nat} {K : Mm → Prop} {v0 : Nat} {v1 : Int32} {r1 : Nat} {r2 : Nat} (kv0 : v0 % 64 = 11) (e1 : gr M v0 1 = some r1) (e2 : gr M v0 4 = some r2)
    (h : (¬ 250 ≤ v1 → vp_in v1 250) ∧ (250 ≤ v1 → (X mM_keepLibrary 37 [(0, .ref v0), (1, .int 0)] [] M b (QV K))) ∧ (¬ 250 ≤ v1 → (vp_in v1 250 ∧ (X mM_keepLibrary 10 [(0, .ref v0), (1, .int (v1 + 1))] [] (si M r1 (v1).toNatClampNeg (gi M r2 (v1).toNatClampNeg)) b (QV K))))) : X mM_keepLibrary 10 [(0, .ref v0), (1, .int v1)] [] M b (QV K) := by
  refine x_wf (fun hw => ?_)
  refine x_iload_n (pc := 10) dM_keepLibrary_10 rfl (q := 1) rfl ?_
  refine x_sipush (pc := 11) dM_keepLibrary_11 (v := 250) rfl ?_
  obtain ⟨s1, g1_0, g1_1⟩ := h
  refine x_icmp_ge (pc := 14) dM_keepLibrary_14 (t := 35) rfl (fun q1 => ?_) (fun q1 => ?_)
  · refine x_iconst (pc := 35) dM_keepLibrary_35 (v := 0) rfl ?_
    have h := g1_0 q1
    refine x_istore_n (pc := 36) dM_keepLibrary_36 rfl (by decide) (L' := [(1, .int 0), (0, .ref v0)]) rfl ?_
    exact x_loc [1, 0] rfl h
  · refine x_aload_n (pc := 17) dM_keepLibrary_17 rfl (q := 0) rfl ?_
    refine x_getR (pc := 18) dM_keepLibrary_18 kv0 flM_7 rfl e1 ?_
    refine x_iload_n (pc := 21) dM_keepLibrary_21 rfl (q := 1) rfl ?_
    refine x_aload_n (pc := 22) dM_keepLibrary_22 rfl (q := 0) rfl ?_
    refine x_getR (pc := 23) dM_keepLibrary_23 kv0 flM_16 rfl e2 ?_
    refine x_iload_n (pc := 26) dM_keepLibrary_26 rfl (q := 1) rfl ?_
    refine x_aldIj (pc := 27) (j := (v1).toNatClampNeg) (Or.inl ⟨rfl, rfl⟩) dM_keepLibrary_27 (wfk hw e2 kv0) ak_21 rfl (s1 q1) ?_
    have h := g1_1 q1
    obtain ⟨s502, h⟩ := h
    refine x_astIj (pc := 28) (j := (v1).toNatClampNeg) (v := gi M r2 (v1).toNatClampNeg) (Or.inl ⟨rfl, rfl, rfl⟩) dM_keepLibrary_28 (wfk hw e1 kv0) ak_21 rfl s502 ?_
    refine x_iinc (pc := 29) dM_keepLibrary_29 (q := 1) rfl (v := v1 + 1) rfl (by decide) (L' := [(1, .int (v1 + 1)), (0, .ref v0)]) rfl ?_
    refine x_goto (pc := 32) dM_keepLibrary_32 (t := 10) rfl ?_
    exact x_loc [1, 0] rfl h

theorem vM_keepLibrary_37 {M : Mm} {b : Nat × Nat} {K : Mm → Prop} {v0 : Nat} {v1 : Int32} {r1 : Nat} {r2 : Nat} (kv0 : v0 % 64 = 11) (e1 : gr M v0 2 = some r1) (e2 : gr M v0 5 = some r2)
    (h : (¬ 8 ≤ v1 → vp_in v1 8) ∧ (8 ≤ v1 → (CV mM_findFollowing [.ref v0] (si M v0 9 255) (fun N => X mM_keepLibrary 72 [(0, .ref v0)] [] N b (QV K)))) ∧ (¬ 8 ≤ v1 → (vp_in v1 8 ∧ (X mM_keepLibrary 37 [(0, .ref v0), (1, .int (v1 + 1))] [] (si M r1 (v1).toNatClampNeg (gi M r2 (v1).toNatClampNeg)) b (QV K))))) : X mM_keepLibrary 37 [(0, .ref v0), (1, .int v1)] [] M b (QV K) := by
  refine x_wf (fun hw => ?_)
  refine x_iload_n (pc := 37) dM_keepLibrary_37 rfl (q := 1) rfl ?_
  refine x_bipush (pc := 38) dM_keepLibrary_38 (v := 8) rfl ?_
  obtain ⟨s1, g1_0, g1_1⟩ := h
  refine x_icmp_ge (pc := 40) dM_keepLibrary_40 (t := 61) rfl (fun q1 => ?_) (fun q1 => ?_)
  · refine x_aload_n (pc := 61) dM_keepLibrary_61 rfl (q := 0) rfl ?_
    refine x_sipush (pc := 62) dM_keepLibrary_62 (v := 255) rfl ?_
    have h := g1_0 q1
    refine x_putI (pc := 65) dM_keepLibrary_65 kv0 flM_29 rfl rfl ?_
    refine x_aload_n (pc := 68) dM_keepLibrary_68 rfl (q := 0) rfl ?_
    exact x_invV (pc := 69) dM_keepLibrary_69 (c := 11) (S := []) (As := []) mlM_115 hM_findFollowing rfl (by decide) rfl kv0 ⟨by decide, by decide⟩ ⟨Nat.zero_le _, Nat.zero_le _⟩ rfl (Nat.le_of_ble_eq_true rfl) (aftV (b' := b) ⟨Nat.le_refl _, Nat.le_refl _⟩ (fun N h => x_loc [0] rfl h) h)
  · refine x_aload_n (pc := 43) dM_keepLibrary_43 rfl (q := 0) rfl ?_
    refine x_getR (pc := 44) dM_keepLibrary_44 kv0 flM_13 rfl e1 ?_
    refine x_iload_n (pc := 47) dM_keepLibrary_47 rfl (q := 1) rfl ?_
    refine x_aload_n (pc := 48) dM_keepLibrary_48 rfl (q := 0) rfl ?_
    refine x_getR (pc := 49) dM_keepLibrary_49 kv0 flM_19 rfl e2 ?_
    refine x_iload_n (pc := 52) dM_keepLibrary_52 rfl (q := 1) rfl ?_
    refine x_aldIj (pc := 53) (j := (v1).toNatClampNeg) (Or.inl ⟨rfl, rfl⟩) dM_keepLibrary_53 (wfk hw e2 kv0) ak_13 rfl (s1 q1) ?_
    have h := g1_1 q1
    obtain ⟨s502, h⟩ := h
    refine x_astIj (pc := 54) (j := (v1).toNatClampNeg) (v := gi M r2 (v1).toNatClampNeg) (Or.inl ⟨rfl, rfl, rfl⟩) dM_keepLibrary_54 (wfk hw e1 kv0) ak_13 rfl s502 ?_
    refine x_iinc (pc := 55) dM_keepLibrary_55 (q := 1) rfl (v := v1 + 1) rfl (by decide) (L' := [(1, .int (v1 + 1)), (0, .ref v0)]) rfl ?_
    refine x_goto (pc := 58) dM_keepLibrary_58 (t := 37) rfl ?_
    exact x_loc [1, 0] rfl h

theorem vM_keepLibrary_72 {M : Mm} {b : Nat × Nat} {K : Mm → Prop} {v0 : Nat} (kv0 : v0 % 64 = 11) 
    (h : CV mM_findSaid [.ref v0] M (fun N => X mM_keepLibrary 76 [] [] N b (QV K))) : X mM_keepLibrary 72 [(0, .ref v0)] [] M b (QV K) := by
  refine x_wf (fun hw => ?_)
  refine x_aload_n (pc := 72) dM_keepLibrary_72 rfl (q := 0) rfl ?_
  exact x_invV (pc := 73) dM_keepLibrary_73 (c := 11) (S := []) (As := []) mlM_118 hM_findSaid rfl (by decide) rfl kv0 ⟨by decide, by decide⟩ ⟨Nat.zero_le _, Nat.zero_le _⟩ rfl (Nat.le_of_ble_eq_true rfl) (aftV (b' := b) ⟨Nat.le_refl _, Nat.le_refl _⟩ (fun N h => x_loc [] rfl h) h)

theorem vM_keepLibrary_76 {M : Mm} {b : Nat × Nat} {K : Mm → Prop}   
    (h : K M) : X mM_keepLibrary 76 [] [] M b (QV K) := by
  refine x_wf (fun hw => ?_)
  exact x_retQV (pc := 76) dM_keepLibrary_76 rfl h

theorem dM_findFollowing_0 : decode (mB mM_findFollowing) 0 = .ok (.iconst 0, 1) := op3 (by decide +kernel)
theorem dM_findFollowing_1 : decode (mB mM_findFollowing) 1 = .ok (.istore_n 1, 1) := op60 (by decide +kernel)
theorem dM_findFollowing_2 : decode (mB mM_findFollowing) 2 = .ok (.iload_n 1, 1) := op27 (by decide +kernel)
theorem dM_findFollowing_3 : decode (mB mM_findFollowing) 3 = .ok (.aload_n 0, 1) := op42 (by decide +kernel)
theorem dM_findFollowing_4 : decode (mB mM_findFollowing) 4 = .ok (.getfield 112, 3) := op180 0 112 (by decide +kernel)
theorem dM_findFollowing_7 : decode (mB mM_findFollowing) 7 = .ok (.if_icmp .ge 20, 3) := op162 0 20 (by decide +kernel)
theorem dM_findFollowing_10 : decode (mB mM_findFollowing) 10 = .ok (.aload_n 0, 1) := op42 (by decide +kernel)
theorem dM_findFollowing_11 : decode (mB mM_findFollowing) 11 = .ok (.getfield 48, 3) := op180 0 48 (by decide +kernel)
theorem dM_findFollowing_14 : decode (mB mM_findFollowing) 14 = .ok (.iload_n 1, 1) := op27 (by decide +kernel)
theorem dM_findFollowing_15 : decode (mB mM_findFollowing) 15 = .ok (.aload_n 0, 1) := op42 (by decide +kernel)
theorem dM_findFollowing_16 : decode (mB mM_findFollowing) 16 = .ok (.iload_n 1, 1) := op27 (by decide +kernel)
theorem dM_findFollowing_17 : decode (mB mM_findFollowing) 17 = .ok (.invokevirtual 247, 3) := op182 0 247 (by decide +kernel)
theorem dM_findFollowing_20 : decode (mB mM_findFollowing) 20 = .ok (.iastore, 1) := op79 (by decide +kernel)
theorem dM_findFollowing_21 : decode (mB mM_findFollowing) 21 = .ok (.iinc 1 1, 3) := op132 1 1 (by decide +kernel)
theorem dM_findFollowing_24 : decode (mB mM_findFollowing) 24 = .ok (.goto (-22), 3) := op167 255 234 (by decide +kernel)
theorem dM_findFollowing_27 : decode (mB mM_findFollowing) 27 = .ok (.iconst 0, 1) := op3 (by decide +kernel)
theorem dM_findFollowing_28 : decode (mB mM_findFollowing) 28 = .ok (.istore_n 1, 1) := op60 (by decide +kernel)
theorem dM_findFollowing_29 : decode (mB mM_findFollowing) 29 = .ok (.iload_n 1, 1) := op27 (by decide +kernel)
theorem dM_findFollowing_30 : decode (mB mM_findFollowing) 30 = .ok (.aload_n 0, 1) := op42 (by decide +kernel)
theorem dM_findFollowing_31 : decode (mB mM_findFollowing) 31 = .ok (.getfield 112, 3) := op180 0 112 (by decide +kernel)
theorem dM_findFollowing_34 : decode (mB mM_findFollowing) 34 = .ok (.if_icmp .ge 58, 3) := op162 0 58 (by decide +kernel)
theorem dM_findFollowing_37 : decode (mB mM_findFollowing) 37 = .ok (.iconst 0, 1) := op3 (by decide +kernel)
theorem dM_findFollowing_38 : decode (mB mM_findFollowing) 38 = .ok (.istore_n 2, 1) := op61 (by decide +kernel)
theorem dM_findFollowing_39 : decode (mB mM_findFollowing) 39 = .ok (.iload_n 2, 1) := op28 (by decide +kernel)
theorem dM_findFollowing_40 : decode (mB mM_findFollowing) 40 = .ok (.aload_n 0, 1) := op42 (by decide +kernel)
theorem dM_findFollowing_41 : decode (mB mM_findFollowing) 41 = .ok (.getfield 112, 3) := op180 0 112 (by decide +kernel)
theorem dM_findFollowing_44 : decode (mB mM_findFollowing) 44 = .ok (.if_icmp .ge 42, 3) := op162 0 42 (by decide +kernel)
theorem dM_findFollowing_47 : decode (mB mM_findFollowing) 47 = .ok (.aload_n 0, 1) := op42 (by decide +kernel)
theorem dM_findFollowing_48 : decode (mB mM_findFollowing) 48 = .ok (.getfield 48, 3) := op180 0 48 (by decide +kernel)
theorem dM_findFollowing_51 : decode (mB mM_findFollowing) 51 = .ok (.iload_n 2, 1) := op28 (by decide +kernel)
theorem dM_findFollowing_52 : decode (mB mM_findFollowing) 52 = .ok (.dup2, 1) := op92 (by decide +kernel)
theorem dM_findFollowing_53 : decode (mB mM_findFollowing) 53 = .ok (.iaload, 1) := op46 (by decide +kernel)
theorem dM_findFollowing_54 : decode (mB mM_findFollowing) 54 = .ok (.aload_n 0, 1) := op42 (by decide +kernel)
theorem dM_findFollowing_55 : decode (mB mM_findFollowing) 55 = .ok (.getfield 48, 3) := op180 0 48 (by decide +kernel)
theorem dM_findFollowing_58 : decode (mB mM_findFollowing) 58 = .ok (.iload_n 2, 1) := op28 (by decide +kernel)
theorem dM_findFollowing_59 : decode (mB mM_findFollowing) 59 = .ok (.iaload, 1) := op46 (by decide +kernel)
theorem dM_findFollowing_60 : decode (mB mM_findFollowing) 60 = .ok (.iload_n 1, 1) := op27 (by decide +kernel)
theorem dM_findFollowing_61 : decode (mB mM_findFollowing) 61 = .ok (.ishr, 1) := op122 (by decide +kernel)
theorem dM_findFollowing_62 : decode (mB mM_findFollowing) 62 = .ok (.iconst 1, 1) := op4 (by decide +kernel)
theorem dM_findFollowing_63 : decode (mB mM_findFollowing) 63 = .ok (.iand, 1) := op126 (by decide +kernel)
theorem dM_findFollowing_64 : decode (mB mM_findFollowing) 64 = .ok (.iconst 1, 1) := op4 (by decide +kernel)
theorem dM_findFollowing_65 : decode (mB mM_findFollowing) 65 = .ok (.if_icmp .ne 12, 3) := op160 0 12 (by decide +kernel)
theorem dM_findFollowing_68 : decode (mB mM_findFollowing) 68 = .ok (.aload_n 0, 1) := op42 (by decide +kernel)
theorem dM_findFollowing_69 : decode (mB mM_findFollowing) 69 = .ok (.getfield 48, 3) := op180 0 48 (by decide +kernel)
theorem dM_findFollowing_72 : decode (mB mM_findFollowing) 72 = .ok (.iload_n 1, 1) := op27 (by decide +kernel)
theorem dM_findFollowing_73 : decode (mB mM_findFollowing) 73 = .ok (.iaload, 1) := op46 (by decide +kernel)
theorem dM_findFollowing_74 : decode (mB mM_findFollowing) 74 = .ok (.goto 4, 3) := op167 0 4 (by decide +kernel)
theorem dM_findFollowing_77 : decode (mB mM_findFollowing) 77 = .ok (.iconst 0, 1) := op3 (by decide +kernel)
theorem dM_findFollowing_78 : decode (mB mM_findFollowing) 78 = .ok (.ior, 1) := op128 (by decide +kernel)
theorem dM_findFollowing_79 : decode (mB mM_findFollowing) 79 = .ok (.iastore, 1) := op79 (by decide +kernel)
theorem dM_findFollowing_80 : decode (mB mM_findFollowing) 80 = .ok (.iinc 2 1, 3) := op132 2 1 (by decide +kernel)
theorem dM_findFollowing_83 : decode (mB mM_findFollowing) 83 = .ok (.goto (-44), 3) := op167 255 212 (by decide +kernel)
theorem dM_findFollowing_86 : decode (mB mM_findFollowing) 86 = .ok (.iinc 1 1, 3) := op132 1 1 (by decide +kernel)
theorem dM_findFollowing_89 : decode (mB mM_findFollowing) 89 = .ok (.goto (-60), 3) := op167 255 196 (by decide +kernel)
theorem dM_findFollowing_92 : decode (mB mM_findFollowing) 92 = .ok (.aload_n 0, 1) := op42 (by decide +kernel)
theorem dM_findFollowing_93 : decode (mB mM_findFollowing) 93 = .ok (.iconst 0, 1) := op3 (by decide +kernel)
theorem dM_findFollowing_94 : decode (mB mM_findFollowing) 94 = .ok (.putfield 250, 3) := op181 0 250 (by decide +kernel)
theorem dM_findFollowing_97 : decode (mB mM_findFollowing) 97 = .ok (.iconst 0, 1) := op3 (by decide +kernel)
theorem dM_findFollowing_98 : decode (mB mM_findFollowing) 98 = .ok (.istore_n 1, 1) := op60 (by decide +kernel)
theorem dM_findFollowing_99 : decode (mB mM_findFollowing) 99 = .ok (.iload_n 1, 1) := op27 (by decide +kernel)
theorem dM_findFollowing_100 : decode (mB mM_findFollowing) 100 = .ok (.aload_n 0, 1) := op42 (by decide +kernel)
theorem dM_findFollowing_101 : decode (mB mM_findFollowing) 101 = .ok (.getfield 112, 3) := op180 0 112 (by decide +kernel)
theorem dM_findFollowing_104 : decode (mB mM_findFollowing) 104 = .ok (.if_icmp .ge 28, 3) := op162 0 28 (by decide +kernel)
theorem dM_findFollowing_107 : decode (mB mM_findFollowing) 107 = .ok (.aload_n 0, 1) := op42 (by decide +kernel)
theorem dM_findFollowing_108 : decode (mB mM_findFollowing) 108 = .ok (.dup, 1) := op89 (by decide +kernel)
theorem dM_findFollowing_109 : decode (mB mM_findFollowing) 109 = .ok (.getfield 250, 3) := op180 0 250 (by decide +kernel)
theorem dM_findFollowing_112 : decode (mB mM_findFollowing) 112 = .ok (.aload_n 0, 1) := op42 (by decide +kernel)
theorem dM_findFollowing_113 : decode (mB mM_findFollowing) 113 = .ok (.getfield 48, 3) := op180 0 48 (by decide +kernel)
theorem dM_findFollowing_116 : decode (mB mM_findFollowing) 116 = .ok (.iload_n 1, 1) := op27 (by decide +kernel)
theorem dM_findFollowing_117 : decode (mB mM_findFollowing) 117 = .ok (.iaload, 1) := op46 (by decide +kernel)
theorem dM_findFollowing_118 : decode (mB mM_findFollowing) 118 = .ok (.iconst 1, 1) := op4 (by decide +kernel)
theorem dM_findFollowing_119 : decode (mB mM_findFollowing) 119 = .ok (.iload_n 1, 1) := op27 (by decide +kernel)
theorem dM_findFollowing_120 : decode (mB mM_findFollowing) 120 = .ok (.ishl, 1) := op120 (by decide +kernel)
theorem dM_findFollowing_121 : decode (mB mM_findFollowing) 121 = .ok (.iand, 1) := op126 (by decide +kernel)
theorem dM_findFollowing_122 : decode (mB mM_findFollowing) 122 = .ok (.ior, 1) := op128 (by decide +kernel)
theorem dM_findFollowing_123 : decode (mB mM_findFollowing) 123 = .ok (.putfield 250, 3) := op181 0 250 (by decide +kernel)
theorem dM_findFollowing_126 : decode (mB mM_findFollowing) 126 = .ok (.iinc 1 1, 3) := op132 1 1 (by decide +kernel)
theorem dM_findFollowing_129 : decode (mB mM_findFollowing) 129 = .ok (.goto (-30), 3) := op167 255 226 (by decide +kernel)
theorem dM_findFollowing_132 : decode (mB mM_findFollowing) 132 = .ok (.aload_n 0, 1) := op42 (by decide +kernel)
theorem dM_findFollowing_133 : decode (mB mM_findFollowing) 133 = .ok (.aload_n 0, 1) := op42 (by decide +kernel)
theorem dM_findFollowing_134 : decode (mB mM_findFollowing) 134 = .ok (.getfield 250, 3) := op180 0 250 (by decide +kernel)
theorem dM_findFollowing_137 : decode (mB mM_findFollowing) 137 = .ok (.putfield 241, 3) := op181 0 241 (by decide +kernel)
theorem dM_findFollowing_140 : decode (mB mM_findFollowing) 140 = .ok (.iconst 0, 1) := op3 (by decide +kernel)
theorem dM_findFollowing_141 : decode (mB mM_findFollowing) 141 = .ok (.istore_n 1, 1) := op60 (by decide +kernel)
theorem dM_findFollowing_142 : decode (mB mM_findFollowing) 142 = .ok (.iload_n 1, 1) := op27 (by decide +kernel)
theorem dM_findFollowing_143 : decode (mB mM_findFollowing) 143 = .ok (.aload_n 0, 1) := op42 (by decide +kernel)
theorem dM_findFollowing_144 : decode (mB mM_findFollowing) 144 = .ok (.getfield 112, 3) := op180 0 112 (by decide +kernel)
theorem dM_findFollowing_147 : decode (mB mM_findFollowing) 147 = .ok (.if_icmp .ge 39, 3) := op162 0 39 (by decide +kernel)
theorem dM_findFollowing_150 : decode (mB mM_findFollowing) 150 = .ok (.aload_n 0, 1) := op42 (by decide +kernel)
theorem dM_findFollowing_151 : decode (mB mM_findFollowing) 151 = .ok (.dup, 1) := op89 (by decide +kernel)
theorem dM_findFollowing_152 : decode (mB mM_findFollowing) 152 = .ok (.getfield 241, 3) := op180 0 241 (by decide +kernel)
theorem dM_findFollowing_155 : decode (mB mM_findFollowing) 155 = .ok (.aload_n 0, 1) := op42 (by decide +kernel)
theorem dM_findFollowing_156 : decode (mB mM_findFollowing) 156 = .ok (.getfield 48, 3) := op180 0 48 (by decide +kernel)
theorem dM_findFollowing_159 : decode (mB mM_findFollowing) 159 = .ok (.iload_n 1, 1) := op27 (by decide +kernel)
theorem dM_findFollowing_160 : decode (mB mM_findFollowing) 160 = .ok (.iaload, 1) := op46 (by decide +kernel)
theorem dM_findFollowing_161 : decode (mB mM_findFollowing) 161 = .ok (.aload_n 0, 1) := op42 (by decide +kernel)
theorem dM_findFollowing_162 : decode (mB mM_findFollowing) 162 = .ok (.getfield 250, 3) := op180 0 250 (by decide +kernel)
theorem dM_findFollowing_165 : decode (mB mM_findFollowing) 165 = .ok (.iand, 1) := op126 (by decide +kernel)
theorem dM_findFollowing_166 : decode (mB mM_findFollowing) 166 = .ok (.ifCond .eq 9, 3) := op153 0 9 (by decide +kernel)
theorem dM_findFollowing_169 : decode (mB mM_findFollowing) 169 = .ok (.iconst 1, 1) := op4 (by decide +kernel)
theorem dM_findFollowing_170 : decode (mB mM_findFollowing) 170 = .ok (.iload_n 1, 1) := op27 (by decide +kernel)
theorem dM_findFollowing_171 : decode (mB mM_findFollowing) 171 = .ok (.ishl, 1) := op120 (by decide +kernel)
theorem dM_findFollowing_172 : decode (mB mM_findFollowing) 172 = .ok (.goto 4, 3) := op167 0 4 (by decide +kernel)
theorem dM_findFollowing_175 : decode (mB mM_findFollowing) 175 = .ok (.iconst 0, 1) := op3 (by decide +kernel)
theorem dM_findFollowing_176 : decode (mB mM_findFollowing) 176 = .ok (.ior, 1) := op128 (by decide +kernel)
theorem dM_findFollowing_177 : decode (mB mM_findFollowing) 177 = .ok (.putfield 241, 3) := op181 0 241 (by decide +kernel)
theorem dM_findFollowing_180 : decode (mB mM_findFollowing) 180 = .ok (.iinc 1 1, 3) := op132 1 1 (by decide +kernel)
theorem dM_findFollowing_183 : decode (mB mM_findFollowing) 183 = .ok (.goto (-41), 3) := op167 255 215 (by decide +kernel)
theorem dM_findFollowing_186 : decode (mB mM_findFollowing) 186 = .ok (.return_, 1) := op177 (by decide +kernel)

theorem vM_findFollowing_0 {M : Mm} {b : Nat × Nat} {K : Mm → Prop} {v0 : Nat}  
    (h : X mM_findFollowing 2 [(0, .ref v0), (1, .int 0)] [] M b (QV K)) : X mM_findFollowing 0 [(0, .ref v0)] [] M b (QV K) := by
  refine x_wf (fun hw => ?_)
  refine x_iconst (pc := 0) dM_findFollowing_0 (v := 0) rfl ?_
  refine x_istore_n (pc := 1) dM_findFollowing_1 rfl (by decide) (L' := [(1, .int 0), (0, .ref v0)]) rfl ?_
  exact x_loc [1, 0] rfl h

theorem vM_findFollowing_2 {M : Mm} {b : Nat × Nat} {K : Mm → Prop} {v0 : Nat} {v1 : Int32} {r1 : Nat} (kv0 : v0 % 64 = 11) (e1 : gr M v0 22 = some r1)
    (h : ((gi M v0 0) ≤ v1 → (X mM_findFollowing 29 [(0, .ref v0), (1, .int 0)] [] M b (QV K))) ∧ (¬ (gi M v0 0) ≤ v1 → (CI mM_followed [.ref v0, .int v1] M (fun rv N => X mM_findFollowing 20 [(0, .ref v0), (1, .int v1)] [.int rv, .int v1, .ref r1] N b (QV K))))) : X mM_findFollowing 2 [(0, .ref v0), (1, .int v1)] [] M b (QV K) := by
  refine x_wf (fun hw => ?_)
  refine x_iload_n (pc := 2) dM_findFollowing_2 rfl (q := 1) rfl ?_
  refine x_aload_n (pc := 3) dM_findFollowing_3 rfl (q := 0) rfl ?_
  refine x_getI (pc := 4) dM_findFollowing_4 kv0 flM_112 rfl ?_
  obtain ⟨g1_0, g1_1⟩ := h
  refine x_icmp_ge (pc := 7) dM_findFollowing_7 (t := 27) rfl (fun q1 => ?_) (fun q1 => ?_)
  · refine x_iconst (pc := 27) dM_findFollowing_27 (v := 0) rfl ?_
    have h := g1_0 q1
    refine x_istore_n (pc := 28) dM_findFollowing_28 rfl (by decide) (L' := [(1, .int 0), (0, .ref v0)]) rfl ?_
    exact x_loc [1, 0] rfl h
  · refine x_aload_n (pc := 10) dM_findFollowing_10 rfl (q := 0) rfl ?_
    refine x_getR (pc := 11) dM_findFollowing_11 kv0 flM_48 rfl e1 ?_
    refine x_iload_n (pc := 14) dM_findFollowing_14 rfl (q := 1) rfl ?_
    refine x_aload_n (pc := 15) dM_findFollowing_15 rfl (q := 0) rfl ?_
    refine x_iload_n (pc := 16) dM_findFollowing_16 rfl (q := 1) rfl ?_
    have h := g1_1 q1
    exact x_invV (pc := 17) dM_findFollowing_17 (c := 11) (S := [.int v1, .ref r1]) (As := [.int v1]) mlM_247 hM_followed rfl (by decide) rfl kv0 ⟨by decide, by decide⟩ ⟨Nat.zero_le _, Nat.zero_le _⟩ rfl (Nat.le_of_ble_eq_true rfl) (aftI (b' := b) ⟨Nat.le_refl _, Nat.le_refl _⟩ (fun rv N h => h) h)

theorem vM_findFollowing_20 {M : Mm} {b : Nat × Nat} {K : Mm → Prop} {v0 : Nat} {v1 : Int32} {w0 : Int32} {w1 : Int32} {w2 : Nat} (kw2 : w2 % 64 = 23) 
    (h : vp_in w1 25 ∧ (X mM_findFollowing 2 [(0, .ref v0), (1, .int (v1 + 1))] [] (si M w2 (w1).toNatClampNeg w0) b (QV K))) : X mM_findFollowing 20 [(0, .ref v0), (1, .int v1)] [.int w0, .int w1, .ref w2] M b (QV K) := by
  refine x_wf (fun hw => ?_)
  obtain ⟨s501, h⟩ := h
  refine x_astIj (pc := 20) (j := (w1).toNatClampNeg) (v := w0) (Or.inl ⟨rfl, rfl, rfl⟩) dM_findFollowing_20 kw2 ak_23 rfl s501 ?_
  refine x_iinc (pc := 21) dM_findFollowing_21 (q := 1) rfl (v := v1 + 1) rfl (by decide) (L' := [(1, .int (v1 + 1)), (0, .ref v0)]) rfl ?_
  refine x_goto (pc := 24) dM_findFollowing_24 (t := 2) rfl ?_
  exact x_loc [1, 0] rfl h

theorem vM_findFollowing_29 {M : Mm} {b : Nat × Nat} {K : Mm → Prop} {v0 : Nat} {v1 : Int32} (kv0 : v0 % 64 = 11) 
    (h : ((gi M v0 0) ≤ v1 → (X mM_findFollowing 99 [(0, .ref v0), (1, .int 0)] [] (si M v0 23 0) b (QV K))) ∧ (¬ (gi M v0 0) ≤ v1 → (X mM_findFollowing 39 [(0, .ref v0), (1, .int v1), (2, .int 0)] [] M b (QV K)))) : X mM_findFollowing 29 [(0, .ref v0), (1, .int v1)] [] M b (QV K) := by
  refine x_wf (fun hw => ?_)
  refine x_iload_n (pc := 29) dM_findFollowing_29 rfl (q := 1) rfl ?_
  refine x_aload_n (pc := 30) dM_findFollowing_30 rfl (q := 0) rfl ?_
  refine x_getI (pc := 31) dM_findFollowing_31 kv0 flM_112 rfl ?_
  obtain ⟨g1_0, g1_1⟩ := h
  refine x_icmp_ge (pc := 34) dM_findFollowing_34 (t := 92) rfl (fun q1 => ?_) (fun q1 => ?_)
  · refine x_aload_n (pc := 92) dM_findFollowing_92 rfl (q := 0) rfl ?_
    refine x_iconst (pc := 93) dM_findFollowing_93 (v := 0) rfl ?_
    have h := g1_0 q1
    refine x_putI (pc := 94) dM_findFollowing_94 kv0 flM_250 rfl rfl ?_
    refine x_iconst (pc := 97) dM_findFollowing_97 (v := 0) rfl ?_
    refine x_istore_n (pc := 98) dM_findFollowing_98 rfl (by decide) (L' := [(1, .int 0), (0, .ref v0)]) rfl ?_
    exact x_loc [1, 0] rfl h
  · refine x_iconst (pc := 37) dM_findFollowing_37 (v := 0) rfl ?_
    have h := g1_1 q1
    refine x_istore_n (pc := 38) dM_findFollowing_38 rfl (by decide) (L' := [(2, .int 0), (0, .ref v0), (1, .int v1)]) rfl ?_
    exact x_loc [1, 2, 0] rfl h

theorem vM_findFollowing_39 {M : Mm} {b : Nat × Nat} {K : Mm → Prop} {v0 : Nat} {v1 : Int32} {v2 : Int32} {r1 : Nat} (kv0 : v0 % 64 = 11) (e1 : gr M v0 22 = some r1)
    (h : (¬ (gi M v0 0) ≤ v2 → vp_in v2 25) ∧ (¬ (gi M v0 0) ≤ v2 → vp_in v2 25) ∧ (¬ (gi M v0 0) ≤ v2 ∧ (((gi M r1 (v2).toNatClampNeg) >>> (v1 &&& 31)) &&& 1) = 1 → vp_in v1 25) ∧ ((gi M v0 0) ≤ v2 → (X mM_findFollowing 29 [(0, .ref v0), (1, .int (v1 + 1))] [] M b (QV K))) ∧ ((¬ (gi M v0 0) ≤ v2 ∧ ¬ (((gi M r1 (v2).toNatClampNeg) >>> (v1 &&& 31)) &&& 1) = 1) → (X mM_findFollowing 78 [(0, .ref v0), (1, .int v1), (2, .int v2)] [.int 0, .int (gi M r1 (v2).toNatClampNeg), .int v2, .ref r1] M b (QV K))) ∧ ((¬ (gi M v0 0) ≤ v2 ∧ (((gi M r1 (v2).toNatClampNeg) >>> (v1 &&& 31)) &&& 1) = 1) → (X mM_findFollowing 78 [(0, .ref v0), (1, .int v1), (2, .int v2)] [.int (gi M r1 (v1).toNatClampNeg), .int (gi M r1 (v2).toNatClampNeg), .int v2, .ref r1] M b (QV K)))) : X mM_findFollowing 39 [(0, .ref v0), (1, .int v1), (2, .int v2)] [] M b (QV K) := by
  refine x_wf (fun hw => ?_)
  refine x_iload_n (pc := 39) dM_findFollowing_39 rfl (q := 2) rfl ?_
  refine x_aload_n (pc := 40) dM_findFollowing_40 rfl (q := 0) rfl ?_
  refine x_getI (pc := 41) dM_findFollowing_41 kv0 flM_112 rfl ?_
  obtain ⟨s1, s2, s3, g1_0, g1_1, g1_2⟩ := h
  refine x_icmp_ge (pc := 44) dM_findFollowing_44 (t := 86) rfl (fun q1 => ?_) (fun q1 => ?_)
  · have h := g1_0 q1
    refine x_iinc (pc := 86) dM_findFollowing_86 (q := 1) rfl (v := v1 + 1) rfl (by decide) (L' := [(1, .int (v1 + 1)), (0, .ref v0), (2, .int v2)]) rfl ?_
    refine x_goto (pc := 89) dM_findFollowing_89 (t := 29) rfl ?_
    exact x_loc [1, 0] rfl h
  · refine x_aload_n (pc := 47) dM_findFollowing_47 rfl (q := 0) rfl ?_
    refine x_getR (pc := 48) dM_findFollowing_48 kv0 flM_48 rfl e1 ?_
    refine x_iload_n (pc := 51) dM_findFollowing_51 rfl (q := 2) rfl ?_
    refine x_dup2 (pc := 52) dM_findFollowing_52 rfl rfl ?_
    refine x_aldIj (pc := 53) (j := (v2).toNatClampNeg) (Or.inl ⟨rfl, rfl⟩) dM_findFollowing_53 (wfk hw e1 kv0) ak_23 rfl (s1 q1) ?_
    refine x_aload_n (pc := 54) dM_findFollowing_54 rfl (q := 0) rfl ?_
    refine x_getR (pc := 55) dM_findFollowing_55 kv0 flM_48 rfl e1 ?_
    refine x_iload_n (pc := 58) dM_findFollowing_58 rfl (q := 2) rfl ?_
    refine x_aldIj (pc := 59) (j := (v2).toNatClampNeg) (Or.inl ⟨rfl, rfl⟩) dM_findFollowing_59 (wfk hw e1 kv0) ak_23 rfl (s2 q1) ?_
    refine x_iload_n (pc := 60) dM_findFollowing_60 rfl (q := 1) rfl ?_
    refine x_ishr (pc := 61) dM_findFollowing_61 ?_
    refine x_iconst (pc := 62) dM_findFollowing_62 (v := 1) rfl ?_
    refine x_iand (pc := 63) dM_findFollowing_63 ?_
    refine x_iconst (pc := 64) dM_findFollowing_64 (v := 1) rfl ?_
    refine x_icmp_ne (pc := 65) dM_findFollowing_65 (t := 77) rfl (fun q2 => ?_) (fun q2 => ?_)
    · refine x_iconst (pc := 77) dM_findFollowing_77 (v := 0) rfl ?_
      have h := g1_1 ⟨q1, q2⟩
      exact h
    · refine x_aload_n (pc := 68) dM_findFollowing_68 rfl (q := 0) rfl ?_
      refine x_getR (pc := 69) dM_findFollowing_69 kv0 flM_48 rfl e1 ?_
      refine x_iload_n (pc := 72) dM_findFollowing_72 rfl (q := 1) rfl ?_
      refine x_aldIj (pc := 73) (j := (v1).toNatClampNeg) (Or.inl ⟨rfl, rfl⟩) dM_findFollowing_73 (wfk hw e1 kv0) ak_23 rfl (s3 ⟨q1, q2⟩) ?_
      refine x_goto (pc := 74) dM_findFollowing_74 (t := 78) rfl ?_
      have h := g1_2 ⟨q1, q2⟩
      exact h

theorem vM_findFollowing_78 {M : Mm} {b : Nat × Nat} {K : Mm → Prop} {v0 : Nat} {v1 : Int32} {v2 : Int32} {w0 : Int32} {w1 : Int32} {w2 : Int32} {w3 : Nat} (kw3 : w3 % 64 = 23) 
    (h : vp_in w2 25 ∧ (X mM_findFollowing 39 [(0, .ref v0), (1, .int v1), (2, .int (v2 + 1))] [] (si M w3 (w2).toNatClampNeg (w1 ||| w0)) b (QV K))) : X mM_findFollowing 78 [(0, .ref v0), (1, .int v1), (2, .int v2)] [.int w0, .int w1, .int w2, .ref w3] M b (QV K) := by
  refine x_wf (fun hw => ?_)
  refine x_ior (pc := 78) dM_findFollowing_78 ?_
  obtain ⟨s501, h⟩ := h
  refine x_astIj (pc := 79) (j := (w2).toNatClampNeg) (v := w1 ||| w0) (Or.inl ⟨rfl, rfl, rfl⟩) dM_findFollowing_79 kw3 ak_23 rfl s501 ?_
  refine x_iinc (pc := 80) dM_findFollowing_80 (q := 2) rfl (v := v2 + 1) rfl (by decide) (L' := [(2, .int (v2 + 1)), (0, .ref v0), (1, .int v1)]) rfl ?_
  refine x_goto (pc := 83) dM_findFollowing_83 (t := 39) rfl ?_
  exact x_loc [1, 2, 0] rfl h

theorem vM_findFollowing_99 {M : Mm} {b : Nat × Nat} {K : Mm → Prop} {v0 : Nat} {v1 : Int32} {r1 : Nat} (kv0 : v0 % 64 = 11) (e1 : gr M v0 22 = some r1)
    (h : (¬ (gi M v0 0) ≤ v1 → vp_in v1 25) ∧ ((gi M v0 0) ≤ v1 → (X mM_findFollowing 142 [(0, .ref v0), (1, .int 0)] [] (si M v0 24 (gi M v0 23)) b (QV K))) ∧ (¬ (gi M v0 0) ≤ v1 → (X mM_findFollowing 99 [(0, .ref v0), (1, .int (v1 + 1))] [] (si M v0 23 ((gi M v0 23) ||| ((gi M r1 (v1).toNatClampNeg) &&& ((1 : Int32) <<< (v1 &&& 31))))) b (QV K)))) : X mM_findFollowing 99 [(0, .ref v0), (1, .int v1)] [] M b (QV K) := by
  refine x_wf (fun hw => ?_)
  refine x_iload_n (pc := 99) dM_findFollowing_99 rfl (q := 1) rfl ?_
  refine x_aload_n (pc := 100) dM_findFollowing_100 rfl (q := 0) rfl ?_
  refine x_getI (pc := 101) dM_findFollowing_101 kv0 flM_112 rfl ?_
  obtain ⟨s1, g1_0, g1_1⟩ := h
  refine x_icmp_ge (pc := 104) dM_findFollowing_104 (t := 132) rfl (fun q1 => ?_) (fun q1 => ?_)
  · refine x_aload_n (pc := 132) dM_findFollowing_132 rfl (q := 0) rfl ?_
    refine x_aload_n (pc := 133) dM_findFollowing_133 rfl (q := 0) rfl ?_
    refine x_getI (pc := 134) dM_findFollowing_134 kv0 flM_250 rfl ?_
    have h := g1_0 q1
    refine x_putI (pc := 137) dM_findFollowing_137 kv0 flM_241 rfl rfl ?_
    refine x_iconst (pc := 140) dM_findFollowing_140 (v := 0) rfl ?_
    refine x_istore_n (pc := 141) dM_findFollowing_141 rfl (by decide) (L' := [(1, .int 0), (0, .ref v0)]) rfl ?_
    exact x_loc [1, 0] rfl h
  · refine x_aload_n (pc := 107) dM_findFollowing_107 rfl (q := 0) rfl ?_
    refine x_dup (pc := 108) dM_findFollowing_108 rfl ?_
    refine x_getI (pc := 109) dM_findFollowing_109 kv0 flM_250 rfl ?_
    refine x_aload_n (pc := 112) dM_findFollowing_112 rfl (q := 0) rfl ?_
    refine x_getR (pc := 113) dM_findFollowing_113 kv0 flM_48 rfl e1 ?_
    refine x_iload_n (pc := 116) dM_findFollowing_116 rfl (q := 1) rfl ?_
    refine x_aldIj (pc := 117) (j := (v1).toNatClampNeg) (Or.inl ⟨rfl, rfl⟩) dM_findFollowing_117 (wfk hw e1 kv0) ak_23 rfl (s1 q1) ?_
    refine x_iconst (pc := 118) dM_findFollowing_118 (v := 1) rfl ?_
    refine x_iload_n (pc := 119) dM_findFollowing_119 rfl (q := 1) rfl ?_
    refine x_ishl (pc := 120) dM_findFollowing_120 ?_
    refine x_iand (pc := 121) dM_findFollowing_121 ?_
    refine x_ior (pc := 122) dM_findFollowing_122 ?_
    have h := g1_1 q1
    refine x_putI (pc := 123) dM_findFollowing_123 kv0 flM_250 rfl rfl ?_
    refine x_iinc (pc := 126) dM_findFollowing_126 (q := 1) rfl (v := v1 + 1) rfl (by decide) (L' := [(1, .int (v1 + 1)), (0, .ref v0)]) rfl ?_
    refine x_goto (pc := 129) dM_findFollowing_129 (t := 99) rfl ?_
    exact x_loc [1, 0] rfl h

theorem vM_findFollowing_142 {M : Mm} {b : Nat × Nat} {K : Mm → Prop} {v0 : Nat} {v1 : Int32} {r1 : Nat} (kv0 : v0 % 64 = 11) (e1 : gr M v0 22 = some r1)
    (h : (¬ (gi M v0 0) ≤ v1 → vp_in v1 25) ∧ ((gi M v0 0) ≤ v1 → (K M)) ∧ ((¬ (gi M v0 0) ≤ v1 ∧ ((gi M r1 (v1).toNatClampNeg) &&& (gi M v0 23)) = 0) → (X mM_findFollowing 176 [(0, .ref v0), (1, .int v1)] [.int 0, .int (gi M v0 24), .ref v0] M b (QV K))) ∧ ((¬ (gi M v0 0) ≤ v1 ∧ ¬ ((gi M r1 (v1).toNatClampNeg) &&& (gi M v0 23)) = 0) → (X mM_findFollowing 176 [(0, .ref v0), (1, .int v1)] [.int ((1 : Int32) <<< (v1 &&& 31)), .int (gi M v0 24), .ref v0] M b (QV K)))) : X mM_findFollowing 142 [(0, .ref v0), (1, .int v1)] [] M b (QV K) := by
  refine x_wf (fun hw => ?_)
  refine x_iload_n (pc := 142) dM_findFollowing_142 rfl (q := 1) rfl ?_
  refine x_aload_n (pc := 143) dM_findFollowing_143 rfl (q := 0) rfl ?_
  refine x_getI (pc := 144) dM_findFollowing_144 kv0 flM_112 rfl ?_
  obtain ⟨s1, g1_0, g1_1, g1_2⟩ := h
  refine x_icmp_ge (pc := 147) dM_findFollowing_147 (t := 186) rfl (fun q1 => ?_) (fun q1 => ?_)
  · have h := g1_0 q1
    exact x_retQV (pc := 186) dM_findFollowing_186 rfl h
  · refine x_aload_n (pc := 150) dM_findFollowing_150 rfl (q := 0) rfl ?_
    refine x_dup (pc := 151) dM_findFollowing_151 rfl ?_
    refine x_getI (pc := 152) dM_findFollowing_152 kv0 flM_241 rfl ?_
    refine x_aload_n (pc := 155) dM_findFollowing_155 rfl (q := 0) rfl ?_
    refine x_getR (pc := 156) dM_findFollowing_156 kv0 flM_48 rfl e1 ?_
    refine x_iload_n (pc := 159) dM_findFollowing_159 rfl (q := 1) rfl ?_
    refine x_aldIj (pc := 160) (j := (v1).toNatClampNeg) (Or.inl ⟨rfl, rfl⟩) dM_findFollowing_160 (wfk hw e1 kv0) ak_23 rfl (s1 q1) ?_
    refine x_aload_n (pc := 161) dM_findFollowing_161 rfl (q := 0) rfl ?_
    refine x_getI (pc := 162) dM_findFollowing_162 kv0 flM_250 rfl ?_
    refine x_iand (pc := 165) dM_findFollowing_165 ?_
    refine x_if_eq (pc := 166) dM_findFollowing_166 (t := 175) rfl (fun q2 => ?_) (fun q2 => ?_)
    · refine x_iconst (pc := 175) dM_findFollowing_175 (v := 0) rfl ?_
      have h := g1_1 ⟨q1, q2⟩
      exact h
    · refine x_iconst (pc := 169) dM_findFollowing_169 (v := 1) rfl ?_
      refine x_iload_n (pc := 170) dM_findFollowing_170 rfl (q := 1) rfl ?_
      refine x_ishl (pc := 171) dM_findFollowing_171 ?_
      refine x_goto (pc := 172) dM_findFollowing_172 (t := 176) rfl ?_
      have h := g1_2 ⟨q1, q2⟩
      exact h

theorem vM_findFollowing_176 {M : Mm} {b : Nat × Nat} {K : Mm → Prop} {v0 : Nat} {v1 : Int32} {w0 : Int32} {w1 : Int32} {w2 : Nat} (kw2 : w2 % 64 = 11) 
    (h : X mM_findFollowing 142 [(0, .ref v0), (1, .int (v1 + 1))] [] (si M w2 24 (w1 ||| w0)) b (QV K)) : X mM_findFollowing 176 [(0, .ref v0), (1, .int v1)] [.int w0, .int w1, .ref w2] M b (QV K) := by
  refine x_wf (fun hw => ?_)
  refine x_ior (pc := 176) dM_findFollowing_176 ?_
  refine x_putI (pc := 177) dM_findFollowing_177 kw2 flM_241 rfl rfl ?_
  refine x_iinc (pc := 180) dM_findFollowing_180 (q := 1) rfl (v := v1 + 1) rfl (by decide) (L' := [(1, .int (v1 + 1)), (0, .ref v0)]) rfl ?_
  refine x_goto (pc := 183) dM_findFollowing_183 (t := 142) rfl ?_
  exact x_loc [1, 0] rfl h

theorem dM_followed_0 : decode (mB mM_followed) 0 = .ok (.aload_n 0, 1) := op42 (by decide +kernel)
theorem dM_followed_1 : decode (mB mM_followed) 1 = .ok (.iload_n 1, 1) := op27 (by decide +kernel)
theorem dM_followed_2 : decode (mB mM_followed) 2 = .ok (.iconst 0, 1) := op3 (by decide +kernel)
theorem dM_followed_3 : decode (mB mM_followed) 3 = .ok (.invokevirtual 244, 3) := op182 0 244 (by decide +kernel)
theorem dM_followed_6 : decode (mB mM_followed) 6 = .ok (.iconst 4, 1) := op7 (by decide +kernel)
theorem dM_followed_7 : decode (mB mM_followed) 7 = .ok (.if_icmp .eq 29, 3) := op159 0 29 (by decide +kernel)
theorem dM_followed_10 : decode (mB mM_followed) 10 = .ok (.aload_n 0, 1) := op42 (by decide +kernel)
theorem dM_followed_11 : decode (mB mM_followed) 11 = .ok (.iload_n 1, 1) := op27 (by decide +kernel)
theorem dM_followed_12 : decode (mB mM_followed) 12 = .ok (.bipush 6, 2) := op16 6 (by decide +kernel)
theorem dM_followed_14 : decode (mB mM_followed) 14 = .ok (.invokevirtual 244, 3) := op182 0 244 (by decide +kernel)
theorem dM_followed_17 : decode (mB mM_followed) 17 = .ok (.bipush (-4), 2) := op16 252 (by decide +kernel)
theorem dM_followed_19 : decode (mB mM_followed) 19 = .ok (.if_icmp .ne 7, 3) := op160 0 7 (by decide +kernel)
theorem dM_followed_22 : decode (mB mM_followed) 22 = .ok (.iconst 0, 1) := op3 (by decide +kernel)
theorem dM_followed_23 : decode (mB mM_followed) 23 = .ok (.goto 12, 3) := op167 0 12 (by decide +kernel)
theorem dM_followed_26 : decode (mB mM_followed) 26 = .ok (.iconst 1, 1) := op4 (by decide +kernel)
theorem dM_followed_27 : decode (mB mM_followed) 27 = .ok (.aload_n 0, 1) := op42 (by decide +kernel)
theorem dM_followed_28 : decode (mB mM_followed) 28 = .ok (.iload_n 1, 1) := op27 (by decide +kernel)
theorem dM_followed_29 : decode (mB mM_followed) 29 = .ok (.bipush 6, 2) := op16 6 (by decide +kernel)
theorem dM_followed_31 : decode (mB mM_followed) 31 = .ok (.invokevirtual 244, 3) := op182 0 244 (by decide +kernel)
theorem dM_followed_34 : decode (mB mM_followed) 34 = .ok (.ishl, 1) := op120 (by decide +kernel)
theorem dM_followed_35 : decode (mB mM_followed) 35 = .ok (.ireturn, 1) := op172 (by decide +kernel)
theorem dM_followed_36 : decode (mB mM_followed) 36 = .ok (.iconst 0, 1) := op3 (by decide +kernel)
theorem dM_followed_37 : decode (mB mM_followed) 37 = .ok (.istore_n 2, 1) := op61 (by decide +kernel)
theorem dM_followed_38 : decode (mB mM_followed) 38 = .ok (.iconst 0, 1) := op3 (by decide +kernel)
theorem dM_followed_39 : decode (mB mM_followed) 39 = .ok (.istore_n 3, 1) := op62 (by decide +kernel)
theorem dM_followed_40 : decode (mB mM_followed) 40 = .ok (.iload_n 3, 1) := op29 (by decide +kernel)
theorem dM_followed_41 : decode (mB mM_followed) 41 = .ok (.iload_n 1, 1) := op27 (by decide +kernel)
theorem dM_followed_42 : decode (mB mM_followed) 42 = .ok (.if_icmp .ge 44, 3) := op162 0 44 (by decide +kernel)
theorem dM_followed_45 : decode (mB mM_followed) 45 = .ok (.iload_n 2, 1) := op28 (by decide +kernel)
theorem dM_followed_46 : decode (mB mM_followed) 46 = .ok (.aload_n 0, 1) := op42 (by decide +kernel)
theorem dM_followed_47 : decode (mB mM_followed) 47 = .ok (.iload_n 3, 1) := op29 (by decide +kernel)
theorem dM_followed_48 : decode (mB mM_followed) 48 = .ok (.iconst 1, 1) := op4 (by decide +kernel)
theorem dM_followed_49 : decode (mB mM_followed) 49 = .ok (.invokevirtual 244, 3) := op182 0 244 (by decide +kernel)
theorem dM_followed_52 : decode (mB mM_followed) 52 = .ok (.aload_n 0, 1) := op42 (by decide +kernel)
theorem dM_followed_53 : decode (mB mM_followed) 53 = .ok (.iload_n 1, 1) := op27 (by decide +kernel)
theorem dM_followed_54 : decode (mB mM_followed) 54 = .ok (.iconst 1, 1) := op4 (by decide +kernel)
theorem dM_followed_55 : decode (mB mM_followed) 55 = .ok (.invokevirtual 244, 3) := op182 0 244 (by decide +kernel)
theorem dM_followed_58 : decode (mB mM_followed) 58 = .ok (.if_icmp .ne 19, 3) := op160 0 19 (by decide +kernel)
theorem dM_followed_61 : decode (mB mM_followed) 61 = .ok (.aload_n 0, 1) := op42 (by decide +kernel)
theorem dM_followed_62 : decode (mB mM_followed) 62 = .ok (.iload_n 3, 1) := op29 (by decide +kernel)
theorem dM_followed_63 : decode (mB mM_followed) 63 = .ok (.iconst 0, 1) := op3 (by decide +kernel)
theorem dM_followed_64 : decode (mB mM_followed) 64 = .ok (.invokevirtual 244, 3) := op182 0 244 (by decide +kernel)
theorem dM_followed_67 : decode (mB mM_followed) 67 = .ok (.iconst 3, 1) := op6 (by decide +kernel)
theorem dM_followed_68 : decode (mB mM_followed) 68 = .ok (.if_icmp .eq 9, 3) := op159 0 9 (by decide +kernel)
theorem dM_followed_71 : decode (mB mM_followed) 71 = .ok (.iconst 1, 1) := op4 (by decide +kernel)
theorem dM_followed_72 : decode (mB mM_followed) 72 = .ok (.iload_n 3, 1) := op29 (by decide +kernel)
theorem dM_followed_73 : decode (mB mM_followed) 73 = .ok (.ishl, 1) := op120 (by decide +kernel)
theorem dM_followed_74 : decode (mB mM_followed) 74 = .ok (.goto 4, 3) := op167 0 4 (by decide +kernel)
theorem dM_followed_77 : decode (mB mM_followed) 77 = .ok (.iconst 0, 1) := op3 (by decide +kernel)
theorem dM_followed_78 : decode (mB mM_followed) 78 = .ok (.ior, 1) := op128 (by decide +kernel)
theorem dM_followed_79 : decode (mB mM_followed) 79 = .ok (.istore_n 2, 1) := op61 (by decide +kernel)
theorem dM_followed_80 : decode (mB mM_followed) 80 = .ok (.iinc 3 1, 3) := op132 3 1 (by decide +kernel)
theorem dM_followed_83 : decode (mB mM_followed) 83 = .ok (.goto (-43), 3) := op167 255 213 (by decide +kernel)
theorem dM_followed_86 : decode (mB mM_followed) 86 = .ok (.iload_n 2, 1) := op28 (by decide +kernel)
theorem dM_followed_87 : decode (mB mM_followed) 87 = .ok (.ireturn, 1) := op172 (by decide +kernel)

theorem vM_followed_0 {M : Mm} {b : Nat × Nat} {K : Int32 → Mm → Prop} {v0 : Nat} {v1 : Int32} (kv0 : v0 % 64 = 11) 
    (h : CI mM_of [.ref v0, .int v1, .int 0] M (fun rv N => X mM_followed 6 [(0, .ref v0), (1, .int v1)] [.int rv] N b (QI K))) : X mM_followed 0 [(0, .ref v0), (1, .int v1)] [] M b (QI K) := by
  refine x_wf (fun hw => ?_)
  refine x_aload_n (pc := 0) dM_followed_0 rfl (q := 0) rfl ?_
  refine x_iload_n (pc := 1) dM_followed_1 rfl (q := 1) rfl ?_
  refine x_iconst (pc := 2) dM_followed_2 (v := 0) rfl ?_
  exact x_invV (pc := 3) dM_followed_3 (c := 11) (S := []) (As := [.int v1, .int 0]) mlM_244 hM_of rfl (by decide) rfl kv0 ⟨by decide, by decide⟩ ⟨Nat.zero_le _, Nat.zero_le _⟩ rfl (Nat.le_of_ble_eq_true rfl) (aftI (b' := b) ⟨Nat.le_refl _, Nat.le_refl _⟩ (fun rv N h => h) h)

theorem vM_followed_6 {M : Mm} {b : Nat × Nat} {K : Int32 → Mm → Prop} {v0 : Nat} {v1 : Int32} {w0 : Int32} (kv0 : v0 % 64 = 11) 
    (h : (w0 = 4 → (X mM_followed 40 [(0, .ref v0), (1, .int v1), (2, .int 0), (3, .int 0)] [] M b (QI K))) ∧ (¬ w0 = 4 → (CI mM_of [.ref v0, .int v1, .int 6] M (fun rv N => X mM_followed 17 [(0, .ref v0), (1, .int v1)] [.int rv] N b (QI K))))) : X mM_followed 6 [(0, .ref v0), (1, .int v1)] [.int w0] M b (QI K) := by
  refine x_wf (fun hw => ?_)
  refine x_iconst (pc := 6) dM_followed_6 (v := 4) rfl ?_
  obtain ⟨g1_0, g1_1⟩ := h
  refine x_icmp_eq (pc := 7) dM_followed_7 (t := 36) rfl (fun q1 => ?_) (fun q1 => ?_)
  · refine x_iconst (pc := 36) dM_followed_36 (v := 0) rfl ?_
    have h := g1_0 q1
    refine x_istore_n (pc := 37) dM_followed_37 rfl (by decide) (L' := [(2, .int 0), (0, .ref v0), (1, .int v1)]) rfl ?_
    refine x_iconst (pc := 38) dM_followed_38 (v := 0) rfl ?_
    refine x_istore_n (pc := 39) dM_followed_39 rfl (by decide) (L' := [(3, .int 0), (2, .int 0), (0, .ref v0), (1, .int v1)]) rfl ?_
    exact x_loc [2, 3, 1, 0] rfl h
  · refine x_aload_n (pc := 10) dM_followed_10 rfl (q := 0) rfl ?_
    refine x_iload_n (pc := 11) dM_followed_11 rfl (q := 1) rfl ?_
    refine x_bipush (pc := 12) dM_followed_12 (v := 6) rfl ?_
    have h := g1_1 q1
    exact x_invV (pc := 14) dM_followed_14 (c := 11) (S := []) (As := [.int v1, .int 6]) mlM_244 hM_of rfl (by decide) rfl kv0 ⟨by decide, by decide⟩ ⟨Nat.zero_le _, Nat.zero_le _⟩ rfl (Nat.le_of_ble_eq_true rfl) (aftI (b' := b) ⟨Nat.le_refl _, Nat.le_refl _⟩ (fun rv N h => h) h)

theorem vM_followed_17 {M : Mm} {b : Nat × Nat} {K : Int32 → Mm → Prop} {v0 : Nat} {v1 : Int32} {w0 : Int32} (kv0 : v0 % 64 = 11) 
    (h : (¬ w0 = (-4) → (CI mM_of [.ref v0, .int v1, .int 6] M (fun rv N => X mM_followed 34 [] [.int rv, .int 1] N b (QI K)))) ∧ (w0 = (-4) → (K 0 M))) : X mM_followed 17 [(0, .ref v0), (1, .int v1)] [.int w0] M b (QI K) := by
  refine x_wf (fun hw => ?_)
  refine x_bipush (pc := 17) dM_followed_17 (v := (-4)) rfl ?_
  obtain ⟨g1_0, g1_1⟩ := h
  refine x_icmp_ne (pc := 19) dM_followed_19 (t := 26) rfl (fun q1 => ?_) (fun q1 => ?_)
  · refine x_iconst (pc := 26) dM_followed_26 (v := 1) rfl ?_
    refine x_aload_n (pc := 27) dM_followed_27 rfl (q := 0) rfl ?_
    refine x_iload_n (pc := 28) dM_followed_28 rfl (q := 1) rfl ?_
    refine x_bipush (pc := 29) dM_followed_29 (v := 6) rfl ?_
    have h := g1_0 q1
    exact x_invV (pc := 31) dM_followed_31 (c := 11) (S := [.int 1]) (As := [.int v1, .int 6]) mlM_244 hM_of rfl (by decide) rfl kv0 ⟨by decide, by decide⟩ ⟨Nat.zero_le _, Nat.zero_le _⟩ rfl (Nat.le_of_ble_eq_true rfl) (aftI (b' := b) ⟨Nat.le_refl _, Nat.le_refl _⟩ (fun rv N h => x_loc [] rfl h) h)
  · refine x_iconst (pc := 22) dM_followed_22 (v := 0) rfl ?_
    refine x_goto (pc := 23) dM_followed_23 (t := 35) rfl ?_
    have h := g1_1 q1
    exact x_retQI (pc := 35) dM_followed_35 rfl rfl h

theorem vM_followed_34 {M : Mm} {b : Nat × Nat} {K : Int32 → Mm → Prop} {w0 : Int32} {w1 : Int32}  
    (h : K (w1 <<< (w0 &&& 31)) M) : X mM_followed 34 [] [.int w0, .int w1] M b (QI K) := by
  refine x_wf (fun hw => ?_)
  refine x_ishl (pc := 34) dM_followed_34 ?_
  exact x_retQI (pc := 35) dM_followed_35 rfl rfl h

theorem vM_followed_40 {M : Mm} {b : Nat × Nat} {K : Int32 → Mm → Prop} {v0 : Nat} {v1 : Int32} {v2 : Int32} {v3 : Int32} (kv0 : v0 % 64 = 11) 
    (h : (v1 ≤ v3 → (K v2 M)) ∧ (¬ v1 ≤ v3 → (CI mM_of [.ref v0, .int v3, .int 1] M (fun rv N => X mM_followed 52 [(0, .ref v0), (1, .int v1), (3, .int v3)] [.int rv, .int v2] N b (QI K))))) : X mM_followed 40 [(0, .ref v0), (1, .int v1), (2, .int v2), (3, .int v3)] [] M b (QI K) := by
  refine x_wf (fun hw => ?_)
  refine x_iload_n (pc := 40) dM_followed_40 rfl (q := 3) rfl ?_
  refine x_iload_n (pc := 41) dM_followed_41 rfl (q := 1) rfl ?_
  obtain ⟨g1_0, g1_1⟩ := h
  refine x_icmp_ge (pc := 42) dM_followed_42 (t := 86) rfl (fun q1 => ?_) (fun q1 => ?_)
  · refine x_iload_n (pc := 86) dM_followed_86 rfl (q := 2) rfl ?_
    have h := g1_0 q1
    exact x_retQI (pc := 87) dM_followed_87 rfl rfl h
  · refine x_iload_n (pc := 45) dM_followed_45 rfl (q := 2) rfl ?_
    refine x_aload_n (pc := 46) dM_followed_46 rfl (q := 0) rfl ?_
    refine x_iload_n (pc := 47) dM_followed_47 rfl (q := 3) rfl ?_
    refine x_iconst (pc := 48) dM_followed_48 (v := 1) rfl ?_
    have h := g1_1 q1
    exact x_invV (pc := 49) dM_followed_49 (c := 11) (S := [.int v2]) (As := [.int v3, .int 1]) mlM_244 hM_of rfl (by decide) rfl kv0 ⟨by decide, by decide⟩ ⟨Nat.zero_le _, Nat.zero_le _⟩ rfl (Nat.le_of_ble_eq_true rfl) (aftI (b' := b) ⟨Nat.le_refl _, Nat.le_refl _⟩ (fun rv N h => x_loc [0, 1, 3] rfl h) h)

theorem vM_followed_52 {M : Mm} {b : Nat × Nat} {K : Int32 → Mm → Prop} {v0 : Nat} {v1 : Int32} {v3 : Int32} {w0 : Int32} {w1 : Int32} (kv0 : v0 % 64 = 11) 
    (h : CI mM_of [.ref v0, .int v1, .int 1] M (fun rv N => X mM_followed 58 [(0, .ref v0), (1, .int v1), (3, .int v3)] [.int rv, .int w0, .int w1] N b (QI K))) : X mM_followed 52 [(0, .ref v0), (1, .int v1), (3, .int v3)] [.int w0, .int w1] M b (QI K) := by
  refine x_wf (fun hw => ?_)
  refine x_aload_n (pc := 52) dM_followed_52 rfl (q := 0) rfl ?_
  refine x_iload_n (pc := 53) dM_followed_53 rfl (q := 1) rfl ?_
  refine x_iconst (pc := 54) dM_followed_54 (v := 1) rfl ?_
  exact x_invV (pc := 55) dM_followed_55 (c := 11) (S := [.int w0, .int w1]) (As := [.int v1, .int 1]) mlM_244 hM_of rfl (by decide) rfl kv0 ⟨by decide, by decide⟩ ⟨Nat.zero_le _, Nat.zero_le _⟩ rfl (Nat.le_of_ble_eq_true rfl) (aftI (b' := b) ⟨Nat.le_refl _, Nat.le_refl _⟩ (fun rv N h => h) h)

theorem vM_followed_58 {M : Mm} {b : Nat × Nat} {K : Int32 → Mm → Prop} {v0 : Nat} {v1 : Int32} {v3 : Int32} {w0 : Int32} {w1 : Int32} {w2 : Int32} (kv0 : v0 % 64 = 11) 
    (h : (¬ w1 = w0 → (X mM_followed 77 [(0, .ref v0), (1, .int v1), (3, .int v3)] [.int w2] M b (QI K))) ∧ (w1 = w0 → (CI mM_of [.ref v0, .int v3, .int 0] M (fun rv N => X mM_followed 67 [(0, .ref v0), (1, .int v1), (3, .int v3)] [.int rv, .int w2] N b (QI K))))) : X mM_followed 58 [(0, .ref v0), (1, .int v1), (3, .int v3)] [.int w0, .int w1, .int w2] M b (QI K) := by
  refine x_wf (fun hw => ?_)
  obtain ⟨g1_0, g1_1⟩ := h
  refine x_icmp_ne (pc := 58) dM_followed_58 (t := 77) rfl (fun q1 => ?_) (fun q1 => ?_)
  · have h := g1_0 q1
    exact h
  · refine x_aload_n (pc := 61) dM_followed_61 rfl (q := 0) rfl ?_
    refine x_iload_n (pc := 62) dM_followed_62 rfl (q := 2) rfl ?_
    refine x_iconst (pc := 63) dM_followed_63 (v := 0) rfl ?_
    have h := g1_1 q1
    exact x_invV (pc := 64) dM_followed_64 (c := 11) (S := [.int w2]) (As := [.int v3, .int 0]) mlM_244 hM_of rfl (by decide) rfl kv0 ⟨by decide, by decide⟩ ⟨Nat.zero_le _, Nat.zero_le _⟩ rfl (Nat.le_of_ble_eq_true rfl) (aftI (b' := b) ⟨Nat.le_refl _, Nat.le_refl _⟩ (fun rv N h => h) h)

theorem vM_followed_67 {M : Mm} {b : Nat × Nat} {K : Int32 → Mm → Prop} {v0 : Nat} {v1 : Int32} {v3 : Int32} {w0 : Int32} {w1 : Int32}  
    (h : (w0 = 3 → (X mM_followed 77 [(0, .ref v0), (1, .int v1), (3, .int v3)] [.int w1] M b (QI K))) ∧ (¬ w0 = 3 → (X mM_followed 78 [(0, .ref v0), (1, .int v1), (3, .int v3)] [.int ((1 : Int32) <<< (v3 &&& 31)), .int w1] M b (QI K)))) : X mM_followed 67 [(0, .ref v0), (1, .int v1), (3, .int v3)] [.int w0, .int w1] M b (QI K) := by
  refine x_wf (fun hw => ?_)
  refine x_iconst (pc := 67) dM_followed_67 (v := 3) rfl ?_
  obtain ⟨g1_0, g1_1⟩ := h
  refine x_icmp_eq (pc := 68) dM_followed_68 (t := 77) rfl (fun q1 => ?_) (fun q1 => ?_)
  · have h := g1_0 q1
    exact h
  · refine x_iconst (pc := 71) dM_followed_71 (v := 1) rfl ?_
    refine x_iload_n (pc := 72) dM_followed_72 rfl (q := 2) rfl ?_
    refine x_ishl (pc := 73) dM_followed_73 ?_
    refine x_goto (pc := 74) dM_followed_74 (t := 78) rfl ?_
    have h := g1_1 q1
    exact h

theorem vM_followed_77 {M : Mm} {b : Nat × Nat} {K : Int32 → Mm → Prop} {v0 : Nat} {v1 : Int32} {v3 : Int32} {w0 : Int32}  
    (h : X mM_followed 78 [(0, .ref v0), (1, .int v1), (3, .int v3)] [.int 0, .int w0] M b (QI K)) : X mM_followed 77 [(0, .ref v0), (1, .int v1), (3, .int v3)] [.int w0] M b (QI K) := by
  refine x_wf (fun hw => ?_)
  refine x_iconst (pc := 77) dM_followed_77 (v := 0) rfl ?_
  exact h

theorem vM_followed_78 {M : Mm} {b : Nat × Nat} {K : Int32 → Mm → Prop} {v0 : Nat} {v1 : Int32} {v3 : Int32} {w0 : Int32} {w1 : Int32}  
    (h : X mM_followed 40 [(0, .ref v0), (1, .int v1), (2, .int (w1 ||| w0)), (3, .int (v3 + 1))] [] M b (QI K)) : X mM_followed 78 [(0, .ref v0), (1, .int v1), (3, .int v3)] [.int w0, .int w1] M b (QI K) := by
  refine x_wf (fun hw => ?_)
  refine x_ior (pc := 78) dM_followed_78 ?_
  refine x_istore_n (pc := 79) dM_followed_79 rfl (by decide) (L' := [(2, .int (w1 ||| w0)), (0, .ref v0), (1, .int v1), (3, .int v3)]) rfl ?_
  refine x_iinc (pc := 80) dM_followed_80 (q := 3) rfl (v := v3 + 1) rfl (by decide) (L' := [(3, .int (v3 + 1)), (2, .int (w1 ||| w0)), (0, .ref v0), (1, .int v1)]) rfl ?_
  refine x_goto (pc := 83) dM_followed_83 (t := 40) rfl ?_
  exact x_loc [2, 3, 1, 0] rfl h

theorem dM_of_0 : decode (mB mM_of) 0 = .ok (.aload_n 0, 1) := op42 (by decide +kernel)
theorem dM_of_1 : decode (mB mM_of) 1 = .ok (.getfield 7, 3) := op180 0 7 (by decide +kernel)
theorem dM_of_4 : decode (mB mM_of) 4 = .ok (.bipush 10, 2) := op16 10 (by decide +kernel)
theorem dM_of_6 : decode (mB mM_of) 6 = .ok (.iload_n 1, 1) := op27 (by decide +kernel)
theorem dM_of_7 : decode (mB mM_of) 7 = .ok (.imul, 1) := op104 (by decide +kernel)
theorem dM_of_8 : decode (mB mM_of) 8 = .ok (.iload_n 2, 1) := op28 (by decide +kernel)
theorem dM_of_9 : decode (mB mM_of) 9 = .ok (.iadd, 1) := op96 (by decide +kernel)
theorem dM_of_10 : decode (mB mM_of) 10 = .ok (.iaload, 1) := op46 (by decide +kernel)
theorem dM_of_11 : decode (mB mM_of) 11 = .ok (.ireturn, 1) := op172 (by decide +kernel)

theorem vM_of_0 {M : Mm} {b : Nat × Nat} {K : Int32 → Mm → Prop} {v0 : Nat} {v1 : Int32} {v2 : Int32} {r1 : Nat} (kv0 : v0 % 64 = 11) (e1 : gr M v0 1 = some r1)
    (h : vp_in ((10 * v1) + v2) 250 ∧ (K (gi M r1 ((10 * v1) + v2).toNatClampNeg) M)) : X mM_of 0 [(0, .ref v0), (1, .int v1), (2, .int v2)] [] M b (QI K) := by
  refine x_wf (fun hw => ?_)
  refine x_aload_n (pc := 0) dM_of_0 rfl (q := 0) rfl ?_
  refine x_getR (pc := 1) dM_of_1 kv0 flM_7 rfl e1 ?_
  refine x_bipush (pc := 4) dM_of_4 (v := 10) rfl ?_
  refine x_iload_n (pc := 6) dM_of_6 rfl (q := 1) rfl ?_
  refine x_imul (pc := 7) dM_of_7 ?_
  refine x_iload_n (pc := 8) dM_of_8 rfl (q := 2) rfl ?_
  refine x_iadd (pc := 9) dM_of_9 ?_
  obtain ⟨s501, h⟩ := h
  refine x_aldIj (pc := 10) (j := ((10 * v1) + v2).toNatClampNeg) (Or.inl ⟨rfl, rfl⟩) dM_of_10 (wfk hw e1 kv0) ak_21 rfl s501 ?_
  exact x_retQI (pc := 11) dM_of_11 rfl rfl h

theorem dM_findSaid_0 : decode (mB mM_findSaid) 0 = .ok (.iconst 0, 1) := op3 (by decide +kernel)
theorem dM_findSaid_1 : decode (mB mM_findSaid) 1 = .ok (.istore_n 1, 1) := op60 (by decide +kernel)
theorem dM_findSaid_2 : decode (mB mM_findSaid) 2 = .ok (.iconst 0, 1) := op3 (by decide +kernel)
theorem dM_findSaid_3 : decode (mB mM_findSaid) 3 = .ok (.istore_n 2, 1) := op61 (by decide +kernel)
theorem dM_findSaid_4 : decode (mB mM_findSaid) 4 = .ok (.iload_n 2, 1) := op28 (by decide +kernel)
theorem dM_findSaid_5 : decode (mB mM_findSaid) 5 = .ok (.aload_n 0, 1) := op42 (by decide +kernel)
theorem dM_findSaid_6 : decode (mB mM_findSaid) 6 = .ok (.getfield 112, 3) := op180 0 112 (by decide +kernel)
theorem dM_findSaid_9 : decode (mB mM_findSaid) 9 = .ok (.if_icmp .ge 23, 3) := op162 0 23 (by decide +kernel)
theorem dM_findSaid_12 : decode (mB mM_findSaid) 12 = .ok (.aload_n 0, 1) := op42 (by decide +kernel)
theorem dM_findSaid_13 : decode (mB mM_findSaid) 13 = .ok (.getfield 51, 3) := op180 0 51 (by decide +kernel)
theorem dM_findSaid_16 : decode (mB mM_findSaid) 16 = .ok (.iload_n 2, 1) := op28 (by decide +kernel)
theorem dM_findSaid_17 : decode (mB mM_findSaid) 17 = .ok (.lconst 0, 1) := op9 (by decide +kernel)
theorem dM_findSaid_18 : decode (mB mM_findSaid) 18 = .ok (.lastore, 1) := op80 (by decide +kernel)
theorem dM_findSaid_19 : decode (mB mM_findSaid) 19 = .ok (.aload_n 0, 1) := op42 (by decide +kernel)
theorem dM_findSaid_20 : decode (mB mM_findSaid) 20 = .ok (.getfield 55, 3) := op180 0 55 (by decide +kernel)
theorem dM_findSaid_23 : decode (mB mM_findSaid) 23 = .ok (.iload_n 2, 1) := op28 (by decide +kernel)
theorem dM_findSaid_24 : decode (mB mM_findSaid) 24 = .ok (.lconst 0, 1) := op9 (by decide +kernel)
theorem dM_findSaid_25 : decode (mB mM_findSaid) 25 = .ok (.lastore, 1) := op80 (by decide +kernel)
theorem dM_findSaid_26 : decode (mB mM_findSaid) 26 = .ok (.iinc 2 1, 3) := op132 2 1 (by decide +kernel)
theorem dM_findSaid_29 : decode (mB mM_findSaid) 29 = .ok (.goto (-25), 3) := op167 255 231 (by decide +kernel)
theorem dM_findSaid_32 : decode (mB mM_findSaid) 32 = .ok (.iconst 0, 1) := op3 (by decide +kernel)
theorem dM_findSaid_33 : decode (mB mM_findSaid) 33 = .ok (.istore_n 2, 1) := op61 (by decide +kernel)
theorem dM_findSaid_34 : decode (mB mM_findSaid) 34 = .ok (.iload_n 2, 1) := op28 (by decide +kernel)
theorem dM_findSaid_35 : decode (mB mM_findSaid) 35 = .ok (.aload_n 0, 1) := op42 (by decide +kernel)
theorem dM_findSaid_36 : decode (mB mM_findSaid) 36 = .ok (.getfield 112, 3) := op180 0 112 (by decide +kernel)
theorem dM_findSaid_39 : decode (mB mM_findSaid) 39 = .ok (.if_icmp .ge 76, 3) := op162 0 76 (by decide +kernel)
theorem dM_findSaid_42 : decode (mB mM_findSaid) 42 = .ok (.iconst 0, 1) := op3 (by decide +kernel)
theorem dM_findSaid_43 : decode (mB mM_findSaid) 43 = .ok (.istore_n 3, 1) := op62 (by decide +kernel)
theorem dM_findSaid_44 : decode (mB mM_findSaid) 44 = .ok (.iload_n 3, 1) := op29 (by decide +kernel)
theorem dM_findSaid_45 : decode (mB mM_findSaid) 45 = .ok (.aload_n 0, 1) := op42 (by decide +kernel)
theorem dM_findSaid_46 : decode (mB mM_findSaid) 46 = .ok (.getfield 112, 3) := op180 0 112 (by decide +kernel)
theorem dM_findSaid_49 : decode (mB mM_findSaid) 49 = .ok (.if_icmp .ge 60, 3) := op162 0 60 (by decide +kernel)
theorem dM_findSaid_52 : decode (mB mM_findSaid) 52 = .ok (.iload_n 1, 1) := op27 (by decide +kernel)
theorem dM_findSaid_53 : decode (mB mM_findSaid) 53 = .ok (.iload_n 3, 1) := op29 (by decide +kernel)
theorem dM_findSaid_54 : decode (mB mM_findSaid) 54 = .ok (.ishr, 1) := op122 (by decide +kernel)
theorem dM_findSaid_55 : decode (mB mM_findSaid) 55 = .ok (.iconst 1, 1) := op4 (by decide +kernel)
theorem dM_findSaid_56 : decode (mB mM_findSaid) 56 = .ok (.iand, 1) := op126 (by decide +kernel)
theorem dM_findSaid_57 : decode (mB mM_findSaid) 57 = .ok (.ifCond .ne 27, 3) := op154 0 27 (by decide +kernel)
theorem dM_findSaid_60 : decode (mB mM_findSaid) 60 = .ok (.aload_n 0, 1) := op42 (by decide +kernel)
theorem dM_findSaid_61 : decode (mB mM_findSaid) 61 = .ok (.iload_n 3, 1) := op29 (by decide +kernel)
theorem dM_findSaid_62 : decode (mB mM_findSaid) 62 = .ok (.invokevirtual 257, 3) := op182 1 1 (by decide +kernel)
theorem dM_findSaid_65 : decode (mB mM_findSaid) 65 = .ok (.ifCond .ne 19, 3) := op154 0 19 (by decide +kernel)
theorem dM_findSaid_68 : decode (mB mM_findSaid) 68 = .ok (.aload_n 0, 1) := op42 (by decide +kernel)
theorem dM_findSaid_69 : decode (mB mM_findSaid) 69 = .ok (.iload_n 3, 1) := op29 (by decide +kernel)
theorem dM_findSaid_70 : decode (mB mM_findSaid) 70 = .ok (.invokevirtual 247, 3) := op182 0 247 (by decide +kernel)
theorem dM_findSaid_73 : decode (mB mM_findSaid) 73 = .ok (.iload_n 1, 1) := op27 (by decide +kernel)
theorem dM_findSaid_74 : decode (mB mM_findSaid) 74 = .ok (.iconst (-1), 1) := op2 (by decide +kernel)
theorem dM_findSaid_75 : decode (mB mM_findSaid) 75 = .ok (.ixor, 1) := op130 (by decide +kernel)
theorem dM_findSaid_76 : decode (mB mM_findSaid) 76 = .ok (.iand, 1) := op126 (by decide +kernel)
theorem dM_findSaid_77 : decode (mB mM_findSaid) 77 = .ok (.ifCond .ne 7, 3) := op154 0 7 (by decide +kernel)
theorem dM_findSaid_80 : decode (mB mM_findSaid) 80 = .ok (.iconst 1, 1) := op4 (by decide +kernel)
theorem dM_findSaid_81 : decode (mB mM_findSaid) 81 = .ok (.goto 4, 3) := op167 0 4 (by decide +kernel)
theorem dM_findSaid_84 : decode (mB mM_findSaid) 84 = .ok (.iconst 0, 1) := op3 (by decide +kernel)
theorem dM_findSaid_85 : decode (mB mM_findSaid) 85 = .ok (.istore 4, 2) := op54 4 (by decide +kernel)
theorem dM_findSaid_87 : decode (mB mM_findSaid) 87 = .ok (.iload 4, 2) := op21 4 (by decide +kernel)
theorem dM_findSaid_89 : decode (mB mM_findSaid) 89 = .ok (.ifCond .eq 14, 3) := op153 0 14 (by decide +kernel)
theorem dM_findSaid_92 : decode (mB mM_findSaid) 92 = .ok (.aload_n 0, 1) := op42 (by decide +kernel)
theorem dM_findSaid_93 : decode (mB mM_findSaid) 93 = .ok (.iload_n 3, 1) := op29 (by decide +kernel)
theorem dM_findSaid_94 : decode (mB mM_findSaid) 94 = .ok (.invokevirtual 261, 3) := op182 1 5 (by decide +kernel)
theorem dM_findSaid_97 : decode (mB mM_findSaid) 97 = .ok (.iload_n 1, 1) := op27 (by decide +kernel)
theorem dM_findSaid_98 : decode (mB mM_findSaid) 98 = .ok (.iconst 1, 1) := op4 (by decide +kernel)
theorem dM_findSaid_99 : decode (mB mM_findSaid) 99 = .ok (.iload_n 3, 1) := op29 (by decide +kernel)
theorem dM_findSaid_100 : decode (mB mM_findSaid) 100 = .ok (.ishl, 1) := op120 (by decide +kernel)
theorem dM_findSaid_101 : decode (mB mM_findSaid) 101 = .ok (.ior, 1) := op128 (by decide +kernel)
theorem dM_findSaid_102 : decode (mB mM_findSaid) 102 = .ok (.istore_n 1, 1) := op60 (by decide +kernel)
theorem dM_findSaid_103 : decode (mB mM_findSaid) 103 = .ok (.iinc 3 1, 3) := op132 3 1 (by decide +kernel)
theorem dM_findSaid_106 : decode (mB mM_findSaid) 106 = .ok (.goto (-62), 3) := op167 255 194 (by decide +kernel)
theorem dM_findSaid_109 : decode (mB mM_findSaid) 109 = .ok (.iinc 2 1, 3) := op132 2 1 (by decide +kernel)
theorem dM_findSaid_112 : decode (mB mM_findSaid) 112 = .ok (.goto (-78), 3) := op167 255 178 (by decide +kernel)
theorem dM_findSaid_115 : decode (mB mM_findSaid) 115 = .ok (.return_, 1) := op177 (by decide +kernel)

theorem vM_findSaid_0 {M : Mm} {b : Nat × Nat} {K : Mm → Prop} {v0 : Nat}  
    (h : X mM_findSaid 4 [(0, .ref v0), (1, .int 0), (2, .int 0)] [] M b (QV K)) : X mM_findSaid 0 [(0, .ref v0)] [] M b (QV K) := by
  refine x_wf (fun hw => ?_)
  refine x_iconst (pc := 0) dM_findSaid_0 (v := 0) rfl ?_
  refine x_istore_n (pc := 1) dM_findSaid_1 rfl (by decide) (L' := [(1, .int 0), (0, .ref v0)]) rfl ?_
  refine x_iconst (pc := 2) dM_findSaid_2 (v := 0) rfl ?_
  refine x_istore_n (pc := 3) dM_findSaid_3 rfl (by decide) (L' := [(2, .int 0), (1, .int 0), (0, .ref v0)]) rfl ?_
  exact x_loc [2, 1, 0] rfl h

theorem vM_findSaid_4 {M : Mm} {b : Nat × Nat} {K : Mm → Prop} {v0 : Nat} {v1 : Int32} {v2 : Int32} {r1 : Nat} {r2 : Nat} (kv0 : v0 % 64 = 11) (e1 : gr M v0 25 = some r1) (e2 : gr M v0 26 = some r2)
    (h : ((gi M v0 0) ≤ v2 → (X mM_findSaid 34 [(0, .ref v0), (1, .int v1), (2, .int 0)] [] M b (QV K))) ∧ (¬ (gi M v0 0) ≤ v2 → (vp_in v2 25 ∧ (vp_in v2 25 ∧ (X mM_findSaid 4 [(0, .ref v0), (1, .int v1), (2, .int (v2 + 1))] [] (sl (sl M r1 (v2).toNatClampNeg 0) r2 (v2).toNatClampNeg 0) b (QV K)))))) : X mM_findSaid 4 [(0, .ref v0), (1, .int v1), (2, .int v2)] [] M b (QV K) := by
  refine x_wf (fun hw => ?_)
  refine x_iload_n (pc := 4) dM_findSaid_4 rfl (q := 2) rfl ?_
  refine x_aload_n (pc := 5) dM_findSaid_5 rfl (q := 0) rfl ?_
  refine x_getI (pc := 6) dM_findSaid_6 kv0 flM_112 rfl ?_
  obtain ⟨g1_0, g1_1⟩ := h
  refine x_icmp_ge (pc := 9) dM_findSaid_9 (t := 32) rfl (fun q1 => ?_) (fun q1 => ?_)
  · refine x_iconst (pc := 32) dM_findSaid_32 (v := 0) rfl ?_
    have h := g1_0 q1
    refine x_istore_n (pc := 33) dM_findSaid_33 rfl (by decide) (L' := [(2, .int 0), (0, .ref v0), (1, .int v1)]) rfl ?_
    exact x_loc [1, 2, 0] rfl h
  · refine x_aload_n (pc := 12) dM_findSaid_12 rfl (q := 0) rfl ?_
    refine x_getR (pc := 13) dM_findSaid_13 kv0 flM_51 rfl e1 ?_
    refine x_iload_n (pc := 16) dM_findSaid_16 rfl (q := 2) rfl ?_
    refine x_lconst (pc := 17) dM_findSaid_17 (v := 0) rfl ?_
    have h := g1_1 q1
    obtain ⟨s501, h⟩ := h
    refine x_astLj (pc := 18) (j := (v2).toNatClampNeg) dM_findSaid_18 (wfk hw e1 kv0) ak_26 rfl s501 ?_
    refine x_aload_n (pc := 19) dM_findSaid_19 rfl (q := 0) rfl ?_
    refine x_getR (pc := 20) dM_findSaid_20 kv0 flM_55 rfl e2 ?_
    refine x_iload_n (pc := 23) dM_findSaid_23 rfl (q := 2) rfl ?_
    refine x_lconst (pc := 24) dM_findSaid_24 (v := 0) rfl ?_
    obtain ⟨s502, h⟩ := h
    refine x_astLj (pc := 25) (j := (v2).toNatClampNeg) dM_findSaid_25 (wfk hw e2 kv0) ak_26 rfl s502 ?_
    refine x_iinc (pc := 26) dM_findSaid_26 (q := 2) rfl (v := v2 + 1) rfl (by decide) (L' := [(2, .int (v2 + 1)), (0, .ref v0), (1, .int v1)]) rfl ?_
    refine x_goto (pc := 29) dM_findSaid_29 (t := 4) rfl ?_
    exact x_loc [1, 2, 0] rfl h

theorem vM_findSaid_34 {M : Mm} {b : Nat × Nat} {K : Mm → Prop} {v0 : Nat} {v1 : Int32} {v2 : Int32} (kv0 : v0 % 64 = 11) 
    (h : ((gi M v0 0) ≤ v2 → (K M)) ∧ (¬ (gi M v0 0) ≤ v2 → (X mM_findSaid 44 [(0, .ref v0), (1, .int v1), (2, .int v2), (3, .int 0)] [] M b (QV K)))) : X mM_findSaid 34 [(0, .ref v0), (1, .int v1), (2, .int v2)] [] M b (QV K) := by
  refine x_wf (fun hw => ?_)
  refine x_iload_n (pc := 34) dM_findSaid_34 rfl (q := 2) rfl ?_
  refine x_aload_n (pc := 35) dM_findSaid_35 rfl (q := 0) rfl ?_
  refine x_getI (pc := 36) dM_findSaid_36 kv0 flM_112 rfl ?_
  obtain ⟨g1_0, g1_1⟩ := h
  refine x_icmp_ge (pc := 39) dM_findSaid_39 (t := 115) rfl (fun q1 => ?_) (fun q1 => ?_)
  · have h := g1_0 q1
    exact x_retQV (pc := 115) dM_findSaid_115 rfl h
  · refine x_iconst (pc := 42) dM_findSaid_42 (v := 0) rfl ?_
    have h := g1_1 q1
    refine x_istore_n (pc := 43) dM_findSaid_43 rfl (by decide) (L' := [(3, .int 0), (0, .ref v0), (1, .int v1), (2, .int v2)]) rfl ?_
    exact x_loc [1, 2, 3, 0] rfl h

theorem vM_findSaid_44 {M : Mm} {b : Nat × Nat} {K : Mm → Prop} {v0 : Nat} {v1 : Int32} {v2 : Int32} {v3 : Int32} (kv0 : v0 % 64 = 11) 
    (h : ((gi M v0 0) ≤ v3 → (X mM_findSaid 34 [(0, .ref v0), (1, .int v1), (2, .int (v2 + 1))] [] M b (QV K))) ∧ ((¬ (gi M v0 0) ≤ v3 ∧ ¬ ((v1 >>> (v3 &&& 31)) &&& 1) = 0) → (X mM_findSaid 84 [(0, .ref v0), (1, .int v1), (2, .int v2), (3, .int v3)] [] M b (QV K))) ∧ ((¬ (gi M v0 0) ≤ v3 ∧ ((v1 >>> (v3 &&& 31)) &&& 1) = 0) → (CI mM_isUnsound [.ref v0, .int v3] M (fun rv N => X mM_findSaid 65 [(0, .ref v0), (1, .int v1), (2, .int v2), (3, .int v3)] [.int rv] N b (QV K))))) : X mM_findSaid 44 [(0, .ref v0), (1, .int v1), (2, .int v2), (3, .int v3)] [] M b (QV K) := by
  refine x_wf (fun hw => ?_)
  refine x_iload_n (pc := 44) dM_findSaid_44 rfl (q := 3) rfl ?_
  refine x_aload_n (pc := 45) dM_findSaid_45 rfl (q := 0) rfl ?_
  refine x_getI (pc := 46) dM_findSaid_46 kv0 flM_112 rfl ?_
  obtain ⟨g1_0, g1_1, g1_2⟩ := h
  refine x_icmp_ge (pc := 49) dM_findSaid_49 (t := 109) rfl (fun q1 => ?_) (fun q1 => ?_)
  · have h := g1_0 q1
    refine x_iinc (pc := 109) dM_findSaid_109 (q := 2) rfl (v := v2 + 1) rfl (by decide) (L' := [(2, .int (v2 + 1)), (0, .ref v0), (1, .int v1), (3, .int v3)]) rfl ?_
    refine x_goto (pc := 112) dM_findSaid_112 (t := 34) rfl ?_
    exact x_loc [1, 2, 0] rfl h
  · refine x_iload_n (pc := 52) dM_findSaid_52 rfl (q := 1) rfl ?_
    refine x_iload_n (pc := 53) dM_findSaid_53 rfl (q := 3) rfl ?_
    refine x_ishr (pc := 54) dM_findSaid_54 ?_
    refine x_iconst (pc := 55) dM_findSaid_55 (v := 1) rfl ?_
    refine x_iand (pc := 56) dM_findSaid_56 ?_
    refine x_if_ne (pc := 57) dM_findSaid_57 (t := 84) rfl (fun q2 => ?_) (fun q2 => ?_)
    · have h := g1_1 ⟨q1, q2⟩
      exact h
    · refine x_aload_n (pc := 60) dM_findSaid_60 rfl (q := 0) rfl ?_
      refine x_iload_n (pc := 61) dM_findSaid_61 rfl (q := 3) rfl ?_
      have h := g1_2 ⟨q1, q2⟩
      exact x_invV (pc := 62) dM_findSaid_62 (c := 11) (S := []) (As := [.int v3]) mlM_257 hM_isUnsound rfl (by decide) rfl kv0 ⟨by decide, by decide⟩ ⟨Nat.zero_le _, Nat.zero_le _⟩ rfl (Nat.le_of_ble_eq_true rfl) (aftI (b' := b) ⟨Nat.le_refl _, Nat.le_refl _⟩ (fun rv N h => h) h)

theorem vM_findSaid_65 {M : Mm} {b : Nat × Nat} {K : Mm → Prop} {v0 : Nat} {v1 : Int32} {v2 : Int32} {v3 : Int32} {w0 : Int32} (kv0 : v0 % 64 = 11) 
    (h : (¬ w0 = 0 → (X mM_findSaid 84 [(0, .ref v0), (1, .int v1), (2, .int v2), (3, .int v3)] [] M b (QV K))) ∧ (w0 = 0 → (CI mM_followed [.ref v0, .int v3] M (fun rv N => X mM_findSaid 73 [(0, .ref v0), (1, .int v1), (2, .int v2), (3, .int v3)] [.int rv] N b (QV K))))) : X mM_findSaid 65 [(0, .ref v0), (1, .int v1), (2, .int v2), (3, .int v3)] [.int w0] M b (QV K) := by
  refine x_wf (fun hw => ?_)
  obtain ⟨g1_0, g1_1⟩ := h
  refine x_if_ne (pc := 65) dM_findSaid_65 (t := 84) rfl (fun q1 => ?_) (fun q1 => ?_)
  · have h := g1_0 q1
    exact h
  · refine x_aload_n (pc := 68) dM_findSaid_68 rfl (q := 0) rfl ?_
    refine x_iload_n (pc := 69) dM_findSaid_69 rfl (q := 3) rfl ?_
    have h := g1_1 q1
    exact x_invV (pc := 70) dM_findSaid_70 (c := 11) (S := []) (As := [.int v3]) mlM_247 hM_followed rfl (by decide) rfl kv0 ⟨by decide, by decide⟩ ⟨Nat.zero_le _, Nat.zero_le _⟩ rfl (Nat.le_of_ble_eq_true rfl) (aftI (b' := b) ⟨Nat.le_refl _, Nat.le_refl _⟩ (fun rv N h => h) h)

theorem vM_findSaid_73 {M : Mm} {b : Nat × Nat} {K : Mm → Prop} {v0 : Nat} {v1 : Int32} {v2 : Int32} {v3 : Int32} {w0 : Int32}  
    (h : (¬ (w0 &&& (v1 ^^^ (-1))) = 0 → (X mM_findSaid 84 [(0, .ref v0), (1, .int v1), (2, .int v2), (3, .int v3)] [] M b (QV K))) ∧ ((w0 &&& (v1 ^^^ (-1))) = 0 → (X mM_findSaid 85 [(0, .ref v0), (1, .int v1), (2, .int v2), (3, .int v3)] [.int 1] M b (QV K)))) : X mM_findSaid 73 [(0, .ref v0), (1, .int v1), (2, .int v2), (3, .int v3)] [.int w0] M b (QV K) := by
  refine x_wf (fun hw => ?_)
  refine x_iload_n (pc := 73) dM_findSaid_73 rfl (q := 1) rfl ?_
  refine x_iconst (pc := 74) dM_findSaid_74 (v := (-1)) rfl ?_
  refine x_ixor (pc := 75) dM_findSaid_75 ?_
  refine x_iand (pc := 76) dM_findSaid_76 ?_
  obtain ⟨g1_0, g1_1⟩ := h
  refine x_if_ne (pc := 77) dM_findSaid_77 (t := 84) rfl (fun q1 => ?_) (fun q1 => ?_)
  · have h := g1_0 q1
    exact h
  · refine x_iconst (pc := 80) dM_findSaid_80 (v := 1) rfl ?_
    refine x_goto (pc := 81) dM_findSaid_81 (t := 85) rfl ?_
    have h := g1_1 q1
    exact h

theorem vM_findSaid_84 {M : Mm} {b : Nat × Nat} {K : Mm → Prop} {v0 : Nat} {v1 : Int32} {v2 : Int32} {v3 : Int32}  
    (h : X mM_findSaid 85 [(0, .ref v0), (1, .int v1), (2, .int v2), (3, .int v3)] [.int 0] M b (QV K)) : X mM_findSaid 84 [(0, .ref v0), (1, .int v1), (2, .int v2), (3, .int v3)] [] M b (QV K) := by
  refine x_wf (fun hw => ?_)
  refine x_iconst (pc := 84) dM_findSaid_84 (v := 0) rfl ?_
  exact h

theorem vM_findSaid_85 {M : Mm} {b : Nat × Nat} {K : Mm → Prop} {v0 : Nat} {v1 : Int32} {v2 : Int32} {v3 : Int32} {w0 : Int32} (kv0 : v0 % 64 = 11) 
    (h : (w0 = 0 → (X mM_findSaid 44 [(0, .ref v0), (1, .int v1), (2, .int v2), (3, .int (v3 + 1))] [] M b (QV K))) ∧ (¬ w0 = 0 → (CV mM_sayWord [.ref v0, .int v3] M (fun N => X mM_findSaid 97 [(0, .ref v0), (1, .int v1), (2, .int v2), (3, .int v3)] [] N b (QV K))))) : X mM_findSaid 85 [(0, .ref v0), (1, .int v1), (2, .int v2), (3, .int v3)] [.int w0] M b (QV K) := by
  refine x_wf (fun hw => ?_)
  refine x_istore (pc := 85) dM_findSaid_85 (by decide) (L' := [(4, .int w0), (0, .ref v0), (1, .int v1), (2, .int v2), (3, .int v3)]) rfl ?_
  refine x_iload (pc := 87) dM_findSaid_87 (q := 0) rfl ?_
  obtain ⟨g1_0, g1_1⟩ := h
  refine x_if_eq (pc := 89) dM_findSaid_89 (t := 103) rfl (fun q1 => ?_) (fun q1 => ?_)
  · have h := g1_0 q1
    refine x_iinc (pc := 103) dM_findSaid_103 (q := 4) rfl (v := v3 + 1) rfl (by decide) (L' := [(3, .int (v3 + 1)), (4, .int w0), (0, .ref v0), (1, .int v1), (2, .int v2)]) rfl ?_
    refine x_goto (pc := 106) dM_findSaid_106 (t := 44) rfl ?_
    exact x_loc [2, 3, 4, 0] rfl h
  · refine x_aload_n (pc := 92) dM_findSaid_92 rfl (q := 1) rfl ?_
    refine x_iload_n (pc := 93) dM_findSaid_93 rfl (q := 4) rfl ?_
    have h := g1_1 q1
    exact x_invV (pc := 94) dM_findSaid_94 (c := 11) (S := []) (As := [.int v3]) mlM_261 hM_sayWord rfl (by decide) rfl kv0 ⟨by decide, by decide⟩ ⟨Nat.zero_le _, Nat.zero_le _⟩ rfl (Nat.le_of_ble_eq_true rfl) (aftV (b' := b) ⟨Nat.le_refl _, Nat.le_refl _⟩ (fun N h => x_loc [1, 2, 3, 4] rfl h) h)

theorem vM_findSaid_97 {M : Mm} {b : Nat × Nat} {K : Mm → Prop} {v0 : Nat} {v1 : Int32} {v2 : Int32} {v3 : Int32}  
    (h : X mM_findSaid 44 [(0, .ref v0), (1, .int (v1 ||| ((1 : Int32) <<< (v3 &&& 31)))), (2, .int v2), (3, .int (v3 + 1))] [] M b (QV K)) : X mM_findSaid 97 [(0, .ref v0), (1, .int v1), (2, .int v2), (3, .int v3)] [] M b (QV K) := by
  refine x_wf (fun hw => ?_)
  refine x_iload_n (pc := 97) dM_findSaid_97 rfl (q := 1) rfl ?_
  refine x_iconst (pc := 98) dM_findSaid_98 (v := 1) rfl ?_
  refine x_iload_n (pc := 99) dM_findSaid_99 rfl (q := 3) rfl ?_
  refine x_ishl (pc := 100) dM_findSaid_100 ?_
  refine x_ior (pc := 101) dM_findSaid_101 ?_
  refine x_istore_n (pc := 102) dM_findSaid_102 rfl (by decide) (L' := [(1, .int (v1 ||| ((1 : Int32) <<< (v3 &&& 31)))), (0, .ref v0), (2, .int v2), (3, .int v3)]) rfl ?_
  refine x_iinc (pc := 103) dM_findSaid_103 (q := 3) rfl (v := v3 + 1) rfl (by decide) (L' := [(3, .int (v3 + 1)), (1, .int (v1 ||| ((1 : Int32) <<< (v3 &&& 31)))), (0, .ref v0), (2, .int v2)]) rfl ?_
  refine x_goto (pc := 106) dM_findSaid_106 (t := 44) rfl ?_
  exact x_loc [2, 1, 3, 0] rfl h

theorem dM_isUnsound_0 : decode (mB mM_isUnsound) 0 = .ok (.aload_n 0, 1) := op42 (by decide +kernel)
theorem dM_isUnsound_1 : decode (mB mM_isUnsound) 1 = .ok (.getfield 241, 3) := op180 0 241 (by decide +kernel)
theorem dM_isUnsound_4 : decode (mB mM_isUnsound) 4 = .ok (.iload_n 1, 1) := op27 (by decide +kernel)
theorem dM_isUnsound_5 : decode (mB mM_isUnsound) 5 = .ok (.ishr, 1) := op122 (by decide +kernel)
theorem dM_isUnsound_6 : decode (mB mM_isUnsound) 6 = .ok (.iconst 1, 1) := op4 (by decide +kernel)
theorem dM_isUnsound_7 : decode (mB mM_isUnsound) 7 = .ok (.iand, 1) := op126 (by decide +kernel)
theorem dM_isUnsound_8 : decode (mB mM_isUnsound) 8 = .ok (.iconst 1, 1) := op4 (by decide +kernel)
theorem dM_isUnsound_9 : decode (mB mM_isUnsound) 9 = .ok (.if_icmp .ne 7, 3) := op160 0 7 (by decide +kernel)
theorem dM_isUnsound_12 : decode (mB mM_isUnsound) 12 = .ok (.iconst 1, 1) := op4 (by decide +kernel)
theorem dM_isUnsound_13 : decode (mB mM_isUnsound) 13 = .ok (.goto 4, 3) := op167 0 4 (by decide +kernel)
theorem dM_isUnsound_16 : decode (mB mM_isUnsound) 16 = .ok (.iconst 0, 1) := op3 (by decide +kernel)
theorem dM_isUnsound_17 : decode (mB mM_isUnsound) 17 = .ok (.ireturn, 1) := op172 (by decide +kernel)

theorem vM_isUnsound_0 {M : Mm} {b : Nat × Nat} {K : Int32 → Mm → Prop} {v0 : Nat} {v1 : Int32} (kv0 : v0 % 64 = 11) 
    (h : K (if (((gi M v0 24) >>> (v1 &&& 31)) &&& 1) = 1 then 1 else 0 : Int32) M) : X mM_isUnsound 0 [(0, .ref v0), (1, .int v1)] [] M b (QI K) := by
  refine x_wf (fun hw => ?_)
  refine x_aload_n (pc := 0) dM_isUnsound_0 rfl (q := 0) rfl ?_
  refine x_getI (pc := 1) dM_isUnsound_1 kv0 flM_241 rfl ?_
  refine x_iload_n (pc := 4) dM_isUnsound_4 rfl (q := 1) rfl ?_
  refine x_ishr (pc := 5) dM_isUnsound_5 ?_
  refine x_iconst (pc := 6) dM_isUnsound_6 (v := 1) rfl ?_
  refine x_iand (pc := 7) dM_isUnsound_7 ?_
  refine x_iconst (pc := 8) dM_isUnsound_8 (v := 1) rfl ?_
  suffices hJ : X mM_isUnsound 17 [(0, .ref v0), (1, .int v1)] [.int (if (((gi M v0 24) >>> (v1 &&& 31)) &&& 1) = 1 then 1 else 0 : Int32)] M b (QI K) by
    refine x_icmp_ne (pc := 9) dM_isUnsound_9 (t := 16) rfl (fun q1 => ?_) (fun q1 => ?_)
    · refine x_iconst (pc := 16) dM_isUnsound_16 (v := 0) rfl ?_
      first | (rw [if_neg q1] at hJ; exact hJ) | (simp only [if_neg q1] at hJ ⊢; exact hJ)
    · refine x_iconst (pc := 12) dM_isUnsound_12 (v := 1) rfl ?_
      refine x_goto (pc := 13) dM_isUnsound_13 (t := 17) rfl ?_
      first | (rw [if_pos q1] at hJ; exact hJ) | (simp only [if_pos q1] at hJ ⊢; exact hJ)
  exact x_retQI (pc := 17) dM_isUnsound_17 rfl (by (repeat' split) <;> rfl) h

theorem dM_sayWord_0 : decode (mB mM_sayWord) 0 = .ok (.aload_n 0, 1) := op42 (by decide +kernel)
theorem dM_sayWord_1 : decode (mB mM_sayWord) 1 = .ok (.iload_n 1, 1) := op27 (by decide +kernel)
theorem dM_sayWord_2 : decode (mB mM_sayWord) 2 = .ok (.iconst 0, 1) := op3 (by decide +kernel)
theorem dM_sayWord_3 : decode (mB mM_sayWord) 3 = .ok (.invokevirtual 244, 3) := op182 0 244 (by decide +kernel)
theorem dM_sayWord_6 : decode (mB mM_sayWord) 6 = .ok (.istore_n 2, 1) := op61 (by decide +kernel)
theorem dM_sayWord_7 : decode (mB mM_sayWord) 7 = .ok (.iload_n 2, 1) := op28 (by decide +kernel)
theorem dM_sayWord_8 : decode (mB mM_sayWord) 8 = .ok (.ifCond .eq 8, 3) := op153 0 8 (by decide +kernel)
theorem dM_sayWord_11 : decode (mB mM_sayWord) 11 = .ok (.iload_n 2, 1) := op28 (by decide +kernel)
theorem dM_sayWord_12 : decode (mB mM_sayWord) 12 = .ok (.iconst 5, 1) := op8 (by decide +kernel)
theorem dM_sayWord_13 : decode (mB mM_sayWord) 13 = .ok (.if_icmp .ne 65, 3) := op160 0 65 (by decide +kernel)
theorem dM_sayWord_16 : decode (mB mM_sayWord) 16 = .ok (.aload_n 0, 1) := op42 (by decide +kernel)
theorem dM_sayWord_17 : decode (mB mM_sayWord) 17 = .ok (.aload_n 0, 1) := op42 (by decide +kernel)
theorem dM_sayWord_18 : decode (mB mM_sayWord) 18 = .ok (.iload_n 1, 1) := op27 (by decide +kernel)
theorem dM_sayWord_19 : decode (mB mM_sayWord) 19 = .ok (.iconst 3, 1) := op6 (by decide +kernel)
theorem dM_sayWord_20 : decode (mB mM_sayWord) 20 = .ok (.invokevirtual 244, 3) := op182 0 244 (by decide +kernel)
theorem dM_sayWord_23 : decode (mB mM_sayWord) 23 = .ok (.aload_n 0, 1) := op42 (by decide +kernel)
theorem dM_sayWord_24 : decode (mB mM_sayWord) 24 = .ok (.iload_n 1, 1) := op27 (by decide +kernel)
theorem dM_sayWord_25 : decode (mB mM_sayWord) 25 = .ok (.iconst 4, 1) := op7 (by decide +kernel)
theorem dM_sayWord_26 : decode (mB mM_sayWord) 26 = .ok (.invokevirtual 244, 3) := op182 0 244 (by decide +kernel)
theorem dM_sayWord_29 : decode (mB mM_sayWord) 29 = .ok (.invokevirtual 253, 3) := op182 0 253 (by decide +kernel)
theorem dM_sayWord_32 : decode (mB mM_sayWord) 32 = .ok (.lstore_n 3, 1) := op66 (by decide +kernel)
theorem dM_sayWord_33 : decode (mB mM_sayWord) 33 = .ok (.aload_n 0, 1) := op42 (by decide +kernel)
theorem dM_sayWord_34 : decode (mB mM_sayWord) 34 = .ok (.getfield 51, 3) := op180 0 51 (by decide +kernel)
theorem dM_sayWord_37 : decode (mB mM_sayWord) 37 = .ok (.iload_n 1, 1) := op27 (by decide +kernel)
theorem dM_sayWord_38 : decode (mB mM_sayWord) 38 = .ok (.aload_n 0, 1) := op42 (by decide +kernel)
theorem dM_sayWord_39 : decode (mB mM_sayWord) 39 = .ok (.iload_n 1, 1) := op27 (by decide +kernel)
theorem dM_sayWord_40 : decode (mB mM_sayWord) 40 = .ok (.iconst 5, 1) := op8 (by decide +kernel)
theorem dM_sayWord_41 : decode (mB mM_sayWord) 41 = .ok (.invokevirtual 244, 3) := op182 0 244 (by decide +kernel)
theorem dM_sayWord_44 : decode (mB mM_sayWord) 44 = .ok (.iconst 1, 1) := op4 (by decide +kernel)
theorem dM_sayWord_45 : decode (mB mM_sayWord) 45 = .ok (.if_icmp .ne 7, 3) := op160 0 7 (by decide +kernel)
theorem dM_sayWord_48 : decode (mB mM_sayWord) 48 = .ok (.lload_n 3, 1) := op33 (by decide +kernel)
theorem dM_sayWord_49 : decode (mB mM_sayWord) 49 = .ok (.goto 4, 3) := op167 0 4 (by decide +kernel)
theorem dM_sayWord_52 : decode (mB mM_sayWord) 52 = .ok (.lconst 0, 1) := op9 (by decide +kernel)
theorem dM_sayWord_53 : decode (mB mM_sayWord) 53 = .ok (.lastore, 1) := op80 (by decide +kernel)
theorem dM_sayWord_54 : decode (mB mM_sayWord) 54 = .ok (.aload_n 0, 1) := op42 (by decide +kernel)
theorem dM_sayWord_55 : decode (mB mM_sayWord) 55 = .ok (.getfield 55, 3) := op180 0 55 (by decide +kernel)
theorem dM_sayWord_58 : decode (mB mM_sayWord) 58 = .ok (.iload_n 1, 1) := op27 (by decide +kernel)
theorem dM_sayWord_59 : decode (mB mM_sayWord) 59 = .ok (.aload_n 0, 1) := op42 (by decide +kernel)
theorem dM_sayWord_60 : decode (mB mM_sayWord) 60 = .ok (.iload_n 1, 1) := op27 (by decide +kernel)
theorem dM_sayWord_61 : decode (mB mM_sayWord) 61 = .ok (.iconst 5, 1) := op8 (by decide +kernel)
theorem dM_sayWord_62 : decode (mB mM_sayWord) 62 = .ok (.invokevirtual 244, 3) := op182 0 244 (by decide +kernel)
theorem dM_sayWord_65 : decode (mB mM_sayWord) 65 = .ok (.iconst 1, 1) := op4 (by decide +kernel)
theorem dM_sayWord_66 : decode (mB mM_sayWord) 66 = .ok (.if_icmp .ne 7, 3) := op160 0 7 (by decide +kernel)
theorem dM_sayWord_69 : decode (mB mM_sayWord) 69 = .ok (.lconst 0, 1) := op9 (by decide +kernel)
theorem dM_sayWord_70 : decode (mB mM_sayWord) 70 = .ok (.goto 4, 3) := op167 0 4 (by decide +kernel)
theorem dM_sayWord_73 : decode (mB mM_sayWord) 73 = .ok (.lload_n 3, 1) := op33 (by decide +kernel)
theorem dM_sayWord_74 : decode (mB mM_sayWord) 74 = .ok (.lastore, 1) := op80 (by decide +kernel)
theorem dM_sayWord_75 : decode (mB mM_sayWord) 75 = .ok (.goto 224, 3) := op167 0 224 (by decide +kernel)
theorem dM_sayWord_78 : decode (mB mM_sayWord) 78 = .ok (.iload_n 2, 1) := op28 (by decide +kernel)
theorem dM_sayWord_79 : decode (mB mM_sayWord) 79 = .ok (.iconst 4, 1) := op7 (by decide +kernel)
theorem dM_sayWord_80 : decode (mB mM_sayWord) 80 = .ok (.if_icmp .ne 159, 3) := op160 0 159 (by decide +kernel)
theorem dM_sayWord_83 : decode (mB mM_sayWord) 83 = .ok (.iconst 0, 1) := op3 (by decide +kernel)
theorem dM_sayWord_84 : decode (mB mM_sayWord) 84 = .ok (.istore_n 3, 1) := op62 (by decide +kernel)
theorem dM_sayWord_85 : decode (mB mM_sayWord) 85 = .ok (.iconst 0, 1) := op3 (by decide +kernel)
theorem dM_sayWord_86 : decode (mB mM_sayWord) 86 = .ok (.istore 4, 2) := op54 4 (by decide +kernel)
theorem dM_sayWord_88 : decode (mB mM_sayWord) 88 = .ok (.iconst 0, 1) := op3 (by decide +kernel)
theorem dM_sayWord_89 : decode (mB mM_sayWord) 89 = .ok (.istore 5, 2) := op54 5 (by decide +kernel)
theorem dM_sayWord_91 : decode (mB mM_sayWord) 91 = .ok (.iload 5, 2) := op21 5 (by decide +kernel)
theorem dM_sayWord_93 : decode (mB mM_sayWord) 93 = .ok (.iload_n 1, 1) := op27 (by decide +kernel)
theorem dM_sayWord_94 : decode (mB mM_sayWord) 94 = .ok (.if_icmp .ge 87, 3) := op162 0 87 (by decide +kernel)
theorem dM_sayWord_97 : decode (mB mM_sayWord) 97 = .ok (.aload_n 0, 1) := op42 (by decide +kernel)
theorem dM_sayWord_98 : decode (mB mM_sayWord) 98 = .ok (.iload_n 1, 1) := op27 (by decide +kernel)
theorem dM_sayWord_99 : decode (mB mM_sayWord) 99 = .ok (.invokevirtual 247, 3) := op182 0 247 (by decide +kernel)
theorem dM_sayWord_102 : decode (mB mM_sayWord) 102 = .ok (.iload 5, 2) := op21 5 (by decide +kernel)
theorem dM_sayWord_104 : decode (mB mM_sayWord) 104 = .ok (.ishr, 1) := op122 (by decide +kernel)
theorem dM_sayWord_105 : decode (mB mM_sayWord) 105 = .ok (.iconst 1, 1) := op4 (by decide +kernel)
theorem dM_sayWord_106 : decode (mB mM_sayWord) 106 = .ok (.iand, 1) := op126 (by decide +kernel)
theorem dM_sayWord_107 : decode (mB mM_sayWord) 107 = .ok (.iconst 1, 1) := op4 (by decide +kernel)
theorem dM_sayWord_108 : decode (mB mM_sayWord) 108 = .ok (.if_icmp .ne 67, 3) := op160 0 67 (by decide +kernel)
theorem dM_sayWord_111 : decode (mB mM_sayWord) 111 = .ok (.iload_n 3, 1) := op29 (by decide +kernel)
theorem dM_sayWord_112 : decode (mB mM_sayWord) 112 = .ok (.ifCond .ne 24, 3) := op154 0 24 (by decide +kernel)
theorem dM_sayWord_115 : decode (mB mM_sayWord) 115 = .ok (.aload_n 0, 1) := op42 (by decide +kernel)
theorem dM_sayWord_116 : decode (mB mM_sayWord) 116 = .ok (.getfield 51, 3) := op180 0 51 (by decide +kernel)
theorem dM_sayWord_119 : decode (mB mM_sayWord) 119 = .ok (.iload 5, 2) := op21 5 (by decide +kernel)
theorem dM_sayWord_121 : decode (mB mM_sayWord) 121 = .ok (.laload, 1) := op47 (by decide +kernel)
theorem dM_sayWord_122 : decode (mB mM_sayWord) 122 = .ok (.aload_n 0, 1) := op42 (by decide +kernel)
theorem dM_sayWord_123 : decode (mB mM_sayWord) 123 = .ok (.iload_n 1, 1) := op27 (by decide +kernel)
theorem dM_sayWord_124 : decode (mB mM_sayWord) 124 = .ok (.iconst 3, 1) := op6 (by decide +kernel)
theorem dM_sayWord_125 : decode (mB mM_sayWord) 125 = .ok (.invokevirtual 244, 3) := op182 0 244 (by decide +kernel)
theorem dM_sayWord_128 : decode (mB mM_sayWord) 128 = .ok (.lshr, 1) := op123 (by decide +kernel)
theorem dM_sayWord_129 : decode (mB mM_sayWord) 129 = .ok (.lconst 1, 1) := op10 (by decide +kernel)
theorem dM_sayWord_130 : decode (mB mM_sayWord) 130 = .ok (.land, 1) := op127 (by decide +kernel)
theorem dM_sayWord_131 : decode (mB mM_sayWord) 131 = .ok (.lconst 1, 1) := op10 (by decide +kernel)
theorem dM_sayWord_132 : decode (mB mM_sayWord) 132 = .ok (.lcmp, 1) := op148 (by decide +kernel)
theorem dM_sayWord_133 : decode (mB mM_sayWord) 133 = .ok (.ifCond .ne 7, 3) := op154 0 7 (by decide +kernel)
theorem dM_sayWord_136 : decode (mB mM_sayWord) 136 = .ok (.iconst 1, 1) := op4 (by decide +kernel)
theorem dM_sayWord_137 : decode (mB mM_sayWord) 137 = .ok (.goto 4, 3) := op167 0 4 (by decide +kernel)
theorem dM_sayWord_140 : decode (mB mM_sayWord) 140 = .ok (.iconst 0, 1) := op3 (by decide +kernel)
theorem dM_sayWord_141 : decode (mB mM_sayWord) 141 = .ok (.istore_n 3, 1) := op62 (by decide +kernel)
theorem dM_sayWord_142 : decode (mB mM_sayWord) 142 = .ok (.iload 4, 2) := op21 4 (by decide +kernel)
theorem dM_sayWord_144 : decode (mB mM_sayWord) 144 = .ok (.ifCond .ne 24, 3) := op154 0 24 (by decide +kernel)
theorem dM_sayWord_147 : decode (mB mM_sayWord) 147 = .ok (.aload_n 0, 1) := op42 (by decide +kernel)
theorem dM_sayWord_148 : decode (mB mM_sayWord) 148 = .ok (.getfield 55, 3) := op180 0 55 (by decide +kernel)
theorem dM_sayWord_151 : decode (mB mM_sayWord) 151 = .ok (.iload 5, 2) := op21 5 (by decide +kernel)
theorem dM_sayWord_153 : decode (mB mM_sayWord) 153 = .ok (.laload, 1) := op47 (by decide +kernel)
theorem dM_sayWord_154 : decode (mB mM_sayWord) 154 = .ok (.aload_n 0, 1) := op42 (by decide +kernel)
theorem dM_sayWord_155 : decode (mB mM_sayWord) 155 = .ok (.iload_n 1, 1) := op27 (by decide +kernel)
theorem dM_sayWord_156 : decode (mB mM_sayWord) 156 = .ok (.iconst 3, 1) := op6 (by decide +kernel)
theorem dM_sayWord_157 : decode (mB mM_sayWord) 157 = .ok (.invokevirtual 244, 3) := op182 0 244 (by decide +kernel)
theorem dM_sayWord_160 : decode (mB mM_sayWord) 160 = .ok (.lshr, 1) := op123 (by decide +kernel)
theorem dM_sayWord_161 : decode (mB mM_sayWord) 161 = .ok (.lconst 1, 1) := op10 (by decide +kernel)
theorem dM_sayWord_162 : decode (mB mM_sayWord) 162 = .ok (.land, 1) := op127 (by decide +kernel)
theorem dM_sayWord_163 : decode (mB mM_sayWord) 163 = .ok (.lconst 1, 1) := op10 (by decide +kernel)
theorem dM_sayWord_164 : decode (mB mM_sayWord) 164 = .ok (.lcmp, 1) := op148 (by decide +kernel)
theorem dM_sayWord_165 : decode (mB mM_sayWord) 165 = .ok (.ifCond .ne 7, 3) := op154 0 7 (by decide +kernel)
theorem dM_sayWord_168 : decode (mB mM_sayWord) 168 = .ok (.iconst 1, 1) := op4 (by decide +kernel)
theorem dM_sayWord_169 : decode (mB mM_sayWord) 169 = .ok (.goto 4, 3) := op167 0 4 (by decide +kernel)
theorem dM_sayWord_172 : decode (mB mM_sayWord) 172 = .ok (.iconst 0, 1) := op3 (by decide +kernel)
theorem dM_sayWord_173 : decode (mB mM_sayWord) 173 = .ok (.istore 4, 2) := op54 4 (by decide +kernel)
theorem dM_sayWord_175 : decode (mB mM_sayWord) 175 = .ok (.iinc 5 1, 3) := op132 5 1 (by decide +kernel)
theorem dM_sayWord_178 : decode (mB mM_sayWord) 178 = .ok (.goto (-87), 3) := op167 255 169 (by decide +kernel)
theorem dM_sayWord_181 : decode (mB mM_sayWord) 181 = .ok (.aload_n 0, 1) := op42 (by decide +kernel)
theorem dM_sayWord_182 : decode (mB mM_sayWord) 182 = .ok (.aload_n 0, 1) := op42 (by decide +kernel)
theorem dM_sayWord_183 : decode (mB mM_sayWord) 183 = .ok (.iload_n 1, 1) := op27 (by decide +kernel)
theorem dM_sayWord_184 : decode (mB mM_sayWord) 184 = .ok (.iconst 3, 1) := op6 (by decide +kernel)
theorem dM_sayWord_185 : decode (mB mM_sayWord) 185 = .ok (.invokevirtual 244, 3) := op182 0 244 (by decide +kernel)
theorem dM_sayWord_188 : decode (mB mM_sayWord) 188 = .ok (.iconst 0, 1) := op3 (by decide +kernel)
theorem dM_sayWord_189 : decode (mB mM_sayWord) 189 = .ok (.invokevirtual 253, 3) := op182 0 253 (by decide +kernel)
theorem dM_sayWord_192 : decode (mB mM_sayWord) 192 = .ok (.lstore 5, 2) := op55 5 (by decide +kernel)
theorem dM_sayWord_194 : decode (mB mM_sayWord) 194 = .ok (.aload_n 0, 1) := op42 (by decide +kernel)
theorem dM_sayWord_195 : decode (mB mM_sayWord) 195 = .ok (.getfield 51, 3) := op180 0 51 (by decide +kernel)
theorem dM_sayWord_198 : decode (mB mM_sayWord) 198 = .ok (.iload_n 1, 1) := op27 (by decide +kernel)
theorem dM_sayWord_199 : decode (mB mM_sayWord) 199 = .ok (.iload_n 3, 1) := op29 (by decide +kernel)
theorem dM_sayWord_200 : decode (mB mM_sayWord) 200 = .ok (.ifCond .eq 13, 3) := op153 0 13 (by decide +kernel)
theorem dM_sayWord_203 : decode (mB mM_sayWord) 203 = .ok (.iload 4, 2) := op21 4 (by decide +kernel)
theorem dM_sayWord_205 : decode (mB mM_sayWord) 205 = .ok (.ifCond .ne 8, 3) := op154 0 8 (by decide +kernel)
theorem dM_sayWord_208 : decode (mB mM_sayWord) 208 = .ok (.lload 5, 2) := op22 5 (by decide +kernel)
theorem dM_sayWord_210 : decode (mB mM_sayWord) 210 = .ok (.goto 4, 3) := op167 0 4 (by decide +kernel)
theorem dM_sayWord_213 : decode (mB mM_sayWord) 213 = .ok (.lconst 0, 1) := op9 (by decide +kernel)
theorem dM_sayWord_214 : decode (mB mM_sayWord) 214 = .ok (.lastore, 1) := op80 (by decide +kernel)
theorem dM_sayWord_215 : decode (mB mM_sayWord) 215 = .ok (.aload_n 0, 1) := op42 (by decide +kernel)
theorem dM_sayWord_216 : decode (mB mM_sayWord) 216 = .ok (.getfield 55, 3) := op180 0 55 (by decide +kernel)
theorem dM_sayWord_219 : decode (mB mM_sayWord) 219 = .ok (.iload_n 1, 1) := op27 (by decide +kernel)
theorem dM_sayWord_220 : decode (mB mM_sayWord) 220 = .ok (.iload 4, 2) := op21 4 (by decide +kernel)
theorem dM_sayWord_222 : decode (mB mM_sayWord) 222 = .ok (.ifCond .eq 12, 3) := op153 0 12 (by decide +kernel)
theorem dM_sayWord_225 : decode (mB mM_sayWord) 225 = .ok (.iload_n 3, 1) := op29 (by decide +kernel)
theorem dM_sayWord_226 : decode (mB mM_sayWord) 226 = .ok (.ifCond .ne 8, 3) := op154 0 8 (by decide +kernel)
theorem dM_sayWord_229 : decode (mB mM_sayWord) 229 = .ok (.lload 5, 2) := op22 5 (by decide +kernel)
theorem dM_sayWord_231 : decode (mB mM_sayWord) 231 = .ok (.goto 4, 3) := op167 0 4 (by decide +kernel)
theorem dM_sayWord_234 : decode (mB mM_sayWord) 234 = .ok (.lconst 0, 1) := op9 (by decide +kernel)
theorem dM_sayWord_235 : decode (mB mM_sayWord) 235 = .ok (.lastore, 1) := op80 (by decide +kernel)
theorem dM_sayWord_236 : decode (mB mM_sayWord) 236 = .ok (.goto 63, 3) := op167 0 63 (by decide +kernel)
theorem dM_sayWord_239 : decode (mB mM_sayWord) 239 = .ok (.aload_n 0, 1) := op42 (by decide +kernel)
theorem dM_sayWord_240 : decode (mB mM_sayWord) 240 = .ok (.iload_n 1, 1) := op27 (by decide +kernel)
theorem dM_sayWord_241 : decode (mB mM_sayWord) 241 = .ok (.bipush 6, 2) := op16 6 (by decide +kernel)
theorem dM_sayWord_243 : decode (mB mM_sayWord) 243 = .ok (.invokevirtual 244, 3) := op182 0 244 (by decide +kernel)
theorem dM_sayWord_246 : decode (mB mM_sayWord) 246 = .ok (.istore_n 3, 1) := op62 (by decide +kernel)
theorem dM_sayWord_247 : decode (mB mM_sayWord) 247 = .ok (.aload_n 0, 1) := op42 (by decide +kernel)
theorem dM_sayWord_248 : decode (mB mM_sayWord) 248 = .ok (.getfield 51, 3) := op180 0 51 (by decide +kernel)
theorem dM_sayWord_251 : decode (mB mM_sayWord) 251 = .ok (.iload_n 1, 1) := op27 (by decide +kernel)
theorem dM_sayWord_252 : decode (mB mM_sayWord) 252 = .ok (.iload_n 2, 1) := op28 (by decide +kernel)
theorem dM_sayWord_253 : decode (mB mM_sayWord) 253 = .ok (.iconst 2, 1) := op5 (by decide +kernel)
theorem dM_sayWord_254 : decode (mB mM_sayWord) 254 = .ok (.if_icmp .ne 12, 3) := op160 0 12 (by decide +kernel)
theorem dM_sayWord_257 : decode (mB mM_sayWord) 257 = .ok (.aload_n 0, 1) := op42 (by decide +kernel)
theorem dM_sayWord_258 : decode (mB mM_sayWord) 258 = .ok (.getfield 55, 3) := op180 0 55 (by decide +kernel)
theorem dM_sayWord_261 : decode (mB mM_sayWord) 261 = .ok (.iload_n 3, 1) := op29 (by decide +kernel)
theorem dM_sayWord_262 : decode (mB mM_sayWord) 262 = .ok (.laload, 1) := op47 (by decide +kernel)
theorem dM_sayWord_263 : decode (mB mM_sayWord) 263 = .ok (.goto 9, 3) := op167 0 9 (by decide +kernel)
theorem dM_sayWord_266 : decode (mB mM_sayWord) 266 = .ok (.aload_n 0, 1) := op42 (by decide +kernel)
theorem dM_sayWord_267 : decode (mB mM_sayWord) 267 = .ok (.getfield 51, 3) := op180 0 51 (by decide +kernel)
theorem dM_sayWord_270 : decode (mB mM_sayWord) 270 = .ok (.iload_n 3, 1) := op29 (by decide +kernel)
theorem dM_sayWord_271 : decode (mB mM_sayWord) 271 = .ok (.laload, 1) := op47 (by decide +kernel)
theorem dM_sayWord_272 : decode (mB mM_sayWord) 272 = .ok (.lastore, 1) := op80 (by decide +kernel)
theorem dM_sayWord_273 : decode (mB mM_sayWord) 273 = .ok (.aload_n 0, 1) := op42 (by decide +kernel)
theorem dM_sayWord_274 : decode (mB mM_sayWord) 274 = .ok (.getfield 55, 3) := op180 0 55 (by decide +kernel)
theorem dM_sayWord_277 : decode (mB mM_sayWord) 277 = .ok (.iload_n 1, 1) := op27 (by decide +kernel)
theorem dM_sayWord_278 : decode (mB mM_sayWord) 278 = .ok (.iload_n 2, 1) := op28 (by decide +kernel)
theorem dM_sayWord_279 : decode (mB mM_sayWord) 279 = .ok (.iconst 2, 1) := op5 (by decide +kernel)
theorem dM_sayWord_280 : decode (mB mM_sayWord) 280 = .ok (.if_icmp .ne 12, 3) := op160 0 12 (by decide +kernel)
theorem dM_sayWord_283 : decode (mB mM_sayWord) 283 = .ok (.aload_n 0, 1) := op42 (by decide +kernel)
theorem dM_sayWord_284 : decode (mB mM_sayWord) 284 = .ok (.getfield 51, 3) := op180 0 51 (by decide +kernel)
theorem dM_sayWord_287 : decode (mB mM_sayWord) 287 = .ok (.iload_n 3, 1) := op29 (by decide +kernel)
theorem dM_sayWord_288 : decode (mB mM_sayWord) 288 = .ok (.laload, 1) := op47 (by decide +kernel)
theorem dM_sayWord_289 : decode (mB mM_sayWord) 289 = .ok (.goto 9, 3) := op167 0 9 (by decide +kernel)
theorem dM_sayWord_292 : decode (mB mM_sayWord) 292 = .ok (.aload_n 0, 1) := op42 (by decide +kernel)
theorem dM_sayWord_293 : decode (mB mM_sayWord) 293 = .ok (.getfield 55, 3) := op180 0 55 (by decide +kernel)
theorem dM_sayWord_296 : decode (mB mM_sayWord) 296 = .ok (.iload_n 3, 1) := op29 (by decide +kernel)
theorem dM_sayWord_297 : decode (mB mM_sayWord) 297 = .ok (.laload, 1) := op47 (by decide +kernel)
theorem dM_sayWord_298 : decode (mB mM_sayWord) 298 = .ok (.lastore, 1) := op80 (by decide +kernel)
theorem dM_sayWord_299 : decode (mB mM_sayWord) 299 = .ok (.return_, 1) := op177 (by decide +kernel)

theorem vM_sayWord_0 {M : Mm} {b : Nat × Nat} {K : Mm → Prop} {v0 : Nat} {v1 : Int32} (kv0 : v0 % 64 = 11) 
    (h : CI mM_of [.ref v0, .int v1, .int 0] M (fun rv N => X mM_sayWord 6 [(0, .ref v0), (1, .int v1)] [.int rv] N b (QV K))) : X mM_sayWord 0 [(0, .ref v0), (1, .int v1)] [] M b (QV K) := by
  refine x_wf (fun hw => ?_)
  refine x_aload_n (pc := 0) dM_sayWord_0 rfl (q := 0) rfl ?_
  refine x_iload_n (pc := 1) dM_sayWord_1 rfl (q := 1) rfl ?_
  refine x_iconst (pc := 2) dM_sayWord_2 (v := 0) rfl ?_
  exact x_invV (pc := 3) dM_sayWord_3 (c := 11) (S := []) (As := [.int v1, .int 0]) mlM_244 hM_of rfl (by decide) rfl kv0 ⟨by decide, by decide⟩ ⟨Nat.zero_le _, Nat.zero_le _⟩ rfl (Nat.le_of_ble_eq_true rfl) (aftI (b' := b) ⟨Nat.le_refl _, Nat.le_refl _⟩ (fun rv N h => h) h)

theorem vM_sayWord_6 {M : Mm} {b : Nat × Nat} {K : Mm → Prop} {v0 : Nat} {v1 : Int32} {w0 : Int32} (kv0 : v0 % 64 = 11) 
    (h : (((w0 = 0) ∨ (¬ w0 = 0 ∧ w0 = 5)) → (CI mM_of [.ref v0, .int v1, .int 3] M (fun rv N => X mM_sayWord 23 [(0, .ref v0), (1, .int v1)] [.int rv, .ref v0] N b (QV K)))) ∧ ((¬ w0 = 0 ∧ ¬ w0 = 5 ∧ ¬ w0 = 4) → (CI mM_of [.ref v0, .int v1, .int 6] M (fun rv N => X mM_sayWord 246 [(0, .ref v0), (1, .int v1), (2, .int w0)] [.int rv] N b (QV K)))) ∧ ((¬ w0 = 0 ∧ ¬ w0 = 5 ∧ w0 = 4) → (X mM_sayWord 91 [(0, .ref v0), (1, .int v1), (3, .int 0), (4, .int 0), (5, .int 0)] [] M b (QV K)))) : X mM_sayWord 6 [(0, .ref v0), (1, .int v1)] [.int w0] M b (QV K) := by
  refine x_wf (fun hw => ?_)
  refine x_istore_n (pc := 6) dM_sayWord_6 rfl (by decide) (L' := [(2, .int w0), (0, .ref v0), (1, .int v1)]) rfl ?_
  refine x_iload_n (pc := 7) dM_sayWord_7 rfl (q := 0) rfl ?_
  obtain ⟨g1_0, g1_1, g1_2⟩ := h
  have g1_k0 : (w0 = 0) ∨ (¬ w0 = 0 ∧ w0 = 5) → X mM_sayWord 16 [(2, .int w0), (0, .ref v0), (1, .int v1)] [] M b (QV K) := fun q => by
    have h := g1_0 q
    refine x_aload_n (pc := 16) dM_sayWord_16 rfl (q := 1) rfl ?_
    refine x_aload_n (pc := 17) dM_sayWord_17 rfl (q := 1) rfl ?_
    refine x_iload_n (pc := 18) dM_sayWord_18 rfl (q := 2) rfl ?_
    refine x_iconst (pc := 19) dM_sayWord_19 (v := 3) rfl ?_
    exact x_invV (pc := 20) dM_sayWord_20 (c := 11) (S := [.ref v0]) (As := [.int v1, .int 3]) mlM_244 hM_of rfl (by decide) rfl kv0 ⟨by decide, by decide⟩ ⟨Nat.zero_le _, Nat.zero_le _⟩ rfl (Nat.le_of_ble_eq_true rfl) (aftI (b' := b) ⟨Nat.le_refl _, Nat.le_refl _⟩ (fun rv N h => x_loc [1, 2] rfl h) h)
  refine x_if_eq (pc := 8) dM_sayWord_8 (t := 16) rfl (fun q1 => ?_) (fun q1 => ?_)
  · exact g1_k0 (Or.inl q1)
  · refine x_iload_n (pc := 11) dM_sayWord_11 rfl (q := 0) rfl ?_
    refine x_iconst (pc := 12) dM_sayWord_12 (v := 5) rfl ?_
    refine x_icmp_ne (pc := 13) dM_sayWord_13 (t := 78) rfl (fun q2 => ?_) (fun q2 => ?_)
    · refine x_iload_n (pc := 78) dM_sayWord_78 rfl (q := 0) rfl ?_
      refine x_iconst (pc := 79) dM_sayWord_79 (v := 4) rfl ?_
      refine x_icmp_ne (pc := 80) dM_sayWord_80 (t := 239) rfl (fun q3 => ?_) (fun q3 => ?_)
      · refine x_aload_n (pc := 239) dM_sayWord_239 rfl (q := 1) rfl ?_
        refine x_iload_n (pc := 240) dM_sayWord_240 rfl (q := 2) rfl ?_
        refine x_bipush (pc := 241) dM_sayWord_241 (v := 6) rfl ?_
        have h := g1_1 ⟨q1, q2, q3⟩
        exact x_invV (pc := 243) dM_sayWord_243 (c := 11) (S := []) (As := [.int v1, .int 6]) mlM_244 hM_of rfl (by decide) rfl kv0 ⟨by decide, by decide⟩ ⟨Nat.zero_le _, Nat.zero_le _⟩ rfl (Nat.le_of_ble_eq_true rfl) (aftI (b' := b) ⟨Nat.le_refl _, Nat.le_refl _⟩ (fun rv N h => x_loc [1, 2, 0] rfl h) h)
      · refine x_iconst (pc := 83) dM_sayWord_83 (v := 0) rfl ?_
        have h := g1_2 ⟨q1, q2, q3⟩
        refine x_istore_n (pc := 84) dM_sayWord_84 rfl (by decide) (L' := [(3, .int 0), (2, .int w0), (0, .ref v0), (1, .int v1)]) rfl ?_
        refine x_iconst (pc := 85) dM_sayWord_85 (v := 0) rfl ?_
        refine x_istore (pc := 86) dM_sayWord_86 (by decide) (L' := [(4, .int 0), (3, .int 0), (2, .int w0), (0, .ref v0), (1, .int v1)]) rfl ?_
        refine x_iconst (pc := 88) dM_sayWord_88 (v := 0) rfl ?_
        refine x_istore (pc := 89) dM_sayWord_89 (by decide) (L' := [(5, .int 0), (4, .int 0), (3, .int 0), (2, .int w0), (0, .ref v0), (1, .int v1)]) rfl ?_
        exact x_loc [4, 5, 2, 1, 0] rfl h
    · exact g1_k0 (Or.inr ⟨q1, q2⟩)

theorem vM_sayWord_23 {M : Mm} {b : Nat × Nat} {K : Mm → Prop} {v0 : Nat} {v1 : Int32} {w0 : Int32} {w1 : Nat} (kv0 : v0 % 64 = 11) 
    (h : CI mM_of [.ref v0, .int v1, .int 4] M (fun rv N => X mM_sayWord 29 [(0, .ref v0), (1, .int v1)] [.int rv, .int w0, .ref w1] N b (QV K))) : X mM_sayWord 23 [(0, .ref v0), (1, .int v1)] [.int w0, .ref w1] M b (QV K) := by
  refine x_wf (fun hw => ?_)
  refine x_aload_n (pc := 23) dM_sayWord_23 rfl (q := 0) rfl ?_
  refine x_iload_n (pc := 24) dM_sayWord_24 rfl (q := 1) rfl ?_
  refine x_iconst (pc := 25) dM_sayWord_25 (v := 4) rfl ?_
  exact x_invV (pc := 26) dM_sayWord_26 (c := 11) (S := [.int w0, .ref w1]) (As := [.int v1, .int 4]) mlM_244 hM_of rfl (by decide) rfl kv0 ⟨by decide, by decide⟩ ⟨Nat.zero_le _, Nat.zero_le _⟩ rfl (Nat.le_of_ble_eq_true rfl) (aftI (b' := b) ⟨Nat.le_refl _, Nat.le_refl _⟩ (fun rv N h => h) h)

theorem vM_sayWord_29 {M : Mm} {b : Nat × Nat} {K : Mm → Prop} {v0 : Nat} {v1 : Int32} {w0 : Int32} {w1 : Int32} {w2 : Nat} (kw2 : w2 % 64 = 11) 
    (h : CJ mM_casesWith [.ref w2, .int w1, .int w0] M (fun rv N => X mM_sayWord 32 [(0, .ref v0), (1, .int v1)] [.long rv] N b (QV K))) : X mM_sayWord 29 [(0, .ref v0), (1, .int v1)] [.int w0, .int w1, .ref w2] M b (QV K) := by
  refine x_wf (fun hw => ?_)
  exact x_invV (pc := 29) dM_sayWord_29 (c := 11) (S := []) (As := [.int w1, .int w0]) mlM_253 hM_casesWith rfl (by decide) rfl kw2 ⟨by decide, by decide⟩ ⟨Nat.zero_le _, Nat.zero_le _⟩ rfl (Nat.le_of_ble_eq_true rfl) (aftJ (b' := b) ⟨Nat.le_refl _, Nat.le_refl _⟩ (fun rv N h => h) h)

theorem vM_sayWord_32 {M : Mm} {b : Nat × Nat} {K : Mm → Prop} {v0 : Nat} {v1 : Int32} {w0 : Int64} {r1 : Nat} (kv0 : v0 % 64 = 11) (e1 : gr M v0 25 = some r1)
    (h : CI mM_of [.ref v0, .int v1, .int 5] M (fun rv N => X mM_sayWord 44 [(0, .ref v0), (1, .int v1), (3, .long w0)] [.int rv, .int v1, .ref r1] N b (QV K))) : X mM_sayWord 32 [(0, .ref v0), (1, .int v1)] [.long w0] M b (QV K) := by
  refine x_wf (fun hw => ?_)
  refine x_lstore_n (pc := 32) dM_sayWord_32 rfl (by decide) (L' := [(3, .long w0), (0, .ref v0), (1, .int v1)]) rfl ?_
  refine x_aload_n (pc := 33) dM_sayWord_33 rfl (q := 1) rfl ?_
  refine x_getR (pc := 34) dM_sayWord_34 kv0 flM_51 rfl e1 ?_
  refine x_iload_n (pc := 37) dM_sayWord_37 rfl (q := 2) rfl ?_
  refine x_aload_n (pc := 38) dM_sayWord_38 rfl (q := 1) rfl ?_
  refine x_iload_n (pc := 39) dM_sayWord_39 rfl (q := 2) rfl ?_
  refine x_iconst (pc := 40) dM_sayWord_40 (v := 5) rfl ?_
  exact x_invV (pc := 41) dM_sayWord_41 (c := 11) (S := [.int v1, .ref r1]) (As := [.int v1, .int 5]) mlM_244 hM_of rfl (by decide) rfl kv0 ⟨by decide, by decide⟩ ⟨Nat.zero_le _, Nat.zero_le _⟩ rfl (Nat.le_of_ble_eq_true rfl) (aftI (b' := b) ⟨Nat.le_refl _, Nat.le_refl _⟩ (fun rv N h => x_loc [1, 2, 0] rfl h) h)

theorem vM_sayWord_44 {M : Mm} {b : Nat × Nat} {K : Mm → Prop} {v0 : Nat} {v1 : Int32} {v3 : Int64} {w0 : Int32} {w1 : Int32} {w2 : Nat} {r1 : Nat} (kw2 : w2 % 64 = 26) (kv0 : v0 % 64 = 11) (e1 : gr M v0 26 = some r1)
    (h : vp_in w1 25 ∧ (CI mM_of [.ref v0, .int v1, .int 5] (sl M w2 (w1).toNatClampNeg (if w0 = 1 then v3 else 0 : Int64)) (fun rv N => X mM_sayWord 65 [(3, .long v3)] [.int rv, .int v1, .ref r1] N b (QV K)))) : X mM_sayWord 44 [(0, .ref v0), (1, .int v1), (3, .long v3)] [.int w0, .int w1, .ref w2] M b (QV K) := by
  refine x_wf (fun hw => ?_)
  refine x_iconst (pc := 44) dM_sayWord_44 (v := 1) rfl ?_
  suffices hJ : X mM_sayWord 53 [(0, .ref v0), (1, .int v1), (3, .long v3)] [.long (if w0 = 1 then v3 else 0 : Int64), .int w1, .ref w2] M b (QV K) by
    refine x_icmp_ne (pc := 45) dM_sayWord_45 (t := 52) rfl (fun q1 => ?_) (fun q1 => ?_)
    · refine x_lconst (pc := 52) dM_sayWord_52 (v := 0) rfl ?_
      first | (rw [if_neg q1] at hJ; exact hJ) | (simp only [if_neg q1] at hJ ⊢; exact hJ)
    · refine x_lload_n (pc := 48) dM_sayWord_48 rfl (q := 2) rfl ?_
      refine x_goto (pc := 49) dM_sayWord_49 (t := 53) rfl ?_
      first | (rw [if_pos q1] at hJ; exact hJ) | (simp only [if_pos q1] at hJ ⊢; exact hJ)
  obtain ⟨s501, h⟩ := h
  refine x_astLj (pc := 53) (j := (w1).toNatClampNeg) dM_sayWord_53 kw2 ak_26 rfl s501 ?_
  refine x_aload_n (pc := 54) dM_sayWord_54 rfl (q := 0) rfl ?_
  refine x_getR (pc := 55) dM_sayWord_55 kv0 flM_55 rfl e1 ?_
  refine x_iload_n (pc := 58) dM_sayWord_58 rfl (q := 1) rfl ?_
  refine x_aload_n (pc := 59) dM_sayWord_59 rfl (q := 0) rfl ?_
  refine x_iload_n (pc := 60) dM_sayWord_60 rfl (q := 1) rfl ?_
  refine x_iconst (pc := 61) dM_sayWord_61 (v := 5) rfl ?_
  exact x_invV (pc := 62) dM_sayWord_62 (c := 11) (S := [.int v1, .ref r1]) (As := [.int v1, .int 5]) mlM_244 hM_of rfl (by decide) rfl kv0 ⟨by decide, by decide⟩ ⟨Nat.zero_le _, Nat.zero_le _⟩ rfl (Nat.le_of_ble_eq_true rfl) (aftI (b' := b) ⟨Nat.le_refl _, Nat.le_refl _⟩ (fun rv N h => x_loc [2] rfl h) h)

theorem vM_sayWord_65 {M : Mm} {b : Nat × Nat} {K : Mm → Prop} {v3 : Int64} {w0 : Int32} {w1 : Int32} {w2 : Nat} (kw2 : w2 % 64 = 26) 
    (h : vp_in w1 25 ∧ (K (sl M w2 (w1).toNatClampNeg (if w0 = 1 then 0 else v3 : Int64)))) : X mM_sayWord 65 [(3, .long v3)] [.int w0, .int w1, .ref w2] M b (QV K) := by
  refine x_wf (fun hw => ?_)
  refine x_iconst (pc := 65) dM_sayWord_65 (v := 1) rfl ?_
  suffices hJ : X mM_sayWord 74 [(3, .long v3)] [.long (if w0 = 1 then 0 else v3 : Int64), .int w1, .ref w2] M b (QV K) by
    refine x_icmp_ne (pc := 66) dM_sayWord_66 (t := 73) rfl (fun q1 => ?_) (fun q1 => ?_)
    · refine x_lload_n (pc := 73) dM_sayWord_73 rfl (q := 0) rfl ?_
      first | (rw [if_neg q1] at hJ; exact hJ) | (simp only [if_neg q1] at hJ ⊢; exact hJ)
    · refine x_lconst (pc := 69) dM_sayWord_69 (v := 0) rfl ?_
      refine x_goto (pc := 70) dM_sayWord_70 (t := 74) rfl ?_
      first | (rw [if_pos q1] at hJ; exact hJ) | (simp only [if_pos q1] at hJ ⊢; exact hJ)
  obtain ⟨s501, h⟩ := h
  refine x_astLj (pc := 74) (j := (w1).toNatClampNeg) dM_sayWord_74 kw2 ak_26 rfl s501 ?_
  refine x_goto (pc := 75) dM_sayWord_75 (t := 299) rfl ?_
  exact x_retQV (pc := 299) dM_sayWord_299 rfl h

theorem vM_sayWord_91 {M : Mm} {b : Nat × Nat} {K : Mm → Prop} {v0 : Nat} {v1 : Int32} {v3 : Int32} {v4 : Int32} {v5 : Int32} (kv0 : v0 % 64 = 11) 
    (h : (v1 ≤ v5 → (CI mM_of [.ref v0, .int v1, .int 3] M (fun rv N => X mM_sayWord 188 [(0, .ref v0), (1, .int v1), (3, .int v3), (4, .int v4)] [.int rv, .ref v0] N b (QV K)))) ∧ (¬ v1 ≤ v5 → (CI mM_followed [.ref v0, .int v1] M (fun rv N => X mM_sayWord 102 [(0, .ref v0), (1, .int v1), (3, .int v3), (4, .int v4), (5, .int v5)] [.int rv] N b (QV K))))) : X mM_sayWord 91 [(0, .ref v0), (1, .int v1), (3, .int v3), (4, .int v4), (5, .int v5)] [] M b (QV K) := by
  refine x_wf (fun hw => ?_)
  refine x_iload (pc := 91) dM_sayWord_91 (q := 4) rfl ?_
  refine x_iload_n (pc := 93) dM_sayWord_93 rfl (q := 1) rfl ?_
  obtain ⟨g1_0, g1_1⟩ := h
  refine x_icmp_ge (pc := 94) dM_sayWord_94 (t := 181) rfl (fun q1 => ?_) (fun q1 => ?_)
  · refine x_aload_n (pc := 181) dM_sayWord_181 rfl (q := 0) rfl ?_
    refine x_aload_n (pc := 182) dM_sayWord_182 rfl (q := 0) rfl ?_
    refine x_iload_n (pc := 183) dM_sayWord_183 rfl (q := 1) rfl ?_
    refine x_iconst (pc := 184) dM_sayWord_184 (v := 3) rfl ?_
    have h := g1_0 q1
    exact x_invV (pc := 185) dM_sayWord_185 (c := 11) (S := [.ref v0]) (As := [.int v1, .int 3]) mlM_244 hM_of rfl (by decide) rfl kv0 ⟨by decide, by decide⟩ ⟨Nat.zero_le _, Nat.zero_le _⟩ rfl (Nat.le_of_ble_eq_true rfl) (aftI (b' := b) ⟨Nat.le_refl _, Nat.le_refl _⟩ (fun rv N h => x_loc [0, 1, 2, 3] rfl h) h)
  · refine x_aload_n (pc := 97) dM_sayWord_97 rfl (q := 0) rfl ?_
    refine x_iload_n (pc := 98) dM_sayWord_98 rfl (q := 1) rfl ?_
    have h := g1_1 q1
    exact x_invV (pc := 99) dM_sayWord_99 (c := 11) (S := []) (As := [.int v1]) mlM_247 hM_followed rfl (by decide) rfl kv0 ⟨by decide, by decide⟩ ⟨Nat.zero_le _, Nat.zero_le _⟩ rfl (Nat.le_of_ble_eq_true rfl) (aftI (b' := b) ⟨Nat.le_refl _, Nat.le_refl _⟩ (fun rv N h => h) h)

theorem vM_sayWord_102 {M : Mm} {b : Nat × Nat} {K : Mm → Prop} {v0 : Nat} {v1 : Int32} {v3 : Int32} {v4 : Int32} {v5 : Int32} {w0 : Int32} {r1 : Nat} (kv0 : v0 % 64 = 11) (e1 : gr M v0 25 = some r1)
    (h : (((w0 >>> (v5 &&& 31)) &&& 1) = 1 ∧ v3 = 0 → vp_in v5 25) ∧ (¬ ((w0 >>> (v5 &&& 31)) &&& 1) = 1 → (X mM_sayWord 91 [(0, .ref v0), (1, .int v1), (3, .int v3), (4, .int v4), (5, .int (v5 + 1))] [] M b (QV K))) ∧ ((((w0 >>> (v5 &&& 31)) &&& 1) = 1 ∧ ¬ v3 = 0) → (X mM_sayWord 136 [(0, .ref v0), (1, .int v1), (4, .int v4), (5, .int v5)] [] M b (QV K))) ∧ ((((w0 >>> (v5 &&& 31)) &&& 1) = 1 ∧ v3 = 0) → (CI mM_of [.ref v0, .int v1, .int 3] M (fun rv N => X mM_sayWord 128 [(0, .ref v0), (1, .int v1), (4, .int v4), (5, .int v5)] [.int rv, .long (gl M r1 (v5).toNatClampNeg)] N b (QV K))))) : X mM_sayWord 102 [(0, .ref v0), (1, .int v1), (3, .int v3), (4, .int v4), (5, .int v5)] [.int w0] M b (QV K) := by
  refine x_wf (fun hw => ?_)
  refine x_iload (pc := 102) dM_sayWord_102 (q := 4) rfl ?_
  refine x_ishr (pc := 104) dM_sayWord_104 ?_
  refine x_iconst (pc := 105) dM_sayWord_105 (v := 1) rfl ?_
  refine x_iand (pc := 106) dM_sayWord_106 ?_
  refine x_iconst (pc := 107) dM_sayWord_107 (v := 1) rfl ?_
  obtain ⟨s1, g1_0, g1_1, g1_2⟩ := h
  refine x_icmp_ne (pc := 108) dM_sayWord_108 (t := 175) rfl (fun q1 => ?_) (fun q1 => ?_)
  · have h := g1_0 q1
    refine x_iinc (pc := 175) dM_sayWord_175 (q := 4) rfl (v := v5 + 1) rfl (by decide) (L' := [(5, .int (v5 + 1)), (0, .ref v0), (1, .int v1), (3, .int v3), (4, .int v4)]) rfl ?_
    refine x_goto (pc := 178) dM_sayWord_178 (t := 91) rfl ?_
    exact x_loc [1, 2, 3, 4, 0] rfl h
  · refine x_iload_n (pc := 111) dM_sayWord_111 rfl (q := 2) rfl ?_
    refine x_if_ne (pc := 112) dM_sayWord_112 (t := 136) rfl (fun q2 => ?_) (fun q2 => ?_)
    · have h := g1_1 ⟨q1, q2⟩
      exact x_loc [0, 1, 3, 4] rfl h
    · refine x_aload_n (pc := 115) dM_sayWord_115 rfl (q := 0) rfl ?_
      refine x_getR (pc := 116) dM_sayWord_116 kv0 flM_51 rfl e1 ?_
      refine x_iload (pc := 119) dM_sayWord_119 (q := 4) rfl ?_
      refine x_aldLj (pc := 121) (j := (v5).toNatClampNeg) dM_sayWord_121 (wfk hw e1 kv0) ak_26 rfl (s1 ⟨q1, q2⟩) ?_
      refine x_aload_n (pc := 122) dM_sayWord_122 rfl (q := 0) rfl ?_
      refine x_iload_n (pc := 123) dM_sayWord_123 rfl (q := 1) rfl ?_
      refine x_iconst (pc := 124) dM_sayWord_124 (v := 3) rfl ?_
      have h := g1_2 ⟨q1, q2⟩
      exact x_invV (pc := 125) dM_sayWord_125 (c := 11) (S := [.long (gl M r1 (v5).toNatClampNeg)]) (As := [.int v1, .int 3]) mlM_244 hM_of rfl (by decide) rfl kv0 ⟨by decide, by decide⟩ ⟨Nat.zero_le _, Nat.zero_le _⟩ rfl (Nat.le_of_ble_eq_true rfl) (aftI (b' := b) ⟨Nat.le_refl _, Nat.le_refl _⟩ (fun rv N h => x_loc [0, 1, 3, 4] rfl h) h)

theorem vM_sayWord_128 {M : Mm} {b : Nat × Nat} {K : Mm → Prop} {v0 : Nat} {v1 : Int32} {v4 : Int32} {v5 : Int32} {w0 : Int32} {w1 : Int64}  
    (h : (¬ ((w1 >>> ((w0).toInt64 &&& 63)) &&& 1) = 1 → (X mM_sayWord 141 [(0, .ref v0), (1, .int v1), (4, .int v4), (5, .int v5)] [.int 0] M b (QV K))) ∧ (((w1 >>> ((w0).toInt64 &&& 63)) &&& 1) = 1 → (X mM_sayWord 136 [(0, .ref v0), (1, .int v1), (4, .int v4), (5, .int v5)] [] M b (QV K)))) : X mM_sayWord 128 [(0, .ref v0), (1, .int v1), (4, .int v4), (5, .int v5)] [.int w0, .long w1] M b (QV K) := by
  refine x_wf (fun hw => ?_)
  refine x_lshr (pc := 128) dM_sayWord_128 ?_
  refine x_lconst (pc := 129) dM_sayWord_129 (v := 1) rfl ?_
  refine x_land (pc := 130) dM_sayWord_130 ?_
  refine x_lconst (pc := 131) dM_sayWord_131 (v := 1) rfl ?_
  obtain ⟨g1_0, g1_1⟩ := h
  refine x_lc_ne (pc := 132) dM_sayWord_132 dM_sayWord_133 (t := 140) rfl (fun q1 => ?_) (fun q1 => ?_)
  · refine x_iconst (pc := 140) dM_sayWord_140 (v := 0) rfl ?_
    have h := g1_0 q1
    exact h
  · have h := g1_1 q1
    exact h

theorem vM_sayWord_136 {M : Mm} {b : Nat × Nat} {K : Mm → Prop} {v0 : Nat} {v1 : Int32} {v4 : Int32} {v5 : Int32}  
    (h : X mM_sayWord 141 [(0, .ref v0), (1, .int v1), (4, .int v4), (5, .int v5)] [.int 1] M b (QV K)) : X mM_sayWord 136 [(0, .ref v0), (1, .int v1), (4, .int v4), (5, .int v5)] [] M b (QV K) := by
  refine x_wf (fun hw => ?_)
  refine x_iconst (pc := 136) dM_sayWord_136 (v := 1) rfl ?_
  refine x_goto (pc := 137) dM_sayWord_137 (t := 141) rfl ?_
  exact h

theorem vM_sayWord_141 {M : Mm} {b : Nat × Nat} {K : Mm → Prop} {v0 : Nat} {v1 : Int32} {v4 : Int32} {v5 : Int32} {w0 : Int32} {r1 : Nat} (kv0 : v0 % 64 = 11) (e1 : gr M v0 26 = some r1)
    (h : (v4 = 0 → vp_in v5 25) ∧ (¬ v4 = 0 → (X mM_sayWord 168 [(0, .ref v0), (1, .int v1), (3, .int w0), (5, .int v5)] [] M b (QV K))) ∧ (v4 = 0 → (CI mM_of [.ref v0, .int v1, .int 3] M (fun rv N => X mM_sayWord 160 [(0, .ref v0), (1, .int v1), (3, .int w0), (5, .int v5)] [.int rv, .long (gl M r1 (v5).toNatClampNeg)] N b (QV K))))) : X mM_sayWord 141 [(0, .ref v0), (1, .int v1), (4, .int v4), (5, .int v5)] [.int w0] M b (QV K) := by
  refine x_wf (fun hw => ?_)
  refine x_istore_n (pc := 141) dM_sayWord_141 rfl (by decide) (L' := [(3, .int w0), (0, .ref v0), (1, .int v1), (4, .int v4), (5, .int v5)]) rfl ?_
  refine x_iload (pc := 142) dM_sayWord_142 (q := 3) rfl ?_
  obtain ⟨s1, g1_0, g1_1⟩ := h
  refine x_if_ne (pc := 144) dM_sayWord_144 (t := 168) rfl (fun q1 => ?_) (fun q1 => ?_)
  · have h := g1_0 q1
    exact x_loc [1, 2, 0, 4] rfl h
  · refine x_aload_n (pc := 147) dM_sayWord_147 rfl (q := 1) rfl ?_
    refine x_getR (pc := 148) dM_sayWord_148 kv0 flM_55 rfl e1 ?_
    refine x_iload (pc := 151) dM_sayWord_151 (q := 4) rfl ?_
    refine x_aldLj (pc := 153) (j := (v5).toNatClampNeg) dM_sayWord_153 (wfk hw e1 kv0) ak_26 rfl (s1 q1) ?_
    refine x_aload_n (pc := 154) dM_sayWord_154 rfl (q := 1) rfl ?_
    refine x_iload_n (pc := 155) dM_sayWord_155 rfl (q := 2) rfl ?_
    refine x_iconst (pc := 156) dM_sayWord_156 (v := 3) rfl ?_
    have h := g1_1 q1
    exact x_invV (pc := 157) dM_sayWord_157 (c := 11) (S := [.long (gl M r1 (v5).toNatClampNeg)]) (As := [.int v1, .int 3]) mlM_244 hM_of rfl (by decide) rfl kv0 ⟨by decide, by decide⟩ ⟨Nat.zero_le _, Nat.zero_le _⟩ rfl (Nat.le_of_ble_eq_true rfl) (aftI (b' := b) ⟨Nat.le_refl _, Nat.le_refl _⟩ (fun rv N h => x_loc [1, 2, 0, 4] rfl h) h)

theorem vM_sayWord_160 {M : Mm} {b : Nat × Nat} {K : Mm → Prop} {v0 : Nat} {v1 : Int32} {v3 : Int32} {v5 : Int32} {w0 : Int32} {w1 : Int64}  
    (h : (¬ ((w1 >>> ((w0).toInt64 &&& 63)) &&& 1) = 1 → (X mM_sayWord 173 [(0, .ref v0), (1, .int v1), (3, .int v3), (5, .int v5)] [.int 0] M b (QV K))) ∧ (((w1 >>> ((w0).toInt64 &&& 63)) &&& 1) = 1 → (X mM_sayWord 168 [(0, .ref v0), (1, .int v1), (3, .int v3), (5, .int v5)] [] M b (QV K)))) : X mM_sayWord 160 [(0, .ref v0), (1, .int v1), (3, .int v3), (5, .int v5)] [.int w0, .long w1] M b (QV K) := by
  refine x_wf (fun hw => ?_)
  refine x_lshr (pc := 160) dM_sayWord_160 ?_
  refine x_lconst (pc := 161) dM_sayWord_161 (v := 1) rfl ?_
  refine x_land (pc := 162) dM_sayWord_162 ?_
  refine x_lconst (pc := 163) dM_sayWord_163 (v := 1) rfl ?_
  obtain ⟨g1_0, g1_1⟩ := h
  refine x_lc_ne (pc := 164) dM_sayWord_164 dM_sayWord_165 (t := 172) rfl (fun q1 => ?_) (fun q1 => ?_)
  · refine x_iconst (pc := 172) dM_sayWord_172 (v := 0) rfl ?_
    have h := g1_0 q1
    exact h
  · have h := g1_1 q1
    exact h

theorem vM_sayWord_168 {M : Mm} {b : Nat × Nat} {K : Mm → Prop} {v0 : Nat} {v1 : Int32} {v3 : Int32} {v5 : Int32}  
    (h : X mM_sayWord 173 [(0, .ref v0), (1, .int v1), (3, .int v3), (5, .int v5)] [.int 1] M b (QV K)) : X mM_sayWord 168 [(0, .ref v0), (1, .int v1), (3, .int v3), (5, .int v5)] [] M b (QV K) := by
  refine x_wf (fun hw => ?_)
  refine x_iconst (pc := 168) dM_sayWord_168 (v := 1) rfl ?_
  refine x_goto (pc := 169) dM_sayWord_169 (t := 173) rfl ?_
  exact h

theorem vM_sayWord_173 {M : Mm} {b : Nat × Nat} {K : Mm → Prop} {v0 : Nat} {v1 : Int32} {v3 : Int32} {v5 : Int32} {w0 : Int32}  
    (h : X mM_sayWord 91 [(0, .ref v0), (1, .int v1), (3, .int v3), (4, .int w0), (5, .int (v5 + 1))] [] M b (QV K)) : X mM_sayWord 173 [(0, .ref v0), (1, .int v1), (3, .int v3), (5, .int v5)] [.int w0] M b (QV K) := by
  refine x_wf (fun hw => ?_)
  refine x_istore (pc := 173) dM_sayWord_173 (by decide) (L' := [(4, .int w0), (0, .ref v0), (1, .int v1), (3, .int v3), (5, .int v5)]) rfl ?_
  refine x_iinc (pc := 175) dM_sayWord_175 (q := 4) rfl (v := v5 + 1) rfl (by decide) (L' := [(5, .int (v5 + 1)), (4, .int w0), (0, .ref v0), (1, .int v1), (3, .int v3)]) rfl ?_
  refine x_goto (pc := 178) dM_sayWord_178 (t := 91) rfl ?_
  exact x_loc [2, 3, 4, 1, 0] rfl h

theorem vM_sayWord_188 {M : Mm} {b : Nat × Nat} {K : Mm → Prop} {v0 : Nat} {v1 : Int32} {v3 : Int32} {v4 : Int32} {w0 : Int32} {w1 : Nat} (kw1 : w1 % 64 = 11) 
    (h : CJ mM_casesWith [.ref w1, .int w0, .int 0] M (fun rv N => X mM_sayWord 192 [(0, .ref v0), (1, .int v1), (3, .int v3), (4, .int v4)] [.long rv] N b (QV K))) : X mM_sayWord 188 [(0, .ref v0), (1, .int v1), (3, .int v3), (4, .int v4)] [.int w0, .ref w1] M b (QV K) := by
  refine x_wf (fun hw => ?_)
  refine x_iconst (pc := 188) dM_sayWord_188 (v := 0) rfl ?_
  exact x_invV (pc := 189) dM_sayWord_189 (c := 11) (S := []) (As := [.int w0, .int 0]) mlM_253 hM_casesWith rfl (by decide) rfl kw1 ⟨by decide, by decide⟩ ⟨Nat.zero_le _, Nat.zero_le _⟩ rfl (Nat.le_of_ble_eq_true rfl) (aftJ (b' := b) ⟨Nat.le_refl _, Nat.le_refl _⟩ (fun rv N h => h) h)

theorem vM_sayWord_192 {M : Mm} {b : Nat × Nat} {K : Mm → Prop} {v0 : Nat} {v1 : Int32} {v3 : Int32} {v4 : Int32} {w0 : Int64} {r1 : Nat} (kv0 : v0 % 64 = 11) (e1 : gr M v0 25 = some r1)
    (h : (((v3 = 0) ∨ (¬ v3 = 0 ∧ ¬ v4 = 0)) → (X mM_sayWord 214 [(0, .ref v0), (1, .int v1), (3, .int v3), (4, .int v4), (5, .long w0)] [.long 0, .int v1, .ref r1] M b (QV K))) ∧ ((¬ v3 = 0 ∧ v4 = 0) → (X mM_sayWord 214 [(0, .ref v0), (1, .int v1), (3, .int v3), (4, .int v4), (5, .long w0)] [.long w0, .int v1, .ref r1] M b (QV K)))) : X mM_sayWord 192 [(0, .ref v0), (1, .int v1), (3, .int v3), (4, .int v4)] [.long w0] M b (QV K) := by
  refine x_wf (fun hw => ?_)
  refine x_lstore (pc := 192) dM_sayWord_192 (by decide) (L' := [(5, .long w0), (0, .ref v0), (1, .int v1), (3, .int v3), (4, .int v4)]) rfl ?_
  refine x_aload_n (pc := 194) dM_sayWord_194 rfl (q := 1) rfl ?_
  refine x_getR (pc := 195) dM_sayWord_195 kv0 flM_51 rfl e1 ?_
  refine x_iload_n (pc := 198) dM_sayWord_198 rfl (q := 2) rfl ?_
  refine x_iload_n (pc := 199) dM_sayWord_199 rfl (q := 3) rfl ?_
  obtain ⟨g1_0, g1_1⟩ := h
  have g1_k0 : (v3 = 0) ∨ (¬ v3 = 0 ∧ ¬ v4 = 0) → X mM_sayWord 213 [(5, .long w0), (0, .ref v0), (1, .int v1), (3, .int v3), (4, .int v4)] [.int v1, .ref r1] M b (QV K) := fun q => by
    have h := g1_0 q
    refine x_lconst (pc := 213) dM_sayWord_213 (v := 0) rfl ?_
    exact x_loc [1, 2, 3, 4, 0] rfl h
  refine x_if_eq (pc := 200) dM_sayWord_200 (t := 213) rfl (fun q1 => ?_) (fun q1 => ?_)
  · exact g1_k0 (Or.inl q1)
  · refine x_iload (pc := 203) dM_sayWord_203 (q := 4) rfl ?_
    refine x_if_ne (pc := 205) dM_sayWord_205 (t := 213) rfl (fun q2 => ?_) (fun q2 => ?_)
    · exact g1_k0 (Or.inr ⟨q1, q2⟩)
    · refine x_lload (pc := 208) dM_sayWord_208 (q := 0) rfl ?_
      refine x_goto (pc := 210) dM_sayWord_210 (t := 214) rfl ?_
      have h := g1_1 ⟨q1, q2⟩
      exact x_loc [1, 2, 3, 4, 0] rfl h

theorem vM_sayWord_214 {M : Mm} {b : Nat × Nat} {K : Mm → Prop} {v0 : Nat} {v1 : Int32} {v3 : Int32} {v4 : Int32} {v5 : Int64} {w0 : Int64} {w1 : Int32} {w2 : Nat} {r1 : Nat} (kw2 : w2 % 64 = 26) (kv0 : v0 % 64 = 11) (e1 : gr M v0 26 = some r1)
    (h : vp_in w1 25 ∧ ((((v4 = 0) ∨ (¬ v4 = 0 ∧ ¬ v3 = 0)) → (X mM_sayWord 235 [] [.long 0, .int v1, .ref r1] (sl M w2 (w1).toNatClampNeg w0) b (QV K))) ∧ ((¬ v4 = 0 ∧ v3 = 0) → (X mM_sayWord 235 [] [.long v5, .int v1, .ref r1] (sl M w2 (w1).toNatClampNeg w0) b (QV K))))) : X mM_sayWord 214 [(0, .ref v0), (1, .int v1), (3, .int v3), (4, .int v4), (5, .long v5)] [.long w0, .int w1, .ref w2] M b (QV K) := by
  refine x_wf (fun hw => ?_)
  obtain ⟨s501, h⟩ := h
  refine x_astLj (pc := 214) (j := (w1).toNatClampNeg) dM_sayWord_214 kw2 ak_26 rfl s501 ?_
  refine x_aload_n (pc := 215) dM_sayWord_215 rfl (q := 0) rfl ?_
  refine x_getR (pc := 216) dM_sayWord_216 kv0 flM_55 rfl e1 ?_
  refine x_iload_n (pc := 219) dM_sayWord_219 rfl (q := 1) rfl ?_
  refine x_iload (pc := 220) dM_sayWord_220 (q := 3) rfl ?_
  obtain ⟨g1_0, g1_1⟩ := h
  have g1_k0 : (v4 = 0) ∨ (¬ v4 = 0 ∧ ¬ v3 = 0) → X mM_sayWord 234 [(0, .ref v0), (1, .int v1), (3, .int v3), (4, .int v4), (5, .long v5)] [.int v1, .ref r1] (sl M w2 (w1).toNatClampNeg w0) b (QV K) := fun q => by
    have h := g1_0 q
    refine x_lconst (pc := 234) dM_sayWord_234 (v := 0) rfl ?_
    exact x_loc [] rfl h
  refine x_if_eq (pc := 222) dM_sayWord_222 (t := 234) rfl (fun q1 => ?_) (fun q1 => ?_)
  · exact g1_k0 (Or.inl q1)
  · refine x_iload_n (pc := 225) dM_sayWord_225 rfl (q := 2) rfl ?_
    refine x_if_ne (pc := 226) dM_sayWord_226 (t := 234) rfl (fun q2 => ?_) (fun q2 => ?_)
    · exact g1_k0 (Or.inr ⟨q1, q2⟩)
    · refine x_lload (pc := 229) dM_sayWord_229 (q := 4) rfl ?_
      refine x_goto (pc := 231) dM_sayWord_231 (t := 235) rfl ?_
      have h := g1_1 ⟨q1, q2⟩
      exact x_loc [] rfl h

theorem vM_sayWord_235 {M : Mm} {b : Nat × Nat} {K : Mm → Prop} {w0 : Int64} {w1 : Int32} {w2 : Nat} (kw2 : w2 % 64 = 26) 
    (h : vp_in w1 25 ∧ (K (sl M w2 (w1).toNatClampNeg w0))) : X mM_sayWord 235 [] [.long w0, .int w1, .ref w2] M b (QV K) := by
  refine x_wf (fun hw => ?_)
  obtain ⟨s501, h⟩ := h
  refine x_astLj (pc := 235) (j := (w1).toNatClampNeg) dM_sayWord_235 kw2 ak_26 rfl s501 ?_
  refine x_goto (pc := 236) dM_sayWord_236 (t := 299) rfl ?_
  exact x_retQV (pc := 299) dM_sayWord_299 rfl h

theorem vM_sayWord_246 {M : Mm} {b : Nat × Nat} {K : Mm → Prop} {v0 : Nat} {v1 : Int32} {v2 : Int32} {w0 : Int32} {r1 : Nat} {r2 : Nat} (kv0 : v0 % 64 = 11) (e1 : gr M v0 25 = some r1) (e2 : gr M v0 26 = some r2)
    (h : (¬ v2 = 2 → vp_in w0 25) ∧ ((v2 = 2 → vp_in w0 25) ∧ (vp_in v1 25 ∧ ((¬ v2 = 2 → vp_in w0 25) ∧ ((v2 = 2 → vp_in w0 25) ∧ (vp_in v1 25 ∧ (K (sl (sl M r1 (v1).toNatClampNeg (if v2 = 2 then (gl M r2 (w0).toNatClampNeg) else (gl M r1 (w0).toNatClampNeg) : Int64)) r2 (v1).toNatClampNeg (if v2 = 2 then (gl (sl M r1 (v1).toNatClampNeg (if v2 = 2 then (gl M r2 (w0).toNatClampNeg) else (gl M r1 (w0).toNatClampNeg) : Int64)) r1 (w0).toNatClampNeg) else (gl (sl M r1 (v1).toNatClampNeg (if v2 = 2 then (gl M r2 (w0).toNatClampNeg) else (gl M r1 (w0).toNatClampNeg) : Int64)) r2 (w0).toNatClampNeg) : Int64))))))))) : X mM_sayWord 246 [(0, .ref v0), (1, .int v1), (2, .int v2)] [.int w0] M b (QV K) := by
  refine x_wf (fun hw => ?_)
  refine x_istore_n (pc := 246) dM_sayWord_246 rfl (by decide) (L' := [(3, .int w0), (0, .ref v0), (1, .int v1), (2, .int v2)]) rfl ?_
  refine x_aload_n (pc := 247) dM_sayWord_247 rfl (q := 1) rfl ?_
  refine x_getR (pc := 248) dM_sayWord_248 kv0 flM_51 rfl e1 ?_
  refine x_iload_n (pc := 251) dM_sayWord_251 rfl (q := 2) rfl ?_
  refine x_iload_n (pc := 252) dM_sayWord_252 rfl (q := 3) rfl ?_
  refine x_iconst (pc := 253) dM_sayWord_253 (v := 2) rfl ?_
  obtain ⟨s1, h⟩ := h
  obtain ⟨s2, h⟩ := h
  suffices hJ : X mM_sayWord 272 [(3, .int w0), (0, .ref v0), (1, .int v1), (2, .int v2)] [.long (if v2 = 2 then (gl M r2 (w0).toNatClampNeg) else (gl M r1 (w0).toNatClampNeg) : Int64), .int v1, .ref r1] M b (QV K) by
    refine x_icmp_ne (pc := 254) dM_sayWord_254 (t := 266) rfl (fun q1 => ?_) (fun q1 => ?_)
    · refine x_aload_n (pc := 266) dM_sayWord_266 rfl (q := 1) rfl ?_
      refine x_getR (pc := 267) dM_sayWord_267 kv0 flM_51 rfl e1 ?_
      refine x_iload_n (pc := 270) dM_sayWord_270 rfl (q := 0) rfl ?_
      refine x_aldLj (pc := 271) (j := (w0).toNatClampNeg) dM_sayWord_271 (wfk hw e1 kv0) ak_26 rfl (s1 q1) ?_
      first | (rw [if_neg q1] at hJ; exact hJ) | (simp only [if_neg q1] at hJ ⊢; exact hJ)
    · refine x_aload_n (pc := 257) dM_sayWord_257 rfl (q := 1) rfl ?_
      refine x_getR (pc := 258) dM_sayWord_258 kv0 flM_55 rfl e2 ?_
      refine x_iload_n (pc := 261) dM_sayWord_261 rfl (q := 0) rfl ?_
      refine x_aldLj (pc := 262) (j := (w0).toNatClampNeg) dM_sayWord_262 (wfk hw e2 kv0) ak_26 rfl (s2 q1) ?_
      refine x_goto (pc := 263) dM_sayWord_263 (t := 272) rfl ?_
      first | (rw [if_pos q1] at hJ; exact hJ) | (simp only [if_pos q1] at hJ ⊢; exact hJ)
  obtain ⟨s503, h⟩ := h
  refine x_astLj (pc := 272) (j := (v1).toNatClampNeg) dM_sayWord_272 (wfk hw e1 kv0) ak_26 rfl s503 ?_
  refine x_aload_n (pc := 273) dM_sayWord_273 rfl (q := 1) rfl ?_
  refine x_getR (pc := 274) dM_sayWord_274 kv0 flM_55 rfl e2 ?_
  refine x_iload_n (pc := 277) dM_sayWord_277 rfl (q := 2) rfl ?_
  refine x_iload_n (pc := 278) dM_sayWord_278 rfl (q := 3) rfl ?_
  refine x_iconst (pc := 279) dM_sayWord_279 (v := 2) rfl ?_
  obtain ⟨s4, h⟩ := h
  obtain ⟨s5, h⟩ := h
  suffices hJ : X mM_sayWord 298 [(3, .int w0), (0, .ref v0), (1, .int v1), (2, .int v2)] [.long (if v2 = 2 then (gl (sl M r1 (v1).toNatClampNeg (if v2 = 2 then (gl M r2 (w0).toNatClampNeg) else (gl M r1 (w0).toNatClampNeg) : Int64)) r1 (w0).toNatClampNeg) else (gl (sl M r1 (v1).toNatClampNeg (if v2 = 2 then (gl M r2 (w0).toNatClampNeg) else (gl M r1 (w0).toNatClampNeg) : Int64)) r2 (w0).toNatClampNeg) : Int64), .int v1, .ref r2] (sl M r1 (v1).toNatClampNeg (if v2 = 2 then (gl M r2 (w0).toNatClampNeg) else (gl M r1 (w0).toNatClampNeg) : Int64)) b (QV K) by
    refine x_icmp_ne (pc := 280) dM_sayWord_280 (t := 292) rfl (fun q2 => ?_) (fun q2 => ?_)
    · refine x_aload_n (pc := 292) dM_sayWord_292 rfl (q := 1) rfl ?_
      refine x_getR (pc := 293) dM_sayWord_293 kv0 flM_55 rfl e2 ?_
      refine x_iload_n (pc := 296) dM_sayWord_296 rfl (q := 0) rfl ?_
      refine x_aldLj (pc := 297) (j := (w0).toNatClampNeg) dM_sayWord_297 (wfk hw e2 kv0) ak_26 rfl (s4 q2) ?_
      first | (rw [if_neg q2] at hJ; exact hJ) | (simp only [if_neg q2] at hJ ⊢; exact hJ)
    · refine x_aload_n (pc := 283) dM_sayWord_283 rfl (q := 1) rfl ?_
      refine x_getR (pc := 284) dM_sayWord_284 kv0 flM_51 rfl e1 ?_
      refine x_iload_n (pc := 287) dM_sayWord_287 rfl (q := 0) rfl ?_
      refine x_aldLj (pc := 288) (j := (w0).toNatClampNeg) dM_sayWord_288 (wfk hw e1 kv0) ak_26 rfl (s5 q2) ?_
      refine x_goto (pc := 289) dM_sayWord_289 (t := 298) rfl ?_
      first | (rw [if_pos q2] at hJ; exact hJ) | (simp only [if_pos q2] at hJ ⊢; exact hJ)
  obtain ⟨s506, h⟩ := h
  refine x_astLj (pc := 298) (j := (v1).toNatClampNeg) dM_sayWord_298 (wfk hw e2 kv0) ak_26 rfl s506 ?_
  exact x_retQV (pc := 299) dM_sayWord_299 rfl h

theorem dM_casesWith_0 : decode (mB mM_casesWith) 0 = .ok (.lconst 0, 1) := op9 (by decide +kernel)
theorem dM_casesWith_1 : decode (mB mM_casesWith) 1 = .ok (.lstore_n 3, 1) := op66 (by decide +kernel)
theorem dM_casesWith_2 : decode (mB mM_casesWith) 2 = .ok (.iconst 0, 1) := op3 (by decide +kernel)
theorem dM_casesWith_3 : decode (mB mM_casesWith) 3 = .ok (.istore 5, 2) := op54 5 (by decide +kernel)
theorem dM_casesWith_5 : decode (mB mM_casesWith) 5 = .ok (.iload 5, 2) := op21 5 (by decide +kernel)
theorem dM_casesWith_7 : decode (mB mM_casesWith) 7 = .ok (.bipush 64, 2) := op16 64 (by decide +kernel)
theorem dM_casesWith_9 : decode (mB mM_casesWith) 9 = .ok (.if_icmp .ge 35, 3) := op162 0 35 (by decide +kernel)
theorem dM_casesWith_12 : decode (mB mM_casesWith) 12 = .ok (.lload_n 3, 1) := op33 (by decide +kernel)
theorem dM_casesWith_13 : decode (mB mM_casesWith) 13 = .ok (.iload 5, 2) := op21 5 (by decide +kernel)
theorem dM_casesWith_15 : decode (mB mM_casesWith) 15 = .ok (.iload_n 1, 1) := op27 (by decide +kernel)
theorem dM_casesWith_16 : decode (mB mM_casesWith) 16 = .ok (.iand, 1) := op126 (by decide +kernel)
theorem dM_casesWith_17 : decode (mB mM_casesWith) 17 = .ok (.iload_n 1, 1) := op27 (by decide +kernel)
theorem dM_casesWith_18 : decode (mB mM_casesWith) 18 = .ok (.if_icmp .ne 17, 3) := op160 0 17 (by decide +kernel)
theorem dM_casesWith_21 : decode (mB mM_casesWith) 21 = .ok (.iload 5, 2) := op21 5 (by decide +kernel)
theorem dM_casesWith_23 : decode (mB mM_casesWith) 23 = .ok (.iload_n 2, 1) := op28 (by decide +kernel)
theorem dM_casesWith_24 : decode (mB mM_casesWith) 24 = .ok (.iand, 1) := op126 (by decide +kernel)
theorem dM_casesWith_25 : decode (mB mM_casesWith) 25 = .ok (.ifCond .ne 10, 3) := op154 0 10 (by decide +kernel)
theorem dM_casesWith_28 : decode (mB mM_casesWith) 28 = .ok (.lconst 1, 1) := op10 (by decide +kernel)
theorem dM_casesWith_29 : decode (mB mM_casesWith) 29 = .ok (.iload 5, 2) := op21 5 (by decide +kernel)
theorem dM_casesWith_31 : decode (mB mM_casesWith) 31 = .ok (.lshl, 1) := op121 (by decide +kernel)
theorem dM_casesWith_32 : decode (mB mM_casesWith) 32 = .ok (.goto 4, 3) := op167 0 4 (by decide +kernel)
theorem dM_casesWith_35 : decode (mB mM_casesWith) 35 = .ok (.lconst 0, 1) := op9 (by decide +kernel)
theorem dM_casesWith_36 : decode (mB mM_casesWith) 36 = .ok (.lor, 1) := op129 (by decide +kernel)
theorem dM_casesWith_37 : decode (mB mM_casesWith) 37 = .ok (.lstore_n 3, 1) := op66 (by decide +kernel)
theorem dM_casesWith_38 : decode (mB mM_casesWith) 38 = .ok (.iinc 5 1, 3) := op132 5 1 (by decide +kernel)
theorem dM_casesWith_41 : decode (mB mM_casesWith) 41 = .ok (.goto (-36), 3) := op167 255 220 (by decide +kernel)
theorem dM_casesWith_44 : decode (mB mM_casesWith) 44 = .ok (.lload_n 3, 1) := op33 (by decide +kernel)
theorem dM_casesWith_45 : decode (mB mM_casesWith) 45 = .ok (.lreturn, 1) := op173 (by decide +kernel)

theorem vM_casesWith_0 {M : Mm} {b : Nat × Nat} {K : Int64 → Mm → Prop} {v1 : Int32} {v2 : Int32}  
    (h : X mM_casesWith 5 [(1, .int v1), (2, .int v2), (3, .long 0), (5, .int 0)] [] M b (QJ K)) : X mM_casesWith 0 [(1, .int v1), (2, .int v2)] [] M b (QJ K) := by
  refine x_wf (fun hw => ?_)
  refine x_lconst (pc := 0) dM_casesWith_0 (v := 0) rfl ?_
  refine x_lstore_n (pc := 1) dM_casesWith_1 rfl (by decide) (L' := [(3, .long 0), (1, .int v1), (2, .int v2)]) rfl ?_
  refine x_iconst (pc := 2) dM_casesWith_2 (v := 0) rfl ?_
  refine x_istore (pc := 3) dM_casesWith_3 (by decide) (L' := [(5, .int 0), (3, .long 0), (1, .int v1), (2, .int v2)]) rfl ?_
  exact x_loc [2, 3, 1, 0] rfl h

theorem vM_casesWith_5 {M : Mm} {b : Nat × Nat} {K : Int64 → Mm → Prop} {v1 : Int32} {v2 : Int32} {v3 : Int64} {v5 : Int32}  
    (h : (64 ≤ v5 → (K v3 M)) ∧ (((¬ 64 ≤ v5 ∧ ¬ (v5 &&& v1) = v1) ∨ (¬ 64 ≤ v5 ∧ (v5 &&& v1) = v1 ∧ ¬ (v5 &&& v2) = 0)) → (X mM_casesWith 36 [(1, .int v1), (2, .int v2), (5, .int v5)] [.long 0, .long v3] M b (QJ K))) ∧ ((¬ 64 ≤ v5 ∧ (v5 &&& v1) = v1 ∧ (v5 &&& v2) = 0) → (X mM_casesWith 36 [(1, .int v1), (2, .int v2), (5, .int v5)] [.long ((1 : Int64) <<< ((v5).toInt64 &&& 63)), .long v3] M b (QJ K)))) : X mM_casesWith 5 [(1, .int v1), (2, .int v2), (3, .long v3), (5, .int v5)] [] M b (QJ K) := by
  refine x_wf (fun hw => ?_)
  refine x_iload (pc := 5) dM_casesWith_5 (q := 3) rfl ?_
  refine x_bipush (pc := 7) dM_casesWith_7 (v := 64) rfl ?_
  obtain ⟨g1_0, g1_1, g1_2⟩ := h
  have g1_k1 : (¬ 64 ≤ v5 ∧ ¬ (v5 &&& v1) = v1) ∨ (¬ 64 ≤ v5 ∧ (v5 &&& v1) = v1 ∧ ¬ (v5 &&& v2) = 0) → X mM_casesWith 35 [(1, .int v1), (2, .int v2), (3, .long v3), (5, .int v5)] [.long v3] M b (QJ K) := fun q => by
    have h := g1_1 q
    refine x_lconst (pc := 35) dM_casesWith_35 (v := 0) rfl ?_
    exact x_loc [0, 1, 3] rfl h
  refine x_icmp_ge (pc := 9) dM_casesWith_9 (t := 44) rfl (fun q1 => ?_) (fun q1 => ?_)
  · refine x_lload_n (pc := 44) dM_casesWith_44 rfl (q := 2) rfl ?_
    have h := g1_0 q1
    exact x_retQJ (pc := 45) dM_casesWith_45 rfl h
  · refine x_lload_n (pc := 12) dM_casesWith_12 rfl (q := 2) rfl ?_
    refine x_iload (pc := 13) dM_casesWith_13 (q := 3) rfl ?_
    refine x_iload_n (pc := 15) dM_casesWith_15 rfl (q := 0) rfl ?_
    refine x_iand (pc := 16) dM_casesWith_16 ?_
    refine x_iload_n (pc := 17) dM_casesWith_17 rfl (q := 0) rfl ?_
    refine x_icmp_ne (pc := 18) dM_casesWith_18 (t := 35) rfl (fun q2 => ?_) (fun q2 => ?_)
    · exact g1_k1 (Or.inl ⟨q1, q2⟩)
    · refine x_iload (pc := 21) dM_casesWith_21 (q := 3) rfl ?_
      refine x_iload_n (pc := 23) dM_casesWith_23 rfl (q := 1) rfl ?_
      refine x_iand (pc := 24) dM_casesWith_24 ?_
      refine x_if_ne (pc := 25) dM_casesWith_25 (t := 35) rfl (fun q3 => ?_) (fun q3 => ?_)
      · exact g1_k1 (Or.inr ⟨q1, q2, q3⟩)
      · refine x_lconst (pc := 28) dM_casesWith_28 (v := 1) rfl ?_
        refine x_iload (pc := 29) dM_casesWith_29 (q := 3) rfl ?_
        refine x_lshl (pc := 31) dM_casesWith_31 ?_
        refine x_goto (pc := 32) dM_casesWith_32 (t := 36) rfl ?_
        have h := g1_2 ⟨q1, q2, q3⟩
        exact x_loc [0, 1, 3] rfl h

theorem vM_casesWith_36 {M : Mm} {b : Nat × Nat} {K : Int64 → Mm → Prop} {v1 : Int32} {v2 : Int32} {v5 : Int32} {w0 : Int64} {w1 : Int64}  
    (h : X mM_casesWith 5 [(1, .int v1), (2, .int v2), (3, .long (w1 ||| w0)), (5, .int (v5 + 1))] [] M b (QJ K)) : X mM_casesWith 36 [(1, .int v1), (2, .int v2), (5, .int v5)] [.long w0, .long w1] M b (QJ K) := by
  refine x_wf (fun hw => ?_)
  refine x_lor (pc := 36) dM_casesWith_36 ?_
  refine x_lstore_n (pc := 37) dM_casesWith_37 rfl (by decide) (L' := [(3, .long (w1 ||| w0)), (1, .int v1), (2, .int v2), (5, .int v5)]) rfl ?_
  refine x_iinc (pc := 38) dM_casesWith_38 (q := 3) rfl (v := v5 + 1) rfl (by decide) (L' := [(5, .int (v5 + 1)), (3, .long (w1 ||| w0)), (1, .int v1), (2, .int v2)]) rfl ?_
  refine x_goto (pc := 41) dM_casesWith_41 (t := 5) rfl ?_
  exact x_loc [2, 3, 1, 0] rfl h

theorem dM_firstRule_0 : decode (mB mM_firstRule) 0 = .ok (.iconst 0, 1) := op3 (by decide +kernel)
theorem dM_firstRule_1 : decode (mB mM_firstRule) 1 = .ok (.istore_n 1, 1) := op60 (by decide +kernel)
theorem dM_firstRule_2 : decode (mB mM_firstRule) 2 = .ok (.iload_n 1, 1) := op27 (by decide +kernel)
theorem dM_firstRule_3 : decode (mB mM_firstRule) 3 = .ok (.bipush 7, 2) := op16 7 (by decide +kernel)
theorem dM_firstRule_5 : decode (mB mM_firstRule) 5 = .ok (.if_icmp .ge 66, 3) := op162 0 66 (by decide +kernel)
theorem dM_firstRule_8 : decode (mB mM_firstRule) 8 = .ok (.aload_n 0, 1) := op42 (by decide +kernel)
theorem dM_firstRule_9 : decode (mB mM_firstRule) 9 = .ok (.getfield 45, 3) := op180 0 45 (by decide +kernel)
theorem dM_firstRule_12 : decode (mB mM_firstRule) 12 = .ok (.iload_n 1, 1) := op27 (by decide +kernel)
theorem dM_firstRule_13 : decode (mB mM_firstRule) 13 = .ok (.iconst 0, 1) := op3 (by decide +kernel)
theorem dM_firstRule_14 : decode (mB mM_firstRule) 14 = .ok (.bastore, 1) := op84 (by decide +kernel)
theorem dM_firstRule_15 : decode (mB mM_firstRule) 15 = .ok (.aload_n 0, 1) := op42 (by decide +kernel)
theorem dM_firstRule_16 : decode (mB mM_firstRule) 16 = .ok (.getfield 42, 3) := op180 0 42 (by decide +kernel)
theorem dM_firstRule_19 : decode (mB mM_firstRule) 19 = .ok (.iload_n 1, 1) := op27 (by decide +kernel)
theorem dM_firstRule_20 : decode (mB mM_firstRule) 20 = .ok (.iload_n 1, 1) := op27 (by decide +kernel)
theorem dM_firstRule_21 : decode (mB mM_firstRule) 21 = .ok (.ifCond .ne 8, 3) := op154 0 8 (by decide +kernel)
theorem dM_firstRule_24 : decode (mB mM_firstRule) 24 = .ok (.bipush 31, 2) := op16 31 (by decide +kernel)
theorem dM_firstRule_26 : decode (mB mM_firstRule) 26 = .ok (.goto 38, 3) := op167 0 38 (by decide +kernel)
theorem dM_firstRule_29 : decode (mB mM_firstRule) 29 = .ok (.iload_n 1, 1) := op27 (by decide +kernel)
theorem dM_firstRule_30 : decode (mB mM_firstRule) 30 = .ok (.iconst 1, 1) := op4 (by decide +kernel)
theorem dM_firstRule_31 : decode (mB mM_firstRule) 31 = .ok (.if_icmp .ne 7, 3) := op160 0 7 (by decide +kernel)
theorem dM_firstRule_34 : decode (mB mM_firstRule) 34 = .ok (.iconst 2, 1) := op5 (by decide +kernel)
theorem dM_firstRule_35 : decode (mB mM_firstRule) 35 = .ok (.goto 29, 3) := op167 0 29 (by decide +kernel)
theorem dM_firstRule_38 : decode (mB mM_firstRule) 38 = .ok (.iload_n 1, 1) := op27 (by decide +kernel)
theorem dM_firstRule_39 : decode (mB mM_firstRule) 39 = .ok (.iconst 4, 1) := op7 (by decide +kernel)
theorem dM_firstRule_40 : decode (mB mM_firstRule) 40 = .ok (.if_icmp .eq 8, 3) := op159 0 8 (by decide +kernel)
theorem dM_firstRule_43 : decode (mB mM_firstRule) 43 = .ok (.iload_n 1, 1) := op27 (by decide +kernel)
theorem dM_firstRule_44 : decode (mB mM_firstRule) 44 = .ok (.iconst 5, 1) := op8 (by decide +kernel)
theorem dM_firstRule_45 : decode (mB mM_firstRule) 45 = .ok (.if_icmp .ne 8, 3) := op160 0 8 (by decide +kernel)
theorem dM_firstRule_48 : decode (mB mM_firstRule) 48 = .ok (.bipush (-4), 2) := op16 252 (by decide +kernel)
theorem dM_firstRule_50 : decode (mB mM_firstRule) 50 = .ok (.goto 14, 3) := op167 0 14 (by decide +kernel)
theorem dM_firstRule_53 : decode (mB mM_firstRule) 53 = .ok (.iload_n 1, 1) := op27 (by decide +kernel)
theorem dM_firstRule_54 : decode (mB mM_firstRule) 54 = .ok (.bipush 6, 2) := op16 6 (by decide +kernel)
theorem dM_firstRule_56 : decode (mB mM_firstRule) 56 = .ok (.if_icmp .ne 7, 3) := op160 0 7 (by decide +kernel)
theorem dM_firstRule_59 : decode (mB mM_firstRule) 59 = .ok (.iconst 1, 1) := op4 (by decide +kernel)
theorem dM_firstRule_60 : decode (mB mM_firstRule) 60 = .ok (.goto 4, 3) := op167 0 4 (by decide +kernel)
theorem dM_firstRule_63 : decode (mB mM_firstRule) 63 = .ok (.iconst 0, 1) := op3 (by decide +kernel)
theorem dM_firstRule_64 : decode (mB mM_firstRule) 64 = .ok (.iastore, 1) := op79 (by decide +kernel)
theorem dM_firstRule_65 : decode (mB mM_firstRule) 65 = .ok (.iinc 1 1, 3) := op132 1 1 (by decide +kernel)
theorem dM_firstRule_68 : decode (mB mM_firstRule) 68 = .ok (.goto (-66), 3) := op167 255 190 (by decide +kernel)
theorem dM_firstRule_71 : decode (mB mM_firstRule) 71 = .ok (.return_, 1) := op177 (by decide +kernel)

theorem vM_firstRule_0 {M : Mm} {b : Nat × Nat} {K : Mm → Prop} {v0 : Nat}  
    (h : X mM_firstRule 2 [(0, .ref v0), (1, .int 0)] [] M b (QV K)) : X mM_firstRule 0 [(0, .ref v0)] [] M b (QV K) := by
  refine x_wf (fun hw => ?_)
  refine x_iconst (pc := 0) dM_firstRule_0 (v := 0) rfl ?_
  refine x_istore_n (pc := 1) dM_firstRule_1 rfl (by decide) (L' := [(1, .int 0), (0, .ref v0)]) rfl ?_
  exact x_loc [1, 0] rfl h

theorem vM_firstRule_2 {M : Mm} {b : Nat × Nat} {K : Mm → Prop} {v0 : Nat} {v1 : Int32} {r1 : Nat} {r2 : Nat} (kv0 : v0 % 64 = 11) (e1 : gr M v0 21 = some r1) (e2 : gr M v0 20 = some r2)
    (h : (7 ≤ v1 → (K M)) ∧ (¬ 7 ≤ v1 → (vp_in v1 7 ∧ ((((¬ v1 = 0 ∧ ¬ v1 = 1 ∧ v1 = 4) ∨ (¬ v1 = 0 ∧ ¬ v1 = 1 ∧ ¬ v1 = 4 ∧ v1 = 5)) → (X mM_firstRule 64 [(0, .ref v0), (1, .int v1)] [.int (-4), .int v1, .ref r2] (si M r1 (v1).toNatClampNeg (vp_nar .boolean 0)) b (QV K))) ∧ ((¬ v1 = 0 ∧ ¬ v1 = 1 ∧ ¬ v1 = 4 ∧ ¬ v1 = 5 ∧ ¬ v1 = 6) → (X mM_firstRule 64 [(0, .ref v0), (1, .int v1)] [.int 0, .int v1, .ref r2] (si M r1 (v1).toNatClampNeg (vp_nar .boolean 0)) b (QV K))) ∧ ((¬ v1 = 0 ∧ ¬ v1 = 1 ∧ ¬ v1 = 4 ∧ ¬ v1 = 5 ∧ v1 = 6) → (X mM_firstRule 64 [(0, .ref v0), (1, .int v1)] [.int 1, .int v1, .ref r2] (si M r1 (v1).toNatClampNeg (vp_nar .boolean 0)) b (QV K))) ∧ ((¬ v1 = 0 ∧ v1 = 1) → (X mM_firstRule 64 [(0, .ref v0), (1, .int v1)] [.int 2, .int v1, .ref r2] (si M r1 (v1).toNatClampNeg (vp_nar .boolean 0)) b (QV K))) ∧ (v1 = 0 → (X mM_firstRule 64 [(0, .ref v0), (1, .int v1)] [.int 31, .int v1, .ref r2] (si M r1 (v1).toNatClampNeg (vp_nar .boolean 0)) b (QV K))))))) : X mM_firstRule 2 [(0, .ref v0), (1, .int v1)] [] M b (QV K) := by
  refine x_wf (fun hw => ?_)
  refine x_iload_n (pc := 2) dM_firstRule_2 rfl (q := 1) rfl ?_
  refine x_bipush (pc := 3) dM_firstRule_3 (v := 7) rfl ?_
  obtain ⟨g1_0, g1_1⟩ := h
  refine x_icmp_ge (pc := 5) dM_firstRule_5 (t := 71) rfl (fun q1 => ?_) (fun q1 => ?_)
  · have h := g1_0 q1
    exact x_retQV (pc := 71) dM_firstRule_71 rfl h
  · refine x_aload_n (pc := 8) dM_firstRule_8 rfl (q := 0) rfl ?_
    refine x_getR (pc := 9) dM_firstRule_9 kv0 flM_45 rfl e1 ?_
    refine x_iload_n (pc := 12) dM_firstRule_12 rfl (q := 1) rfl ?_
    refine x_iconst (pc := 13) dM_firstRule_13 (v := 0) rfl ?_
    have h := g1_1 q1
    obtain ⟨s501, h⟩ := h
    refine x_astIj (pc := 14) (j := (v1).toNatClampNeg) (v := vp_nar .boolean 0) (Or.inr (Or.inr ⟨rfl, rfl, rfl⟩)) dM_firstRule_14 (wfk hw e1 kv0) ak_25 rfl s501 ?_
    refine x_aload_n (pc := 15) dM_firstRule_15 rfl (q := 0) rfl ?_
    refine x_getR (pc := 16) dM_firstRule_16 kv0 flM_42 rfl e2 ?_
    refine x_iload_n (pc := 19) dM_firstRule_19 rfl (q := 1) rfl ?_
    refine x_iload_n (pc := 20) dM_firstRule_20 rfl (q := 1) rfl ?_
    obtain ⟨g2_0, g2_1, g2_2, g2_3, g2_4⟩ := h
    have g2_k0 : (¬ v1 = 0 ∧ ¬ v1 = 1 ∧ v1 = 4) ∨ (¬ v1 = 0 ∧ ¬ v1 = 1 ∧ ¬ v1 = 4 ∧ v1 = 5) → X mM_firstRule 48 [(0, .ref v0), (1, .int v1)] [.int v1, .ref r2] (si M r1 (v1).toNatClampNeg (vp_nar .boolean 0)) b (QV K) := fun q => by
      have h := g2_0 q
      refine x_bipush (pc := 48) dM_firstRule_48 (v := (-4)) rfl ?_
      refine x_goto (pc := 50) dM_firstRule_50 (t := 64) rfl ?_
      exact h
    refine x_if_ne (pc := 21) dM_firstRule_21 (t := 29) rfl (fun q2 => ?_) (fun q2 => ?_)
    · refine x_iload_n (pc := 29) dM_firstRule_29 rfl (q := 1) rfl ?_
      refine x_iconst (pc := 30) dM_firstRule_30 (v := 1) rfl ?_
      refine x_icmp_ne (pc := 31) dM_firstRule_31 (t := 38) rfl (fun q3 => ?_) (fun q3 => ?_)
      · refine x_iload_n (pc := 38) dM_firstRule_38 rfl (q := 1) rfl ?_
        refine x_iconst (pc := 39) dM_firstRule_39 (v := 4) rfl ?_
        refine x_icmp_eq (pc := 40) dM_firstRule_40 (t := 48) rfl (fun q4 => ?_) (fun q4 => ?_)
        · exact g2_k0 (Or.inl ⟨q2, q3, q4⟩)
        · refine x_iload_n (pc := 43) dM_firstRule_43 rfl (q := 1) rfl ?_
          refine x_iconst (pc := 44) dM_firstRule_44 (v := 5) rfl ?_
          refine x_icmp_ne (pc := 45) dM_firstRule_45 (t := 53) rfl (fun q5 => ?_) (fun q5 => ?_)
          · refine x_iload_n (pc := 53) dM_firstRule_53 rfl (q := 1) rfl ?_
            refine x_bipush (pc := 54) dM_firstRule_54 (v := 6) rfl ?_
            refine x_icmp_ne (pc := 56) dM_firstRule_56 (t := 63) rfl (fun q6 => ?_) (fun q6 => ?_)
            · refine x_iconst (pc := 63) dM_firstRule_63 (v := 0) rfl ?_
              have h := g2_1 ⟨q2, q3, q4, q5, q6⟩
              exact h
            · refine x_iconst (pc := 59) dM_firstRule_59 (v := 1) rfl ?_
              refine x_goto (pc := 60) dM_firstRule_60 (t := 64) rfl ?_
              have h := g2_2 ⟨q2, q3, q4, q5, q6⟩
              exact h
          · exact g2_k0 (Or.inr ⟨q2, q3, q4, q5⟩)
      · refine x_iconst (pc := 34) dM_firstRule_34 (v := 2) rfl ?_
        refine x_goto (pc := 35) dM_firstRule_35 (t := 64) rfl ?_
        have h := g2_3 ⟨q2, q3⟩
        exact h
    · refine x_bipush (pc := 24) dM_firstRule_24 (v := 31) rfl ?_
      refine x_goto (pc := 26) dM_firstRule_26 (t := 64) rfl ?_
      have h := g2_4 q2
      exact h

theorem vM_firstRule_64 {M : Mm} {b : Nat × Nat} {K : Mm → Prop} {v0 : Nat} {v1 : Int32} {w0 : Int32} {w1 : Int32} {w2 : Nat} (kw2 : w2 % 64 = 15) 
    (h : vp_in w1 7 ∧ (X mM_firstRule 2 [(0, .ref v0), (1, .int (v1 + 1))] [] (si M w2 (w1).toNatClampNeg w0) b (QV K))) : X mM_firstRule 64 [(0, .ref v0), (1, .int v1)] [.int w0, .int w1, .ref w2] M b (QV K) := by
  refine x_wf (fun hw => ?_)
  obtain ⟨s501, h⟩ := h
  refine x_astIj (pc := 64) (j := (w1).toNatClampNeg) (v := w0) (Or.inl ⟨rfl, rfl, rfl⟩) dM_firstRule_64 kw2 ak_15 rfl s501 ?_
  refine x_iinc (pc := 65) dM_firstRule_65 (q := 1) rfl (v := v1 + 1) rfl (by decide) (L' := [(1, .int (v1 + 1)), (0, .ref v0)]) rfl ?_
  refine x_goto (pc := 68) dM_firstRule_68 (t := 2) rfl ?_
  exact x_loc [1, 0] rfl h

theorem dM_feed_0 : decode (mB mM_feed) 0 = .ok (.aload_n 0, 1) := op42 (by decide +kernel)
theorem dM_feed_1 : decode (mB mM_feed) 1 = .ok (.getfield 121, 3) := op180 0 121 (by decide +kernel)
theorem dM_feed_4 : decode (mB mM_feed) 4 = .ok (.bipush 8, 2) := op16 8 (by decide +kernel)
theorem dM_feed_6 : decode (mB mM_feed) 6 = .ok (.iadd, 1) := op96 (by decide +kernel)
theorem dM_feed_7 : decode (mB mM_feed) 7 = .ok (.sipush 400, 3) := op17 1 144 (by decide +kernel)
theorem dM_feed_10 : decode (mB mM_feed) 10 = .ok (.if_icmp .le 6, 3) := op164 0 6 (by decide +kernel)
theorem dM_feed_13 : decode (mB mM_feed) 13 = .ok (.bipush (-3), 2) := op16 253 (by decide +kernel)
theorem dM_feed_15 : decode (mB mM_feed) 15 = .ok (.ireturn, 1) := op172 (by decide +kernel)
theorem dM_feed_16 : decode (mB mM_feed) 16 = .ok (.bipush 56, 2) := op16 56 (by decide +kernel)
theorem dM_feed_18 : decode (mB mM_feed) 18 = .ok (.istore_n 3, 1) := op62 (by decide +kernel)
theorem dM_feed_19 : decode (mB mM_feed) 19 = .ok (.iload_n 3, 1) := op29 (by decide +kernel)
theorem dM_feed_20 : decode (mB mM_feed) 20 = .ok (.ifCond .lt 36, 3) := op155 0 36 (by decide +kernel)
theorem dM_feed_23 : decode (mB mM_feed) 23 = .ok (.aload_n 0, 1) := op42 (by decide +kernel)
theorem dM_feed_24 : decode (mB mM_feed) 24 = .ok (.getfield 33, 3) := op180 0 33 (by decide +kernel)
theorem dM_feed_27 : decode (mB mM_feed) 27 = .ok (.aload_n 0, 1) := op42 (by decide +kernel)
theorem dM_feed_28 : decode (mB mM_feed) 28 = .ok (.getfield 121, 3) := op180 0 121 (by decide +kernel)
theorem dM_feed_31 : decode (mB mM_feed) 31 = .ok (.lload_n 1, 1) := op31 (by decide +kernel)
theorem dM_feed_32 : decode (mB mM_feed) 32 = .ok (.iload_n 3, 1) := op29 (by decide +kernel)
theorem dM_feed_33 : decode (mB mM_feed) 33 = .ok (.lshr, 1) := op123 (by decide +kernel)
theorem dM_feed_34 : decode (mB mM_feed) 34 = .ok (.ldc2_w 124, 3) := op20 0 124 (by decide +kernel)
theorem dM_feed_37 : decode (mB mM_feed) 37 = .ok (.land, 1) := op127 (by decide +kernel)
theorem dM_feed_38 : decode (mB mM_feed) 38 = .ok (.l2i, 1) := op136 (by decide +kernel)
theorem dM_feed_39 : decode (mB mM_feed) 39 = .ok (.iastore, 1) := op79 (by decide +kernel)
theorem dM_feed_40 : decode (mB mM_feed) 40 = .ok (.aload_n 0, 1) := op42 (by decide +kernel)
theorem dM_feed_41 : decode (mB mM_feed) 41 = .ok (.dup, 1) := op89 (by decide +kernel)
theorem dM_feed_42 : decode (mB mM_feed) 42 = .ok (.getfield 121, 3) := op180 0 121 (by decide +kernel)
theorem dM_feed_45 : decode (mB mM_feed) 45 = .ok (.iconst 1, 1) := op4 (by decide +kernel)
theorem dM_feed_46 : decode (mB mM_feed) 46 = .ok (.iadd, 1) := op96 (by decide +kernel)
theorem dM_feed_47 : decode (mB mM_feed) 47 = .ok (.putfield 121, 3) := op181 0 121 (by decide +kernel)
theorem dM_feed_50 : decode (mB mM_feed) 50 = .ok (.iinc 3 (-8), 3) := op132 3 248 (by decide +kernel)
theorem dM_feed_53 : decode (mB mM_feed) 53 = .ok (.goto (-34), 3) := op167 255 222 (by decide +kernel)
theorem dM_feed_56 : decode (mB mM_feed) 56 = .ok (.aload_n 0, 1) := op42 (by decide +kernel)
theorem dM_feed_57 : decode (mB mM_feed) 57 = .ok (.getfield 121, 3) := op180 0 121 (by decide +kernel)
theorem dM_feed_60 : decode (mB mM_feed) 60 = .ok (.ireturn, 1) := op172 (by decide +kernel)

theorem vM_feed_0 {M : Mm} {b : Nat × Nat} {K : Int32 → Mm → Prop} {v0 : Nat} {v1 : Int64} (kv0 : v0 % 64 = 11) 
    (h : (((gi M v0 11) + 8) ≤ 400 → (X mM_feed 19 [(0, .ref v0), (1, .long v1), (3, .int 56)] [] M b (QI K))) ∧ (¬ ((gi M v0 11) + 8) ≤ 400 → (K (-3) M))) : X mM_feed 0 [(0, .ref v0), (1, .long v1)] [] M b (QI K) := by
  refine x_wf (fun hw => ?_)
  refine x_aload_n (pc := 0) dM_feed_0 rfl (q := 0) rfl ?_
  refine x_getI (pc := 1) dM_feed_1 kv0 flM_121 rfl ?_
  refine x_bipush (pc := 4) dM_feed_4 (v := 8) rfl ?_
  refine x_iadd (pc := 6) dM_feed_6 ?_
  refine x_sipush (pc := 7) dM_feed_7 (v := 400) rfl ?_
  obtain ⟨g1_0, g1_1⟩ := h
  refine x_icmp_le (pc := 10) dM_feed_10 (t := 16) rfl (fun q1 => ?_) (fun q1 => ?_)
  · refine x_bipush (pc := 16) dM_feed_16 (v := 56) rfl ?_
    have h := g1_0 q1
    refine x_istore_n (pc := 18) dM_feed_18 rfl (by decide) (L' := [(3, .int 56), (0, .ref v0), (1, .long v1)]) rfl ?_
    exact x_loc [1, 2, 0] rfl h
  · refine x_bipush (pc := 13) dM_feed_13 (v := (-3)) rfl ?_
    have h := g1_1 q1
    exact x_retQI (pc := 15) dM_feed_15 rfl rfl h

theorem vM_feed_19 {M : Mm} {b : Nat × Nat} {K : Int32 → Mm → Prop} {v0 : Nat} {v1 : Int64} {v3 : Int32} {r1 : Nat} (kv0 : v0 % 64 = 11) (e1 : gr M v0 10 = some r1)
    (h : (v3 < 0 → (K (gi M v0 11) M)) ∧ (¬ v3 < 0 → (vp_in (gi M v0 11) 400 ∧ (X mM_feed 19 [(0, .ref v0), (1, .long v1), (3, .int (v3 + (-8)))] [] (si (si M r1 (gi M v0 11).toNatClampNeg (((v1 >>> ((v3).toInt64 &&& 63)) &&& 255).toInt32)) v0 11 ((gi (si M r1 (gi M v0 11).toNatClampNeg (((v1 >>> ((v3).toInt64 &&& 63)) &&& 255).toInt32)) v0 11) + 1)) b (QI K))))) : X mM_feed 19 [(0, .ref v0), (1, .long v1), (3, .int v3)] [] M b (QI K) := by
  refine x_wf (fun hw => ?_)
  refine x_iload_n (pc := 19) dM_feed_19 rfl (q := 2) rfl ?_
  obtain ⟨g1_0, g1_1⟩ := h
  refine x_if_lt (pc := 20) dM_feed_20 (t := 56) rfl (fun q1 => ?_) (fun q1 => ?_)
  · refine x_aload_n (pc := 56) dM_feed_56 rfl (q := 0) rfl ?_
    refine x_getI (pc := 57) dM_feed_57 kv0 flM_121 rfl ?_
    have h := g1_0 q1
    exact x_retQI (pc := 60) dM_feed_60 rfl rfl h
  · refine x_aload_n (pc := 23) dM_feed_23 rfl (q := 0) rfl ?_
    refine x_getR (pc := 24) dM_feed_24 kv0 flM_33 rfl e1 ?_
    refine x_aload_n (pc := 27) dM_feed_27 rfl (q := 0) rfl ?_
    refine x_getI (pc := 28) dM_feed_28 kv0 flM_121 rfl ?_
    refine x_lload_n (pc := 31) dM_feed_31 rfl (q := 1) rfl ?_
    refine x_iload_n (pc := 32) dM_feed_32 rfl (q := 2) rfl ?_
    refine x_lshr (pc := 33) dM_feed_33 ?_
    refine x_ldc2 (pc := 34) dM_feed_34 klM_124 ?_
    refine x_land (pc := 37) dM_feed_37 ?_
    refine x_l2i (pc := 38) dM_feed_38 ?_
    have h := g1_1 q1
    obtain ⟨s501, h⟩ := h
    refine x_astIj (pc := 39) (j := (gi M v0 11).toNatClampNeg) (v := ((v1 >>> ((v3).toInt64 &&& 63)) &&& 255).toInt32) (Or.inl ⟨rfl, rfl, rfl⟩) dM_feed_39 (wfk hw e1 kv0) ak_22 rfl s501 ?_
    refine x_aload_n (pc := 40) dM_feed_40 rfl (q := 0) rfl ?_
    refine x_dup (pc := 41) dM_feed_41 rfl ?_
    refine x_getI (pc := 42) dM_feed_42 kv0 flM_121 rfl ?_
    refine x_iconst (pc := 45) dM_feed_45 (v := 1) rfl ?_
    refine x_iadd (pc := 46) dM_feed_46 ?_
    refine x_putI (pc := 47) dM_feed_47 kv0 flM_121 rfl rfl ?_
    refine x_iinc (pc := 50) dM_feed_50 (q := 2) rfl (v := v3 + (-8)) rfl (by decide) (L' := [(3, .int (v3 + (-8))), (0, .ref v0), (1, .long v1)]) rfl ?_
    refine x_goto (pc := 53) dM_feed_53 (t := 19) rfl ?_
    exact x_loc [1, 2, 0] rfl h

theorem dM_end_0 : decode (mB mM_end) 0 = .ok (.iload_n 1, 1) := op27 (by decide +kernel)
theorem dM_end_1 : decode (mB mM_end) 1 = .ok (.i2l, 1) := op133 (by decide +kernel)
theorem dM_end_2 : decode (mB mM_end) 2 = .ok (.lconst 0, 1) := op9 (by decide +kernel)
theorem dM_end_3 : decode (mB mM_end) 3 = .ok (.aload_n 0, 1) := op42 (by decide +kernel)
theorem dM_end_4 : decode (mB mM_end) 4 = .ok (.getfield 121, 3) := op180 0 121 (by decide +kernel)
theorem dM_end_7 : decode (mB mM_end) 7 = .ok (.i2l, 1) := op133 (by decide +kernel)
theorem dM_end_8 : decode (mB mM_end) 8 = .ok (.invokestatic 126, 3) := op184 0 126 (by decide +kernel)
theorem dM_end_11 : decode (mB mM_end) 11 = .ok (.ifCond .ne 5, 3) := op154 0 5 (by decide +kernel)
theorem dM_end_14 : decode (mB mM_end) 14 = .ok (.iconst (-1), 1) := op2 (by decide +kernel)
theorem dM_end_15 : decode (mB mM_end) 15 = .ok (.ireturn, 1) := op172 (by decide +kernel)
theorem dM_end_16 : decode (mB mM_end) 16 = .ok (.aload_n 0, 1) := op42 (by decide +kernel)
theorem dM_end_17 : decode (mB mM_end) 17 = .ok (.getfield 121, 3) := op180 0 121 (by decide +kernel)
theorem dM_end_20 : decode (mB mM_end) 20 = .ok (.istore_n 2, 1) := op61 (by decide +kernel)
theorem dM_end_21 : decode (mB mM_end) 21 = .ok (.aload_n 0, 1) := op42 (by decide +kernel)
theorem dM_end_22 : decode (mB mM_end) 22 = .ok (.iload_n 1, 1) := op27 (by decide +kernel)
theorem dM_end_23 : decode (mB mM_end) 23 = .ok (.putfield 121, 3) := op181 0 121 (by decide +kernel)
theorem dM_end_26 : decode (mB mM_end) 26 = .ok (.iload_n 2, 1) := op28 (by decide +kernel)
theorem dM_end_27 : decode (mB mM_end) 27 = .ok (.ireturn, 1) := op172 (by decide +kernel)

theorem vM_end_0 {M : Mm} {b : Nat × Nat} {K : Int32 → Mm → Prop} {v0 : Nat} {v1 : Int32} (kv0 : v0 % 64 = 11) 
    (h : CI mM_in [.long ((v1).toInt64), .long 0, .long ((gi M v0 11).toInt64)] M (fun rv N => X mM_end 11 [(0, .ref v0), (1, .int v1)] [.int rv] N b (QI K))) : X mM_end 0 [(0, .ref v0), (1, .int v1)] [] M b (QI K) := by
  refine x_wf (fun hw => ?_)
  refine x_iload_n (pc := 0) dM_end_0 rfl (q := 1) rfl ?_
  refine x_i2l (pc := 1) dM_end_1 ?_
  refine x_lconst (pc := 2) dM_end_2 (v := 0) rfl ?_
  refine x_aload_n (pc := 3) dM_end_3 rfl (q := 0) rfl ?_
  refine x_getI (pc := 4) dM_end_4 kv0 flM_121 rfl ?_
  refine x_i2l (pc := 7) dM_end_7 ?_
  exact x_invS (pc := 8) dM_end_8 (S := []) (As := [.long ((v1).toInt64), .long 0, .long ((gi M v0 11).toInt64)]) mlM_126 hM_in rfl ⟨by decide, by decide⟩ ⟨Nat.zero_le _, Nat.zero_le _⟩ rfl (Nat.le_of_ble_eq_true rfl) (aftI (b' := b) ⟨Nat.le_refl _, Nat.le_refl _⟩ (fun rv N h => h) h)

theorem vM_end_11 {M : Mm} {b : Nat × Nat} {K : Int32 → Mm → Prop} {v0 : Nat} {v1 : Int32} {w0 : Int32} (kv0 : v0 % 64 = 11) 
    (h : (¬ w0 = 0 → (K (gi M v0 11) (si M v0 11 v1))) ∧ (w0 = 0 → (K (-1) M))) : X mM_end 11 [(0, .ref v0), (1, .int v1)] [.int w0] M b (QI K) := by
  refine x_wf (fun hw => ?_)
  obtain ⟨g1_0, g1_1⟩ := h
  refine x_if_ne (pc := 11) dM_end_11 (t := 16) rfl (fun q1 => ?_) (fun q1 => ?_)
  · refine x_aload_n (pc := 16) dM_end_16 rfl (q := 0) rfl ?_
    refine x_getI (pc := 17) dM_end_17 kv0 flM_121 rfl ?_
    have h := g1_0 q1
    refine x_istore_n (pc := 20) dM_end_20 rfl (by decide) (L' := [(2, .int (gi M v0 11)), (0, .ref v0), (1, .int v1)]) rfl ?_
    refine x_aload_n (pc := 21) dM_end_21 rfl (q := 1) rfl ?_
    refine x_iload_n (pc := 22) dM_end_22 rfl (q := 2) rfl ?_
    refine x_putI (pc := 23) dM_end_23 kv0 flM_121 rfl rfl ?_
    refine x_iload_n (pc := 26) dM_end_26 rfl (q := 0) rfl ?_
    exact x_retQI (pc := 27) dM_end_27 rfl rfl h
  · refine x_iconst (pc := 14) dM_end_14 (v := (-1)) rfl ?_
    have h := g1_1 q1
    exact x_retQI (pc := 15) dM_end_15 rfl rfl h

theorem dM_in_0 : decode (mB mM_in) 0 = .ok (.lload_n 0, 1) := op30 (by decide +kernel)
theorem dM_in_1 : decode (mB mM_in) 1 = .ok (.lload_n 2, 1) := op32 (by decide +kernel)
theorem dM_in_2 : decode (mB mM_in) 2 = .ok (.lcmp, 1) := op148 (by decide +kernel)
theorem dM_in_3 : decode (mB mM_in) 3 = .ok (.ifCond .lt 14, 3) := op155 0 14 (by decide +kernel)
theorem dM_in_6 : decode (mB mM_in) 6 = .ok (.lload_n 0, 1) := op30 (by decide +kernel)
theorem dM_in_7 : decode (mB mM_in) 7 = .ok (.lload 4, 2) := op22 4 (by decide +kernel)
theorem dM_in_9 : decode (mB mM_in) 9 = .ok (.lcmp, 1) := op148 (by decide +kernel)
theorem dM_in_10 : decode (mB mM_in) 10 = .ok (.ifCond .gt 7, 3) := op157 0 7 (by decide +kernel)
theorem dM_in_13 : decode (mB mM_in) 13 = .ok (.iconst 1, 1) := op4 (by decide +kernel)
theorem dM_in_14 : decode (mB mM_in) 14 = .ok (.goto 4, 3) := op167 0 4 (by decide +kernel)
theorem dM_in_17 : decode (mB mM_in) 17 = .ok (.iconst 0, 1) := op3 (by decide +kernel)
theorem dM_in_18 : decode (mB mM_in) 18 = .ok (.ireturn, 1) := op172 (by decide +kernel)

theorem vM_in_0 {M : Mm} {b : Nat × Nat} {K : Int32 → Mm → Prop} {v0 : Int64} {v2 : Int64} {v4 : Int64}  
    (h : (((v0 < v2) ∨ (¬ v0 < v2 ∧ v4 < v0)) → (K 0 M)) ∧ ((¬ v0 < v2 ∧ ¬ v4 < v0) → (K 1 M))) : X mM_in 0 [(0, .long v0), (2, .long v2), (4, .long v4)] [] M b (QI K) := by
  refine x_wf (fun hw => ?_)
  refine x_lload_n (pc := 0) dM_in_0 rfl (q := 0) rfl ?_
  refine x_lload_n (pc := 1) dM_in_1 rfl (q := 1) rfl ?_
  obtain ⟨g1_0, g1_1⟩ := h
  have g1_k0 : (v0 < v2) ∨ (¬ v0 < v2 ∧ v4 < v0) → X mM_in 17 [(0, .long v0), (2, .long v2), (4, .long v4)] [] M b (QI K) := fun q => by
    have h := g1_0 q
    refine x_iconst (pc := 17) dM_in_17 (v := 0) rfl ?_
    exact x_retQI (pc := 18) dM_in_18 rfl (by (repeat' split) <;> rfl) h
  refine x_lc_lt (pc := 2) dM_in_2 dM_in_3 (t := 17) rfl (fun q1 => ?_) (fun q1 => ?_)
  · exact g1_k0 (Or.inl q1)
  · refine x_lload_n (pc := 6) dM_in_6 rfl (q := 0) rfl ?_
    refine x_lload (pc := 7) dM_in_7 (q := 2) rfl ?_
    refine x_lc_gt (pc := 9) dM_in_9 dM_in_10 (t := 17) rfl (fun q2 => ?_) (fun q2 => ?_)
    · exact g1_k0 (Or.inr ⟨q1, q2⟩)
    · refine x_iconst (pc := 13) dM_in_13 (v := 1) rfl ?_
      refine x_goto (pc := 14) dM_in_14 (t := 18) rfl ?_
      have h := g1_1 ⟨q1, q2⟩
      exact x_retQI (pc := 18) dM_in_18 rfl (by (repeat' split) <;> rfl) h

theorem dM_library_0 : decode (mB mM_library) 0 = .ok (.iconst 0, 1) := op3 (by decide +kernel)
theorem dM_library_1 : decode (mB mM_library) 1 = .ok (.istore_n 1, 1) := op60 (by decide +kernel)
theorem dM_library_2 : decode (mB mM_library) 2 = .ok (.aload_n 0, 1) := op42 (by decide +kernel)
theorem dM_library_3 : decode (mB mM_library) 3 = .ok (.iconst 0, 1) := op3 (by decide +kernel)
theorem dM_library_4 : decode (mB mM_library) 4 = .ok (.putfield 130, 3) := op181 0 130 (by decide +kernel)
theorem dM_library_7 : decode (mB mM_library) 7 = .ok (.aload_n 0, 1) := op42 (by decide +kernel)
theorem dM_library_8 : decode (mB mM_library) 8 = .ok (.iconst 0, 1) := op3 (by decide +kernel)
theorem dM_library_9 : decode (mB mM_library) 9 = .ok (.putfield 139, 3) := op181 0 139 (by decide +kernel)
theorem dM_library_12 : decode (mB mM_library) 12 = .ok (.aload_n 0, 1) := op42 (by decide +kernel)
theorem dM_library_13 : decode (mB mM_library) 13 = .ok (.invokevirtual 97, 3) := op182 0 97 (by decide +kernel)
theorem dM_library_16 : decode (mB mM_library) 16 = .ok (.aload_n 0, 1) := op42 (by decide +kernel)
theorem dM_library_17 : decode (mB mM_library) 17 = .ok (.invokevirtual 180, 3) := op182 0 180 (by decide +kernel)
theorem dM_library_20 : decode (mB mM_library) 20 = .ok (.aload_n 0, 1) := op42 (by decide +kernel)
theorem dM_library_21 : decode (mB mM_library) 21 = .ok (.getfield 130, 3) := op180 0 130 (by decide +kernel)
theorem dM_library_24 : decode (mB mM_library) 24 = .ok (.ifCond .ne 20, 3) := op154 0 20 (by decide +kernel)
theorem dM_library_27 : decode (mB mM_library) 27 = .ok (.aload_n 0, 1) := op42 (by decide +kernel)
theorem dM_library_28 : decode (mB mM_library) 28 = .ok (.getfield 158, 3) := op180 0 158 (by decide +kernel)
theorem dM_library_31 : decode (mB mM_library) 31 = .ok (.ifCond .eq 13, 3) := op153 0 13 (by decide +kernel)
theorem dM_library_34 : decode (mB mM_library) 34 = .ok (.aload_n 0, 1) := op42 (by decide +kernel)
theorem dM_library_35 : decode (mB mM_library) 35 = .ok (.invokevirtual 218, 3) := op182 0 218 (by decide +kernel)
theorem dM_library_38 : decode (mB mM_library) 38 = .ok (.iinc 1 1, 3) := op132 1 1 (by decide +kernel)
theorem dM_library_41 : decode (mB mM_library) 41 = .ok (.goto (-21), 3) := op167 255 235 (by decide +kernel)
theorem dM_library_44 : decode (mB mM_library) 44 = .ok (.aload_n 0, 1) := op42 (by decide +kernel)
theorem dM_library_45 : decode (mB mM_library) 45 = .ok (.invokevirtual 221, 3) := op182 0 221 (by decide +kernel)
theorem dM_library_48 : decode (mB mM_library) 48 = .ok (.aload_n 0, 1) := op42 (by decide +kernel)
theorem dM_library_49 : decode (mB mM_library) 49 = .ok (.iconst 0, 1) := op3 (by decide +kernel)
theorem dM_library_50 : decode (mB mM_library) 50 = .ok (.putfield 121, 3) := op181 0 121 (by decide +kernel)
theorem dM_library_53 : decode (mB mM_library) 53 = .ok (.aload_n 0, 1) := op42 (by decide +kernel)
theorem dM_library_54 : decode (mB mM_library) 54 = .ok (.getfield 130, 3) := op180 0 130 (by decide +kernel)
theorem dM_library_57 : decode (mB mM_library) 57 = .ok (.ifCond .le 11, 3) := op158 0 11 (by decide +kernel)
theorem dM_library_60 : decode (mB mM_library) 60 = .ok (.bipush (-10), 2) := op16 246 (by decide +kernel)
theorem dM_library_62 : decode (mB mM_library) 62 = .ok (.aload_n 0, 1) := op42 (by decide +kernel)
theorem dM_library_63 : decode (mB mM_library) 63 = .ok (.getfield 136, 3) := op180 0 136 (by decide +kernel)
theorem dM_library_66 : decode (mB mM_library) 66 = .ok (.isub, 1) := op100 (by decide +kernel)
theorem dM_library_67 : decode (mB mM_library) 67 = .ok (.ireturn, 1) := op172 (by decide +kernel)
theorem dM_library_68 : decode (mB mM_library) 68 = .ok (.aload_n 0, 1) := op42 (by decide +kernel)
theorem dM_library_69 : decode (mB mM_library) 69 = .ok (.invokevirtual 100, 3) := op182 0 100 (by decide +kernel)
theorem dM_library_72 : decode (mB mM_library) 72 = .ok (.iload_n 1, 1) := op27 (by decide +kernel)
theorem dM_library_73 : decode (mB mM_library) 73 = .ok (.ireturn, 1) := op172 (by decide +kernel)

theorem vM_library_0 {M : Mm} {b : Nat × Nat} {K : Int32 → Mm → Prop} {v0 : Nat} (kv0 : v0 % 64 = 11) 
    (h : CV mM_firstLibrary [.ref v0] (si (si M v0 16 0) v0 12 0) (fun N => X mM_library 16 [(0, .ref v0), (1, .int 0)] [] N b (QI K))) : X mM_library 0 [(0, .ref v0)] [] M b (QI K) := by
  refine x_wf (fun hw => ?_)
  refine x_iconst (pc := 0) dM_library_0 (v := 0) rfl ?_
  refine x_istore_n (pc := 1) dM_library_1 rfl (by decide) (L' := [(1, .int 0), (0, .ref v0)]) rfl ?_
  refine x_aload_n (pc := 2) dM_library_2 rfl (q := 1) rfl ?_
  refine x_iconst (pc := 3) dM_library_3 (v := 0) rfl ?_
  refine x_putI (pc := 4) dM_library_4 kv0 flM_130 rfl rfl ?_
  refine x_aload_n (pc := 7) dM_library_7 rfl (q := 1) rfl ?_
  refine x_iconst (pc := 8) dM_library_8 (v := 0) rfl ?_
  refine x_putI (pc := 9) dM_library_9 kv0 flM_139 rfl rfl ?_
  refine x_aload_n (pc := 12) dM_library_12 rfl (q := 1) rfl ?_
  exact x_invV (pc := 13) dM_library_13 (c := 11) (S := []) (As := []) mlM_97 hM_firstLibrary rfl (by decide) rfl kv0 ⟨by decide, by decide⟩ ⟨Nat.zero_le _, Nat.zero_le _⟩ rfl (Nat.le_of_ble_eq_true rfl) (aftV (b' := b) ⟨Nat.le_refl _, Nat.le_refl _⟩ (fun N h => x_loc [1, 0] rfl h) h)

theorem vM_library_16 {M : Mm} {b : Nat × Nat} {K : Int32 → Mm → Prop} {v0 : Nat} {v1 : Int32} (kv0 : v0 % 64 = 11) 
    (h : CV mM_next [.ref v0] M (fun N => X mM_library 20 [(0, .ref v0), (1, .int v1)] [] N b (QI K))) : X mM_library 16 [(0, .ref v0), (1, .int v1)] [] M b (QI K) := by
  refine x_wf (fun hw => ?_)
  refine x_aload_n (pc := 16) dM_library_16 rfl (q := 0) rfl ?_
  exact x_invV (pc := 17) dM_library_17 (c := 11) (S := []) (As := []) mlM_180 hM_next rfl (by decide) rfl kv0 ⟨by decide, by decide⟩ ⟨Nat.zero_le _, Nat.zero_le _⟩ rfl (Nat.le_of_ble_eq_true rfl) (aftV (b' := b) ⟨Nat.le_refl _, Nat.le_refl _⟩ (fun N h => h) h)

theorem vM_library_20 {M : Mm} {b : Nat × Nat} {K : Int32 → Mm → Prop} {v0 : Nat} {v1 : Int32} (kv0 : v0 % 64 = 11) 
    (h : (((¬ (gi M v0 16) = 0) ∨ ((gi M v0 16) = 0 ∧ (gi M v0 14) = 0)) → (CV mM_checks [.ref v0] M (fun N => X mM_library 48 [(0, .ref v0), (1, .int v1)] [] N b (QI K)))) ∧ (((gi M v0 16) = 0 ∧ ¬ (gi M v0 14) = 0) → (CV mM_readLine [.ref v0] M (fun N => X mM_library 38 [(0, .ref v0), (1, .int v1)] [] N b (QI K))))) : X mM_library 20 [(0, .ref v0), (1, .int v1)] [] M b (QI K) := by
  refine x_wf (fun hw => ?_)
  refine x_aload_n (pc := 20) dM_library_20 rfl (q := 0) rfl ?_
  refine x_getI (pc := 21) dM_library_21 kv0 flM_130 rfl ?_
  obtain ⟨g1_0, g1_1⟩ := h
  have g1_k0 : (¬ (gi M v0 16) = 0) ∨ ((gi M v0 16) = 0 ∧ (gi M v0 14) = 0) → X mM_library 44 [(0, .ref v0), (1, .int v1)] [] M b (QI K) := fun q => by
    have h := g1_0 q
    refine x_aload_n (pc := 44) dM_library_44 rfl (q := 0) rfl ?_
    exact x_invV (pc := 45) dM_library_45 (c := 11) (S := []) (As := []) mlM_221 hM_checks rfl (by decide) rfl kv0 ⟨by decide, by decide⟩ ⟨Nat.zero_le _, Nat.zero_le _⟩ rfl (Nat.le_of_ble_eq_true rfl) (aftV (b' := b) ⟨Nat.le_refl _, Nat.le_refl _⟩ (fun N h => h) h)
  refine x_if_ne (pc := 24) dM_library_24 (t := 44) rfl (fun q1 => ?_) (fun q1 => ?_)
  · exact g1_k0 (Or.inl q1)
  · refine x_aload_n (pc := 27) dM_library_27 rfl (q := 0) rfl ?_
    refine x_getI (pc := 28) dM_library_28 kv0 flM_158 rfl ?_
    refine x_if_eq (pc := 31) dM_library_31 (t := 44) rfl (fun q2 => ?_) (fun q2 => ?_)
    · exact g1_k0 (Or.inr ⟨q1, q2⟩)
    · refine x_aload_n (pc := 34) dM_library_34 rfl (q := 0) rfl ?_
      have h := g1_1 ⟨q1, q2⟩
      exact x_invV (pc := 35) dM_library_35 (c := 11) (S := []) (As := []) mlM_218 hM_readLine rfl (by decide) rfl kv0 ⟨by decide, by decide⟩ ⟨Nat.zero_le _, Nat.zero_le _⟩ rfl (Nat.le_of_ble_eq_true rfl) (aftV (b' := b) ⟨Nat.le_refl _, Nat.le_refl _⟩ (fun N h => h) h)

theorem vM_library_38 {M : Mm} {b : Nat × Nat} {K : Int32 → Mm → Prop} {v0 : Nat} {v1 : Int32}  
    (h : X mM_library 20 [(0, .ref v0), (1, .int (v1 + 1))] [] M b (QI K)) : X mM_library 38 [(0, .ref v0), (1, .int v1)] [] M b (QI K) := by
  refine x_wf (fun hw => ?_)
  refine x_iinc (pc := 38) dM_library_38 (q := 1) rfl (v := v1 + 1) rfl (by decide) (L' := [(1, .int (v1 + 1)), (0, .ref v0)]) rfl ?_
  refine x_goto (pc := 41) dM_library_41 (t := 20) rfl ?_
  exact x_loc [1, 0] rfl h

theorem vM_library_48 {M : Mm} {b : Nat × Nat} {K : Int32 → Mm → Prop} {v0 : Nat} {v1 : Int32} (kv0 : v0 % 64 = 11) 
    (h : ((gi (si M v0 11 0) v0 16) ≤ 0 → (CV mM_keepLibrary [.ref v0] (si M v0 11 0) (fun N => X mM_library 72 [(1, .int v1)] [] N b (QI K)))) ∧ (¬ (gi (si M v0 11 0) v0 16) ≤ 0 → (K ((-10) - (gi (si M v0 11 0) v0 17)) (si M v0 11 0)))) : X mM_library 48 [(0, .ref v0), (1, .int v1)] [] M b (QI K) := by
  refine x_wf (fun hw => ?_)
  refine x_aload_n (pc := 48) dM_library_48 rfl (q := 0) rfl ?_
  refine x_iconst (pc := 49) dM_library_49 (v := 0) rfl ?_
  refine x_putI (pc := 50) dM_library_50 kv0 flM_121 rfl rfl ?_
  refine x_aload_n (pc := 53) dM_library_53 rfl (q := 0) rfl ?_
  refine x_getI (pc := 54) dM_library_54 kv0 flM_130 rfl ?_
  obtain ⟨g1_0, g1_1⟩ := h
  refine x_if_le (pc := 57) dM_library_57 (t := 68) rfl (fun q1 => ?_) (fun q1 => ?_)
  · refine x_aload_n (pc := 68) dM_library_68 rfl (q := 0) rfl ?_
    have h := g1_0 q1
    exact x_invV (pc := 69) dM_library_69 (c := 11) (S := []) (As := []) mlM_100 hM_keepLibrary rfl (by decide) rfl kv0 ⟨by decide, by decide⟩ ⟨Nat.zero_le _, Nat.zero_le _⟩ rfl (Nat.le_of_ble_eq_true rfl) (aftV (b' := b) ⟨Nat.le_refl _, Nat.le_refl _⟩ (fun N h => x_loc [1] rfl h) h)
  · refine x_bipush (pc := 60) dM_library_60 (v := (-10)) rfl ?_
    refine x_aload_n (pc := 62) dM_library_62 rfl (q := 0) rfl ?_
    refine x_getI (pc := 63) dM_library_63 kv0 flM_136 rfl ?_
    refine x_isub (pc := 66) dM_library_66 ?_
    have h := g1_1 q1
    exact x_retQI (pc := 67) dM_library_67 rfl rfl h

theorem vM_library_72 {M : Mm} {b : Nat × Nat} {K : Int32 → Mm → Prop} {v1 : Int32}  
    (h : K v1 M) : X mM_library 72 [(1, .int v1)] [] M b (QI K) := by
  refine x_wf (fun hw => ?_)
  refine x_iload_n (pc := 72) dM_library_72 rfl (q := 0) rfl ?_
  exact x_retQI (pc := 73) dM_library_73 rfl rfl h

theorem dM_next_0 : decode (mB mM_next) 0 = .ok (.aload_n 0, 1) := op42 (by decide +kernel)
theorem dM_next_1 : decode (mB mM_next) 1 = .ok (.getfield 130, 3) := op180 0 130 (by decide +kernel)
theorem dM_next_4 : decode (mB mM_next) 4 = .ok (.ifCond .le 4, 3) := op158 0 4 (by decide +kernel)
theorem dM_next_7 : decode (mB mM_next) 7 = .ok (.return_, 1) := op177 (by decide +kernel)
theorem dM_next_8 : decode (mB mM_next) 8 = .ok (.aload_n 0, 1) := op42 (by decide +kernel)
theorem dM_next_9 : decode (mB mM_next) 9 = .ok (.aload_n 0, 1) := op42 (by decide +kernel)
theorem dM_next_10 : decode (mB mM_next) 10 = .ok (.getfield 139, 3) := op180 0 139 (by decide +kernel)
theorem dM_next_13 : decode (mB mM_next) 13 = .ok (.invokevirtual 142, 3) := op182 0 142 (by decide +kernel)
theorem dM_next_16 : decode (mB mM_next) 16 = .ok (.bipush 32, 2) := op16 32 (by decide +kernel)
theorem dM_next_18 : decode (mB mM_next) 18 = .ok (.if_icmp .ne 16, 3) := op160 0 16 (by decide +kernel)
theorem dM_next_21 : decode (mB mM_next) 21 = .ok (.aload_n 0, 1) := op42 (by decide +kernel)
theorem dM_next_22 : decode (mB mM_next) 22 = .ok (.dup, 1) := op89 (by decide +kernel)
theorem dM_next_23 : decode (mB mM_next) 23 = .ok (.getfield 139, 3) := op180 0 139 (by decide +kernel)
theorem dM_next_26 : decode (mB mM_next) 26 = .ok (.iconst 1, 1) := op4 (by decide +kernel)
theorem dM_next_27 : decode (mB mM_next) 27 = .ok (.iadd, 1) := op96 (by decide +kernel)
theorem dM_next_28 : decode (mB mM_next) 28 = .ok (.putfield 139, 3) := op181 0 139 (by decide +kernel)
theorem dM_next_31 : decode (mB mM_next) 31 = .ok (.goto (-23), 3) := op167 255 233 (by decide +kernel)
theorem dM_next_34 : decode (mB mM_next) 34 = .ok (.aload_n 0, 1) := op42 (by decide +kernel)
theorem dM_next_35 : decode (mB mM_next) 35 = .ok (.aload_n 0, 1) := op42 (by decide +kernel)
theorem dM_next_36 : decode (mB mM_next) 36 = .ok (.getfield 139, 3) := op180 0 139 (by decide +kernel)
theorem dM_next_39 : decode (mB mM_next) 39 = .ok (.putfield 133, 3) := op181 0 133 (by decide +kernel)
theorem dM_next_42 : decode (mB mM_next) 42 = .ok (.aload_n 0, 1) := op42 (by decide +kernel)
theorem dM_next_43 : decode (mB mM_next) 43 = .ok (.aload_n 0, 1) := op42 (by decide +kernel)
theorem dM_next_44 : decode (mB mM_next) 44 = .ok (.getfield 139, 3) := op180 0 139 (by decide +kernel)
theorem dM_next_47 : decode (mB mM_next) 47 = .ok (.invokevirtual 142, 3) := op182 0 142 (by decide +kernel)
theorem dM_next_50 : decode (mB mM_next) 50 = .ok (.istore_n 1, 1) := op60 (by decide +kernel)
theorem dM_next_51 : decode (mB mM_next) 51 = .ok (.iload_n 1, 1) := op27 (by decide +kernel)
theorem dM_next_52 : decode (mB mM_next) 52 = .ok (.ifCond .ge 11, 3) := op156 0 11 (by decide +kernel)
theorem dM_next_55 : decode (mB mM_next) 55 = .ok (.aload_n 0, 1) := op42 (by decide +kernel)
theorem dM_next_56 : decode (mB mM_next) 56 = .ok (.iconst 0, 1) := op3 (by decide +kernel)
theorem dM_next_57 : decode (mB mM_next) 57 = .ok (.putfield 158, 3) := op181 0 158 (by decide +kernel)
theorem dM_next_60 : decode (mB mM_next) 60 = .ok (.goto 230, 3) := op167 0 230 (by decide +kernel)
theorem dM_next_63 : decode (mB mM_next) 63 = .ok (.iload_n 1, 1) := op27 (by decide +kernel)
theorem dM_next_64 : decode (mB mM_next) 64 = .ok (.i2l, 1) := op133 (by decide +kernel)
theorem dM_next_65 : decode (mB mM_next) 65 = .ok (.ldc2_w 161, 3) := op20 0 161 (by decide +kernel)
theorem dM_next_68 : decode (mB mM_next) 68 = .ok (.ldc2_w 163, 3) := op20 0 163 (by decide +kernel)
theorem dM_next_71 : decode (mB mM_next) 71 = .ok (.invokestatic 126, 3) := op184 0 126 (by decide +kernel)
theorem dM_next_74 : decode (mB mM_next) 74 = .ok (.ifCond .eq 42, 3) := op153 0 42 (by decide +kernel)
theorem dM_next_77 : decode (mB mM_next) 77 = .ok (.aload_n 0, 1) := op42 (by decide +kernel)
theorem dM_next_78 : decode (mB mM_next) 78 = .ok (.iconst 1, 1) := op4 (by decide +kernel)
theorem dM_next_79 : decode (mB mM_next) 79 = .ok (.putfield 158, 3) := op181 0 158 (by decide +kernel)
theorem dM_next_82 : decode (mB mM_next) 82 = .ok (.aload_n 0, 1) := op42 (by decide +kernel)
theorem dM_next_83 : decode (mB mM_next) 83 = .ok (.aload_n 0, 1) := op42 (by decide +kernel)
theorem dM_next_84 : decode (mB mM_next) 84 = .ok (.getfield 139, 3) := op180 0 139 (by decide +kernel)
theorem dM_next_87 : decode (mB mM_next) 87 = .ok (.invokevirtual 142, 3) := op182 0 142 (by decide +kernel)
theorem dM_next_90 : decode (mB mM_next) 90 = .ok (.i2l, 1) := op133 (by decide +kernel)
theorem dM_next_91 : decode (mB mM_next) 91 = .ok (.ldc2_w 161, 3) := op20 0 161 (by decide +kernel)
theorem dM_next_94 : decode (mB mM_next) 94 = .ok (.ldc2_w 163, 3) := op20 0 163 (by decide +kernel)
theorem dM_next_97 : decode (mB mM_next) 97 = .ok (.invokestatic 126, 3) := op184 0 126 (by decide +kernel)
theorem dM_next_100 : decode (mB mM_next) 100 = .ok (.ifCond .eq 190, 3) := op153 0 190 (by decide +kernel)
theorem dM_next_103 : decode (mB mM_next) 103 = .ok (.aload_n 0, 1) := op42 (by decide +kernel)
theorem dM_next_104 : decode (mB mM_next) 104 = .ok (.dup, 1) := op89 (by decide +kernel)
theorem dM_next_105 : decode (mB mM_next) 105 = .ok (.getfield 139, 3) := op180 0 139 (by decide +kernel)
theorem dM_next_108 : decode (mB mM_next) 108 = .ok (.iconst 1, 1) := op4 (by decide +kernel)
theorem dM_next_109 : decode (mB mM_next) 109 = .ok (.iadd, 1) := op96 (by decide +kernel)
theorem dM_next_110 : decode (mB mM_next) 110 = .ok (.putfield 139, 3) := op181 0 139 (by decide +kernel)
theorem dM_next_113 : decode (mB mM_next) 113 = .ok (.goto (-31), 3) := op167 255 225 (by decide +kernel)
theorem dM_next_116 : decode (mB mM_next) 116 = .ok (.iload_n 1, 1) := op27 (by decide +kernel)
theorem dM_next_117 : decode (mB mM_next) 117 = .ok (.i2l, 1) := op133 (by decide +kernel)
theorem dM_next_118 : decode (mB mM_next) 118 = .ok (.ldc2_w 165, 3) := op20 0 165 (by decide +kernel)
theorem dM_next_121 : decode (mB mM_next) 121 = .ok (.ldc2_w 167, 3) := op20 0 167 (by decide +kernel)
theorem dM_next_124 : decode (mB mM_next) 124 = .ok (.invokestatic 126, 3) := op184 0 126 (by decide +kernel)
theorem dM_next_127 : decode (mB mM_next) 127 = .ok (.ifCond .eq 116, 3) := op153 0 116 (by decide +kernel)
theorem dM_next_130 : decode (mB mM_next) 130 = .ok (.aload_n 0, 1) := op42 (by decide +kernel)
theorem dM_next_131 : decode (mB mM_next) 131 = .ok (.iconst 2, 1) := op5 (by decide +kernel)
theorem dM_next_132 : decode (mB mM_next) 132 = .ok (.putfield 158, 3) := op181 0 158 (by decide +kernel)
theorem dM_next_135 : decode (mB mM_next) 135 = .ok (.aload_n 0, 1) := op42 (by decide +kernel)
theorem dM_next_136 : decode (mB mM_next) 136 = .ok (.iconst 0, 1) := op3 (by decide +kernel)
theorem dM_next_137 : decode (mB mM_next) 137 = .ok (.putfield 169, 3) := op181 0 169 (by decide +kernel)
theorem dM_next_140 : decode (mB mM_next) 140 = .ok (.aload_n 0, 1) := op42 (by decide +kernel)
theorem dM_next_141 : decode (mB mM_next) 141 = .ok (.aload_n 0, 1) := op42 (by decide +kernel)
theorem dM_next_142 : decode (mB mM_next) 142 = .ok (.getfield 139, 3) := op180 0 139 (by decide +kernel)
theorem dM_next_145 : decode (mB mM_next) 145 = .ok (.invokevirtual 142, 3) := op182 0 142 (by decide +kernel)
theorem dM_next_148 : decode (mB mM_next) 148 = .ok (.i2l, 1) := op133 (by decide +kernel)
theorem dM_next_149 : decode (mB mM_next) 149 = .ok (.ldc2_w 165, 3) := op20 0 165 (by decide +kernel)
theorem dM_next_152 : decode (mB mM_next) 152 = .ok (.ldc2_w 167, 3) := op20 0 167 (by decide +kernel)
theorem dM_next_155 : decode (mB mM_next) 155 = .ok (.invokestatic 126, 3) := op184 0 126 (by decide +kernel)
theorem dM_next_158 : decode (mB mM_next) 158 = .ok (.ifCond .eq 59, 3) := op153 0 59 (by decide +kernel)
theorem dM_next_161 : decode (mB mM_next) 161 = .ok (.aload_n 0, 1) := op42 (by decide +kernel)
theorem dM_next_162 : decode (mB mM_next) 162 = .ok (.aload_n 0, 1) := op42 (by decide +kernel)
theorem dM_next_163 : decode (mB mM_next) 163 = .ok (.getfield 139, 3) := op180 0 139 (by decide +kernel)
theorem dM_next_166 : decode (mB mM_next) 166 = .ok (.aload_n 0, 1) := op42 (by decide +kernel)
theorem dM_next_167 : decode (mB mM_next) 167 = .ok (.getfield 133, 3) := op180 0 133 (by decide +kernel)
theorem dM_next_170 : decode (mB mM_next) 170 = .ok (.isub, 1) := op100 (by decide +kernel)
theorem dM_next_171 : decode (mB mM_next) 171 = .ok (.iconst 3, 1) := op6 (by decide +kernel)
theorem dM_next_172 : decode (mB mM_next) 172 = .ok (.if_icmp .ge 25, 3) := op162 0 25 (by decide +kernel)
theorem dM_next_175 : decode (mB mM_next) 175 = .ok (.bipush 10, 2) := op16 10 (by decide +kernel)
theorem dM_next_177 : decode (mB mM_next) 177 = .ok (.aload_n 0, 1) := op42 (by decide +kernel)
theorem dM_next_178 : decode (mB mM_next) 178 = .ok (.getfield 169, 3) := op180 0 169 (by decide +kernel)
theorem dM_next_181 : decode (mB mM_next) 181 = .ok (.imul, 1) := op104 (by decide +kernel)
theorem dM_next_182 : decode (mB mM_next) 182 = .ok (.aload_n 0, 1) := op42 (by decide +kernel)
theorem dM_next_183 : decode (mB mM_next) 183 = .ok (.aload_n 0, 1) := op42 (by decide +kernel)
theorem dM_next_184 : decode (mB mM_next) 184 = .ok (.getfield 139, 3) := op180 0 139 (by decide +kernel)
theorem dM_next_187 : decode (mB mM_next) 187 = .ok (.invokevirtual 142, 3) := op182 0 142 (by decide +kernel)
theorem dM_next_190 : decode (mB mM_next) 190 = .ok (.iadd, 1) := op96 (by decide +kernel)
theorem dM_next_191 : decode (mB mM_next) 191 = .ok (.bipush 48, 2) := op16 48 (by decide +kernel)
theorem dM_next_193 : decode (mB mM_next) 193 = .ok (.isub, 1) := op100 (by decide +kernel)
theorem dM_next_194 : decode (mB mM_next) 194 = .ok (.goto 7, 3) := op167 0 7 (by decide +kernel)
theorem dM_next_197 : decode (mB mM_next) 197 = .ok (.aload_n 0, 1) := op42 (by decide +kernel)
theorem dM_next_198 : decode (mB mM_next) 198 = .ok (.getfield 169, 3) := op180 0 169 (by decide +kernel)
theorem dM_next_201 : decode (mB mM_next) 201 = .ok (.putfield 169, 3) := op181 0 169 (by decide +kernel)
theorem dM_next_204 : decode (mB mM_next) 204 = .ok (.aload_n 0, 1) := op42 (by decide +kernel)
theorem dM_next_205 : decode (mB mM_next) 205 = .ok (.dup, 1) := op89 (by decide +kernel)
theorem dM_next_206 : decode (mB mM_next) 206 = .ok (.getfield 139, 3) := op180 0 139 (by decide +kernel)
theorem dM_next_209 : decode (mB mM_next) 209 = .ok (.iconst 1, 1) := op4 (by decide +kernel)
theorem dM_next_210 : decode (mB mM_next) 210 = .ok (.iadd, 1) := op96 (by decide +kernel)
theorem dM_next_211 : decode (mB mM_next) 211 = .ok (.putfield 139, 3) := op181 0 139 (by decide +kernel)
theorem dM_next_214 : decode (mB mM_next) 214 = .ok (.goto (-74), 3) := op167 255 182 (by decide +kernel)
theorem dM_next_217 : decode (mB mM_next) 217 = .ok (.aload_n 0, 1) := op42 (by decide +kernel)
theorem dM_next_218 : decode (mB mM_next) 218 = .ok (.aload_n 0, 1) := op42 (by decide +kernel)
theorem dM_next_219 : decode (mB mM_next) 219 = .ok (.getfield 139, 3) := op180 0 139 (by decide +kernel)
theorem dM_next_222 : decode (mB mM_next) 222 = .ok (.aload_n 0, 1) := op42 (by decide +kernel)
theorem dM_next_223 : decode (mB mM_next) 223 = .ok (.getfield 133, 3) := op180 0 133 (by decide +kernel)
theorem dM_next_226 : decode (mB mM_next) 226 = .ok (.isub, 1) := op100 (by decide +kernel)
theorem dM_next_227 : decode (mB mM_next) 227 = .ok (.iconst 3, 1) := op6 (by decide +kernel)
theorem dM_next_228 : decode (mB mM_next) 228 = .ok (.if_icmp .gt 7, 3) := op163 0 7 (by decide +kernel)
theorem dM_next_231 : decode (mB mM_next) 231 = .ok (.iconst 1, 1) := op4 (by decide +kernel)
theorem dM_next_232 : decode (mB mM_next) 232 = .ok (.goto 4, 3) := op167 0 4 (by decide +kernel)
theorem dM_next_235 : decode (mB mM_next) 235 = .ok (.iconst 0, 1) := op3 (by decide +kernel)
theorem dM_next_236 : decode (mB mM_next) 236 = .ok (.iconst 1, 1) := op4 (by decide +kernel)
theorem dM_next_237 : decode (mB mM_next) 237 = .ok (.invokevirtual 172, 3) := op182 0 172 (by decide +kernel)
theorem dM_next_240 : decode (mB mM_next) 240 = .ok (.goto 50, 3) := op167 0 50 (by decide +kernel)
theorem dM_next_243 : decode (mB mM_next) 243 = .ok (.aload_n 0, 1) := op42 (by decide +kernel)
theorem dM_next_244 : decode (mB mM_next) 244 = .ok (.iload_n 1, 1) := op27 (by decide +kernel)
theorem dM_next_245 : decode (mB mM_next) 245 = .ok (.bipush 45, 2) := op16 45 (by decide +kernel)
theorem dM_next_247 : decode (mB mM_next) 247 = .ok (.if_icmp .ne 7, 3) := op160 0 7 (by decide +kernel)
theorem dM_next_250 : decode (mB mM_next) 250 = .ok (.iconst 3, 1) := op6 (by decide +kernel)
theorem dM_next_251 : decode (mB mM_next) 251 = .ok (.goto 4, 3) := op167 0 4 (by decide +kernel)
theorem dM_next_254 : decode (mB mM_next) 254 = .ok (.iconst 4, 1) := op7 (by decide +kernel)
theorem dM_next_255 : decode (mB mM_next) 255 = .ok (.putfield 158, 3) := op181 0 158 (by decide +kernel)
theorem dM_next_258 : decode (mB mM_next) 258 = .ok (.aload_n 0, 1) := op42 (by decide +kernel)
theorem dM_next_259 : decode (mB mM_next) 259 = .ok (.iload_n 1, 1) := op27 (by decide +kernel)
theorem dM_next_260 : decode (mB mM_next) 260 = .ok (.bipush 45, 2) := op16 45 (by decide +kernel)
theorem dM_next_262 : decode (mB mM_next) 262 = .ok (.if_icmp .eq 9, 3) := op159 0 9 (by decide +kernel)
theorem dM_next_265 : decode (mB mM_next) 265 = .ok (.iload_n 1, 1) := op27 (by decide +kernel)
theorem dM_next_266 : decode (mB mM_next) 266 = .ok (.bipush 59, 2) := op16 59 (by decide +kernel)
theorem dM_next_268 : decode (mB mM_next) 268 = .ok (.if_icmp .ne 7, 3) := op160 0 7 (by decide +kernel)
theorem dM_next_271 : decode (mB mM_next) 271 = .ok (.iconst 1, 1) := op4 (by decide +kernel)
theorem dM_next_272 : decode (mB mM_next) 272 = .ok (.goto 4, 3) := op167 0 4 (by decide +kernel)
theorem dM_next_275 : decode (mB mM_next) 275 = .ok (.iconst 0, 1) := op3 (by decide +kernel)
theorem dM_next_276 : decode (mB mM_next) 276 = .ok (.iconst 1, 1) := op4 (by decide +kernel)
theorem dM_next_277 : decode (mB mM_next) 277 = .ok (.invokevirtual 172, 3) := op182 0 172 (by decide +kernel)
theorem dM_next_280 : decode (mB mM_next) 280 = .ok (.aload_n 0, 1) := op42 (by decide +kernel)
theorem dM_next_281 : decode (mB mM_next) 281 = .ok (.dup, 1) := op89 (by decide +kernel)
theorem dM_next_282 : decode (mB mM_next) 282 = .ok (.getfield 139, 3) := op180 0 139 (by decide +kernel)
theorem dM_next_285 : decode (mB mM_next) 285 = .ok (.iconst 1, 1) := op4 (by decide +kernel)
theorem dM_next_286 : decode (mB mM_next) 286 = .ok (.iadd, 1) := op96 (by decide +kernel)
theorem dM_next_287 : decode (mB mM_next) 287 = .ok (.putfield 139, 3) := op181 0 139 (by decide +kernel)
theorem dM_next_290 : decode (mB mM_next) 290 = .ok (.return_, 1) := op177 (by decide +kernel)

theorem vM_next_0 {M : Mm} {b : Nat × Nat} {K : Mm → Prop} {v0 : Nat} (kv0 : v0 % 64 = 11) 
    (h : ((gi M v0 16) ≤ 0 → (X mM_next 8 [(0, .ref v0)] [] M b (QV K))) ∧ (¬ (gi M v0 16) ≤ 0 → (K M))) : X mM_next 0 [(0, .ref v0)] [] M b (QV K) := by
  refine x_wf (fun hw => ?_)
  refine x_aload_n (pc := 0) dM_next_0 rfl (q := 0) rfl ?_
  refine x_getI (pc := 1) dM_next_1 kv0 flM_130 rfl ?_
  obtain ⟨g1_0, g1_1⟩ := h
  refine x_if_le (pc := 4) dM_next_4 (t := 8) rfl (fun q1 => ?_) (fun q1 => ?_)
  · have h := g1_0 q1
    exact h
  · have h := g1_1 q1
    exact x_retQV (pc := 7) dM_next_7 rfl h

theorem vM_next_8 {M : Mm} {b : Nat × Nat} {K : Mm → Prop} {v0 : Nat} (kv0 : v0 % 64 = 11) 
    (h : CI mM_look [.ref v0, .int (gi M v0 12)] M (fun rv N => X mM_next 16 [(0, .ref v0)] [.int rv] N b (QV K))) : X mM_next 8 [(0, .ref v0)] [] M b (QV K) := by
  refine x_wf (fun hw => ?_)
  refine x_aload_n (pc := 8) dM_next_8 rfl (q := 0) rfl ?_
  refine x_aload_n (pc := 9) dM_next_9 rfl (q := 0) rfl ?_
  refine x_getI (pc := 10) dM_next_10 kv0 flM_139 rfl ?_
  exact x_invV (pc := 13) dM_next_13 (c := 11) (S := []) (As := [.int (gi M v0 12)]) mlM_142 hM_look rfl (by decide) rfl kv0 ⟨by decide, by decide⟩ ⟨Nat.zero_le _, Nat.zero_le _⟩ rfl (Nat.le_of_ble_eq_true rfl) (aftI (b' := b) ⟨Nat.le_refl _, Nat.le_refl _⟩ (fun rv N h => h) h)

theorem vM_next_16 {M : Mm} {b : Nat × Nat} {K : Mm → Prop} {v0 : Nat} {w0 : Int32} (kv0 : v0 % 64 = 11) 
    (h : (¬ w0 = 32 → (CI mM_look [.ref v0, .int (gi (si M v0 13 (gi M v0 12)) v0 12)] (si M v0 13 (gi M v0 12)) (fun rv N => X mM_next 50 [(0, .ref v0)] [.int rv] N b (QV K)))) ∧ (w0 = 32 → (X mM_next 8 [(0, .ref v0)] [] (si M v0 12 ((gi M v0 12) + 1)) b (QV K)))) : X mM_next 16 [(0, .ref v0)] [.int w0] M b (QV K) := by
  refine x_wf (fun hw => ?_)
  refine x_bipush (pc := 16) dM_next_16 (v := 32) rfl ?_
  obtain ⟨g1_0, g1_1⟩ := h
  refine x_icmp_ne (pc := 18) dM_next_18 (t := 34) rfl (fun q1 => ?_) (fun q1 => ?_)
  · refine x_aload_n (pc := 34) dM_next_34 rfl (q := 0) rfl ?_
    refine x_aload_n (pc := 35) dM_next_35 rfl (q := 0) rfl ?_
    refine x_getI (pc := 36) dM_next_36 kv0 flM_139 rfl ?_
    have h := g1_0 q1
    refine x_putI (pc := 39) dM_next_39 kv0 flM_133 rfl rfl ?_
    refine x_aload_n (pc := 42) dM_next_42 rfl (q := 0) rfl ?_
    refine x_aload_n (pc := 43) dM_next_43 rfl (q := 0) rfl ?_
    refine x_getI (pc := 44) dM_next_44 kv0 flM_139 rfl ?_
    exact x_invV (pc := 47) dM_next_47 (c := 11) (S := []) (As := [.int (gi (si M v0 13 (gi M v0 12)) v0 12)]) mlM_142 hM_look rfl (by decide) rfl kv0 ⟨by decide, by decide⟩ ⟨Nat.zero_le _, Nat.zero_le _⟩ rfl (Nat.le_of_ble_eq_true rfl) (aftI (b' := b) ⟨Nat.le_refl _, Nat.le_refl _⟩ (fun rv N h => h) h)
  · refine x_aload_n (pc := 21) dM_next_21 rfl (q := 0) rfl ?_
    refine x_dup (pc := 22) dM_next_22 rfl ?_
    refine x_getI (pc := 23) dM_next_23 kv0 flM_139 rfl ?_
    refine x_iconst (pc := 26) dM_next_26 (v := 1) rfl ?_
    refine x_iadd (pc := 27) dM_next_27 ?_
    have h := g1_1 q1
    refine x_putI (pc := 28) dM_next_28 kv0 flM_139 rfl rfl ?_
    refine x_goto (pc := 31) dM_next_31 (t := 8) rfl ?_
    exact h

theorem vM_next_50 {M : Mm} {b : Nat × Nat} {K : Mm → Prop} {v0 : Nat} {w0 : Int32} (kv0 : v0 % 64 = 11) 
    (h : (0 ≤ w0 → (CI mM_in [.long ((w0).toInt64), .long 97, .long 122] M (fun rv N => X mM_next 74 [(0, .ref v0), (1, .int w0)] [.int rv] N b (QV K)))) ∧ (¬ 0 ≤ w0 → (K (si M v0 14 0)))) : X mM_next 50 [(0, .ref v0)] [.int w0] M b (QV K) := by
  refine x_wf (fun hw => ?_)
  refine x_istore_n (pc := 50) dM_next_50 rfl (by decide) (L' := [(1, .int w0), (0, .ref v0)]) rfl ?_
  refine x_iload_n (pc := 51) dM_next_51 rfl (q := 0) rfl ?_
  obtain ⟨g1_0, g1_1⟩ := h
  refine x_if_ge (pc := 52) dM_next_52 (t := 63) rfl (fun q1 => ?_) (fun q1 => ?_)
  · refine x_iload_n (pc := 63) dM_next_63 rfl (q := 0) rfl ?_
    refine x_i2l (pc := 64) dM_next_64 ?_
    refine x_ldc2 (pc := 65) dM_next_65 klM_161 ?_
    refine x_ldc2 (pc := 68) dM_next_68 klM_163 ?_
    have h := g1_0 q1
    exact x_invS (pc := 71) dM_next_71 (S := []) (As := [.long ((w0).toInt64), .long 97, .long 122]) mlM_126 hM_in rfl ⟨by decide, by decide⟩ ⟨Nat.zero_le _, Nat.zero_le _⟩ rfl (Nat.le_of_ble_eq_true rfl) (aftI (b' := b) ⟨Nat.le_refl _, Nat.le_refl _⟩ (fun rv N h => x_loc [1, 0] rfl h) h)
  · refine x_aload_n (pc := 55) dM_next_55 rfl (q := 1) rfl ?_
    refine x_iconst (pc := 56) dM_next_56 (v := 0) rfl ?_
    have h := g1_1 q1
    refine x_putI (pc := 57) dM_next_57 kv0 flM_158 rfl rfl ?_
    refine x_goto (pc := 60) dM_next_60 (t := 290) rfl ?_
    exact x_retQV (pc := 290) dM_next_290 rfl h

theorem vM_next_74 {M : Mm} {b : Nat × Nat} {K : Mm → Prop} {v0 : Nat} {v1 : Int32} {w0 : Int32} (kv0 : v0 % 64 = 11) 
    (h : (w0 = 0 → (CI mM_in [.long ((v1).toInt64), .long 48, .long 57] M (fun rv N => X mM_next 127 [(0, .ref v0), (1, .int v1)] [.int rv] N b (QV K)))) ∧ (¬ w0 = 0 → (X mM_next 82 [(0, .ref v0)] [] (si M v0 14 1) b (QV K)))) : X mM_next 74 [(0, .ref v0), (1, .int v1)] [.int w0] M b (QV K) := by
  refine x_wf (fun hw => ?_)
  obtain ⟨g1_0, g1_1⟩ := h
  refine x_if_eq (pc := 74) dM_next_74 (t := 116) rfl (fun q1 => ?_) (fun q1 => ?_)
  · refine x_iload_n (pc := 116) dM_next_116 rfl (q := 1) rfl ?_
    refine x_i2l (pc := 117) dM_next_117 ?_
    refine x_ldc2 (pc := 118) dM_next_118 klM_165 ?_
    refine x_ldc2 (pc := 121) dM_next_121 klM_167 ?_
    have h := g1_0 q1
    exact x_invS (pc := 124) dM_next_124 (S := []) (As := [.long ((v1).toInt64), .long 48, .long 57]) mlM_126 hM_in rfl ⟨by decide, by decide⟩ ⟨Nat.zero_le _, Nat.zero_le _⟩ rfl (Nat.le_of_ble_eq_true rfl) (aftI (b' := b) ⟨Nat.le_refl _, Nat.le_refl _⟩ (fun rv N h => h) h)
  · refine x_aload_n (pc := 77) dM_next_77 rfl (q := 0) rfl ?_
    refine x_iconst (pc := 78) dM_next_78 (v := 1) rfl ?_
    have h := g1_1 q1
    refine x_putI (pc := 79) dM_next_79 kv0 flM_158 rfl rfl ?_
    exact x_loc [0] rfl h

theorem vM_next_82 {M : Mm} {b : Nat × Nat} {K : Mm → Prop} {v0 : Nat} (kv0 : v0 % 64 = 11) 
    (h : CI mM_look [.ref v0, .int (gi M v0 12)] M (fun rv N => X mM_next 90 [(0, .ref v0)] [.int rv] N b (QV K))) : X mM_next 82 [(0, .ref v0)] [] M b (QV K) := by
  refine x_wf (fun hw => ?_)
  refine x_aload_n (pc := 82) dM_next_82 rfl (q := 0) rfl ?_
  refine x_aload_n (pc := 83) dM_next_83 rfl (q := 0) rfl ?_
  refine x_getI (pc := 84) dM_next_84 kv0 flM_139 rfl ?_
  exact x_invV (pc := 87) dM_next_87 (c := 11) (S := []) (As := [.int (gi M v0 12)]) mlM_142 hM_look rfl (by decide) rfl kv0 ⟨by decide, by decide⟩ ⟨Nat.zero_le _, Nat.zero_le _⟩ rfl (Nat.le_of_ble_eq_true rfl) (aftI (b' := b) ⟨Nat.le_refl _, Nat.le_refl _⟩ (fun rv N h => h) h)

theorem vM_next_90 {M : Mm} {b : Nat × Nat} {K : Mm → Prop} {v0 : Nat} {w0 : Int32}  
    (h : CI mM_in [.long ((w0).toInt64), .long 97, .long 122] M (fun rv N => X mM_next 100 [(0, .ref v0)] [.int rv] N b (QV K))) : X mM_next 90 [(0, .ref v0)] [.int w0] M b (QV K) := by
  refine x_wf (fun hw => ?_)
  refine x_i2l (pc := 90) dM_next_90 ?_
  refine x_ldc2 (pc := 91) dM_next_91 klM_161 ?_
  refine x_ldc2 (pc := 94) dM_next_94 klM_163 ?_
  exact x_invS (pc := 97) dM_next_97 (S := []) (As := [.long ((w0).toInt64), .long 97, .long 122]) mlM_126 hM_in rfl ⟨by decide, by decide⟩ ⟨Nat.zero_le _, Nat.zero_le _⟩ rfl (Nat.le_of_ble_eq_true rfl) (aftI (b' := b) ⟨Nat.le_refl _, Nat.le_refl _⟩ (fun rv N h => h) h)

theorem vM_next_100 {M : Mm} {b : Nat × Nat} {K : Mm → Prop} {v0 : Nat} {w0 : Int32} (kv0 : v0 % 64 = 11) 
    (h : (w0 = 0 → (K M)) ∧ (¬ w0 = 0 → (X mM_next 82 [(0, .ref v0)] [] (si M v0 12 ((gi M v0 12) + 1)) b (QV K)))) : X mM_next 100 [(0, .ref v0)] [.int w0] M b (QV K) := by
  refine x_wf (fun hw => ?_)
  obtain ⟨g1_0, g1_1⟩ := h
  refine x_if_eq (pc := 100) dM_next_100 (t := 290) rfl (fun q1 => ?_) (fun q1 => ?_)
  · have h := g1_0 q1
    exact x_retQV (pc := 290) dM_next_290 rfl h
  · refine x_aload_n (pc := 103) dM_next_103 rfl (q := 0) rfl ?_
    refine x_dup (pc := 104) dM_next_104 rfl ?_
    refine x_getI (pc := 105) dM_next_105 kv0 flM_139 rfl ?_
    refine x_iconst (pc := 108) dM_next_108 (v := 1) rfl ?_
    refine x_iadd (pc := 109) dM_next_109 ?_
    have h := g1_1 q1
    refine x_putI (pc := 110) dM_next_110 kv0 flM_139 rfl rfl ?_
    refine x_goto (pc := 113) dM_next_113 (t := 82) rfl ?_
    exact h

theorem vM_next_127 {M : Mm} {b : Nat × Nat} {K : Mm → Prop} {v0 : Nat} {v1 : Int32} {w0 : Int32} (kv0 : v0 % 64 = 11) 
    (h : ((w0 = 0 ∧ ¬ v1 = 45) → (X mM_next 255 [(0, .ref v0), (1, .int v1)] [.int 4, .ref v0] M b (QV K))) ∧ ((w0 = 0 ∧ v1 = 45) → (X mM_next 255 [(0, .ref v0), (1, .int v1)] [.int 3, .ref v0] M b (QV K))) ∧ (¬ w0 = 0 → (X mM_next 140 [(0, .ref v0)] [] (si (si M v0 14 2) v0 15 0) b (QV K)))) : X mM_next 127 [(0, .ref v0), (1, .int v1)] [.int w0] M b (QV K) := by
  refine x_wf (fun hw => ?_)
  obtain ⟨g1_0, g1_1, g1_2⟩ := h
  refine x_if_eq (pc := 127) dM_next_127 (t := 243) rfl (fun q1 => ?_) (fun q1 => ?_)
  · refine x_aload_n (pc := 243) dM_next_243 rfl (q := 0) rfl ?_
    refine x_iload_n (pc := 244) dM_next_244 rfl (q := 1) rfl ?_
    refine x_bipush (pc := 245) dM_next_245 (v := 45) rfl ?_
    refine x_icmp_ne (pc := 247) dM_next_247 (t := 254) rfl (fun q2 => ?_) (fun q2 => ?_)
    · refine x_iconst (pc := 254) dM_next_254 (v := 4) rfl ?_
      have h := g1_0 ⟨q1, q2⟩
      exact h
    · refine x_iconst (pc := 250) dM_next_250 (v := 3) rfl ?_
      refine x_goto (pc := 251) dM_next_251 (t := 255) rfl ?_
      have h := g1_1 ⟨q1, q2⟩
      exact h
  · refine x_aload_n (pc := 130) dM_next_130 rfl (q := 0) rfl ?_
    refine x_iconst (pc := 131) dM_next_131 (v := 2) rfl ?_
    have h := g1_2 q1
    refine x_putI (pc := 132) dM_next_132 kv0 flM_158 rfl rfl ?_
    refine x_aload_n (pc := 135) dM_next_135 rfl (q := 0) rfl ?_
    refine x_iconst (pc := 136) dM_next_136 (v := 0) rfl ?_
    refine x_putI (pc := 137) dM_next_137 kv0 flM_169 rfl rfl ?_
    exact x_loc [0] rfl h

theorem vM_next_140 {M : Mm} {b : Nat × Nat} {K : Mm → Prop} {v0 : Nat} (kv0 : v0 % 64 = 11) 
    (h : CI mM_look [.ref v0, .int (gi M v0 12)] M (fun rv N => X mM_next 148 [(0, .ref v0)] [.int rv] N b (QV K))) : X mM_next 140 [(0, .ref v0)] [] M b (QV K) := by
  refine x_wf (fun hw => ?_)
  refine x_aload_n (pc := 140) dM_next_140 rfl (q := 0) rfl ?_
  refine x_aload_n (pc := 141) dM_next_141 rfl (q := 0) rfl ?_
  refine x_getI (pc := 142) dM_next_142 kv0 flM_139 rfl ?_
  exact x_invV (pc := 145) dM_next_145 (c := 11) (S := []) (As := [.int (gi M v0 12)]) mlM_142 hM_look rfl (by decide) rfl kv0 ⟨by decide, by decide⟩ ⟨Nat.zero_le _, Nat.zero_le _⟩ rfl (Nat.le_of_ble_eq_true rfl) (aftI (b' := b) ⟨Nat.le_refl _, Nat.le_refl _⟩ (fun rv N h => h) h)

theorem vM_next_148 {M : Mm} {b : Nat × Nat} {K : Mm → Prop} {v0 : Nat} {w0 : Int32}  
    (h : CI mM_in [.long ((w0).toInt64), .long 48, .long 57] M (fun rv N => X mM_next 158 [(0, .ref v0)] [.int rv] N b (QV K))) : X mM_next 148 [(0, .ref v0)] [.int w0] M b (QV K) := by
  refine x_wf (fun hw => ?_)
  refine x_i2l (pc := 148) dM_next_148 ?_
  refine x_ldc2 (pc := 149) dM_next_149 klM_165 ?_
  refine x_ldc2 (pc := 152) dM_next_152 klM_167 ?_
  exact x_invS (pc := 155) dM_next_155 (S := []) (As := [.long ((w0).toInt64), .long 48, .long 57]) mlM_126 hM_in rfl ⟨by decide, by decide⟩ ⟨Nat.zero_le _, Nat.zero_le _⟩ rfl (Nat.le_of_ble_eq_true rfl) (aftI (b' := b) ⟨Nat.le_refl _, Nat.le_refl _⟩ (fun rv N h => h) h)

theorem vM_next_158 {M : Mm} {b : Nat × Nat} {K : Mm → Prop} {v0 : Nat} {w0 : Int32} (kv0 : v0 % 64 = 11) 
    (h : ((w0 = 0 ∧ 3 < ((gi M v0 12) - (gi M v0 13))) → (X mM_next 236 [] [.int 0, .ref v0] M b (QV K))) ∧ ((w0 = 0 ∧ ¬ 3 < ((gi M v0 12) - (gi M v0 13))) → (X mM_next 236 [] [.int 1, .ref v0] M b (QV K))) ∧ ((¬ w0 = 0 ∧ 3 ≤ ((gi M v0 12) - (gi M v0 13))) → (X mM_next 201 [(0, .ref v0)] [.int (gi M v0 15), .ref v0] M b (QV K))) ∧ ((¬ w0 = 0 ∧ ¬ 3 ≤ ((gi M v0 12) - (gi M v0 13))) → (CI mM_look [.ref v0, .int (gi M v0 12)] M (fun rv N => X mM_next 190 [(0, .ref v0)] [.int rv, .int (10 * (gi M v0 15)), .ref v0] N b (QV K))))) : X mM_next 158 [(0, .ref v0)] [.int w0] M b (QV K) := by
  refine x_wf (fun hw => ?_)
  obtain ⟨g1_0, g1_1, g1_2, g1_3⟩ := h
  refine x_if_eq (pc := 158) dM_next_158 (t := 217) rfl (fun q1 => ?_) (fun q1 => ?_)
  · refine x_aload_n (pc := 217) dM_next_217 rfl (q := 0) rfl ?_
    refine x_aload_n (pc := 218) dM_next_218 rfl (q := 0) rfl ?_
    refine x_getI (pc := 219) dM_next_219 kv0 flM_139 rfl ?_
    refine x_aload_n (pc := 222) dM_next_222 rfl (q := 0) rfl ?_
    refine x_getI (pc := 223) dM_next_223 kv0 flM_133 rfl ?_
    refine x_isub (pc := 226) dM_next_226 ?_
    refine x_iconst (pc := 227) dM_next_227 (v := 3) rfl ?_
    refine x_icmp_gt (pc := 228) dM_next_228 (t := 235) rfl (fun q2 => ?_) (fun q2 => ?_)
    · refine x_iconst (pc := 235) dM_next_235 (v := 0) rfl ?_
      have h := g1_0 ⟨q1, q2⟩
      exact x_loc [] rfl h
    · refine x_iconst (pc := 231) dM_next_231 (v := 1) rfl ?_
      refine x_goto (pc := 232) dM_next_232 (t := 236) rfl ?_
      have h := g1_1 ⟨q1, q2⟩
      exact x_loc [] rfl h
  · refine x_aload_n (pc := 161) dM_next_161 rfl (q := 0) rfl ?_
    refine x_aload_n (pc := 162) dM_next_162 rfl (q := 0) rfl ?_
    refine x_getI (pc := 163) dM_next_163 kv0 flM_139 rfl ?_
    refine x_aload_n (pc := 166) dM_next_166 rfl (q := 0) rfl ?_
    refine x_getI (pc := 167) dM_next_167 kv0 flM_133 rfl ?_
    refine x_isub (pc := 170) dM_next_170 ?_
    refine x_iconst (pc := 171) dM_next_171 (v := 3) rfl ?_
    refine x_icmp_ge (pc := 172) dM_next_172 (t := 197) rfl (fun q3 => ?_) (fun q3 => ?_)
    · refine x_aload_n (pc := 197) dM_next_197 rfl (q := 0) rfl ?_
      refine x_getI (pc := 198) dM_next_198 kv0 flM_169 rfl ?_
      have h := g1_2 ⟨q1, q3⟩
      exact h
    · refine x_bipush (pc := 175) dM_next_175 (v := 10) rfl ?_
      refine x_aload_n (pc := 177) dM_next_177 rfl (q := 0) rfl ?_
      refine x_getI (pc := 178) dM_next_178 kv0 flM_169 rfl ?_
      refine x_imul (pc := 181) dM_next_181 ?_
      refine x_aload_n (pc := 182) dM_next_182 rfl (q := 0) rfl ?_
      refine x_aload_n (pc := 183) dM_next_183 rfl (q := 0) rfl ?_
      refine x_getI (pc := 184) dM_next_184 kv0 flM_139 rfl ?_
      have h := g1_3 ⟨q1, q3⟩
      exact x_invV (pc := 187) dM_next_187 (c := 11) (S := [.int (10 * (gi M v0 15)), .ref v0]) (As := [.int (gi M v0 12)]) mlM_142 hM_look rfl (by decide) rfl kv0 ⟨by decide, by decide⟩ ⟨Nat.zero_le _, Nat.zero_le _⟩ rfl (Nat.le_of_ble_eq_true rfl) (aftI (b' := b) ⟨Nat.le_refl _, Nat.le_refl _⟩ (fun rv N h => h) h)

theorem vM_next_190 {M : Mm} {b : Nat × Nat} {K : Mm → Prop} {v0 : Nat} {w0 : Int32} {w1 : Int32} {w2 : Nat}  
    (h : X mM_next 201 [(0, .ref v0)] [.int ((w1 + w0) - 48), .ref w2] M b (QV K)) : X mM_next 190 [(0, .ref v0)] [.int w0, .int w1, .ref w2] M b (QV K) := by
  refine x_wf (fun hw => ?_)
  refine x_iadd (pc := 190) dM_next_190 ?_
  refine x_bipush (pc := 191) dM_next_191 (v := 48) rfl ?_
  refine x_isub (pc := 193) dM_next_193 ?_
  refine x_goto (pc := 194) dM_next_194 (t := 201) rfl ?_
  exact h

theorem vM_next_201 {M : Mm} {b : Nat × Nat} {K : Mm → Prop} {v0 : Nat} {w0 : Int32} {w1 : Nat} (kw1 : w1 % 64 = 11) (kv0 : v0 % 64 = 11) 
    (h : X mM_next 140 [(0, .ref v0)] [] (si (si M w1 15 w0) v0 12 ((gi (si M w1 15 w0) v0 12) + 1)) b (QV K)) : X mM_next 201 [(0, .ref v0)] [.int w0, .ref w1] M b (QV K) := by
  refine x_wf (fun hw => ?_)
  refine x_putI (pc := 201) dM_next_201 kw1 flM_169 rfl rfl ?_
  refine x_aload_n (pc := 204) dM_next_204 rfl (q := 0) rfl ?_
  refine x_dup (pc := 205) dM_next_205 rfl ?_
  refine x_getI (pc := 206) dM_next_206 kv0 flM_139 rfl ?_
  refine x_iconst (pc := 209) dM_next_209 (v := 1) rfl ?_
  refine x_iadd (pc := 210) dM_next_210 ?_
  refine x_putI (pc := 211) dM_next_211 kv0 flM_139 rfl rfl ?_
  refine x_goto (pc := 214) dM_next_214 (t := 140) rfl ?_
  exact h

theorem vM_next_236 {M : Mm} {b : Nat × Nat} {K : Mm → Prop} {w0 : Int32} {w1 : Nat} (kw1 : w1 % 64 = 11) 
    (h : CV mM_wants [.ref w1, .int w0, .int 1] M (fun N => X mM_next 240 [] [] N b (QV K))) : X mM_next 236 [] [.int w0, .ref w1] M b (QV K) := by
  refine x_wf (fun hw => ?_)
  refine x_iconst (pc := 236) dM_next_236 (v := 1) rfl ?_
  exact x_invV (pc := 237) dM_next_237 (c := 11) (S := []) (As := [.int w0, .int 1]) mlM_172 hM_wants rfl (by decide) rfl kw1 ⟨by decide, by decide⟩ ⟨Nat.zero_le _, Nat.zero_le _⟩ rfl (Nat.le_of_ble_eq_true rfl) (aftV (b' := b) ⟨Nat.le_refl _, Nat.le_refl _⟩ (fun N h => h) h)

theorem vM_next_240 {M : Mm} {b : Nat × Nat} {K : Mm → Prop}   
    (h : K M) : X mM_next 240 [] [] M b (QV K) := by
  refine x_wf (fun hw => ?_)
  refine x_goto (pc := 240) dM_next_240 (t := 290) rfl ?_
  exact x_retQV (pc := 290) dM_next_290 rfl h

theorem vM_next_255 {M : Mm} {b : Nat × Nat} {K : Mm → Prop} {v0 : Nat} {v1 : Int32} {w0 : Int32} {w1 : Nat} (kw1 : w1 % 64 = 11) 
    (h : (((v1 = 45) ∨ (¬ v1 = 45 ∧ v1 = 59)) → (X mM_next 276 [(0, .ref v0)] [.int 1, .ref v0] (si M w1 14 w0) b (QV K))) ∧ ((¬ v1 = 45 ∧ ¬ v1 = 59) → (X mM_next 276 [(0, .ref v0)] [.int 0, .ref v0] (si M w1 14 w0) b (QV K)))) : X mM_next 255 [(0, .ref v0), (1, .int v1)] [.int w0, .ref w1] M b (QV K) := by
  refine x_wf (fun hw => ?_)
  refine x_putI (pc := 255) dM_next_255 kw1 flM_158 rfl rfl ?_
  refine x_aload_n (pc := 258) dM_next_258 rfl (q := 0) rfl ?_
  refine x_iload_n (pc := 259) dM_next_259 rfl (q := 1) rfl ?_
  refine x_bipush (pc := 260) dM_next_260 (v := 45) rfl ?_
  obtain ⟨g1_0, g1_1⟩ := h
  have g1_k0 : (v1 = 45) ∨ (¬ v1 = 45 ∧ v1 = 59) → X mM_next 271 [(0, .ref v0), (1, .int v1)] [.ref v0] (si M w1 14 w0) b (QV K) := fun q => by
    have h := g1_0 q
    refine x_iconst (pc := 271) dM_next_271 (v := 1) rfl ?_
    refine x_goto (pc := 272) dM_next_272 (t := 276) rfl ?_
    exact x_loc [0] rfl h
  refine x_icmp_eq (pc := 262) dM_next_262 (t := 271) rfl (fun q1 => ?_) (fun q1 => ?_)
  · exact g1_k0 (Or.inl q1)
  · refine x_iload_n (pc := 265) dM_next_265 rfl (q := 1) rfl ?_
    refine x_bipush (pc := 266) dM_next_266 (v := 59) rfl ?_
    refine x_icmp_ne (pc := 268) dM_next_268 (t := 275) rfl (fun q2 => ?_) (fun q2 => ?_)
    · refine x_iconst (pc := 275) dM_next_275 (v := 0) rfl ?_
      have h := g1_1 ⟨q1, q2⟩
      exact x_loc [0] rfl h
    · exact g1_k0 (Or.inr ⟨q1, q2⟩)

theorem vM_next_276 {M : Mm} {b : Nat × Nat} {K : Mm → Prop} {v0 : Nat} {w0 : Int32} {w1 : Nat} (kw1 : w1 % 64 = 11) 
    (h : CV mM_wants [.ref w1, .int w0, .int 1] M (fun N => X mM_next 280 [(0, .ref v0)] [] N b (QV K))) : X mM_next 276 [(0, .ref v0)] [.int w0, .ref w1] M b (QV K) := by
  refine x_wf (fun hw => ?_)
  refine x_iconst (pc := 276) dM_next_276 (v := 1) rfl ?_
  exact x_invV (pc := 277) dM_next_277 (c := 11) (S := []) (As := [.int w0, .int 1]) mlM_172 hM_wants rfl (by decide) rfl kw1 ⟨by decide, by decide⟩ ⟨Nat.zero_le _, Nat.zero_le _⟩ rfl (Nat.le_of_ble_eq_true rfl) (aftV (b' := b) ⟨Nat.le_refl _, Nat.le_refl _⟩ (fun N h => h) h)

theorem vM_next_280 {M : Mm} {b : Nat × Nat} {K : Mm → Prop} {v0 : Nat} (kv0 : v0 % 64 = 11) 
    (h : K (si M v0 12 ((gi M v0 12) + 1))) : X mM_next 280 [(0, .ref v0)] [] M b (QV K) := by
  refine x_wf (fun hw => ?_)
  refine x_aload_n (pc := 280) dM_next_280 rfl (q := 0) rfl ?_
  refine x_dup (pc := 281) dM_next_281 rfl ?_
  refine x_getI (pc := 282) dM_next_282 kv0 flM_139 rfl ?_
  refine x_iconst (pc := 285) dM_next_285 (v := 1) rfl ?_
  refine x_iadd (pc := 286) dM_next_286 ?_
  refine x_putI (pc := 287) dM_next_287 kv0 flM_139 rfl rfl ?_
  exact x_retQV (pc := 290) dM_next_290 rfl h

