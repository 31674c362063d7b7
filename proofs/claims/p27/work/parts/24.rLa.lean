theorem cLa_0 : (((mB mLa_law).data.toList.drop 0).take 33).map UInt8.toNat = [187, 0, 7, 89, 183, 0, 9, 76, 187, 0, 10, 89, 183, 0, 12, 77, 3, 62, 29, 42, 190, 16, 6, 100, 163, 4, 231, 42, 29, 46, 16, 63, 126] := by decide +kernel
theorem dLa_law_0 : decode (mB mLa_law) 0 = .ok (.new 7, 3) := op187 0 7 (gk_ch cLa_0 [187, 0, 7] 0 (by decide +kernel))
theorem dLa_law_3 : decode (mB mLa_law) 3 = .ok (.dup, 1) := op89 (gk_ch cLa_0 [89] 3 (by decide +kernel))
theorem dLa_law_4 : decode (mB mLa_law) 4 = .ok (.invokespecial 9, 3) := op183 0 9 (gk_ch cLa_0 [183, 0, 9] 4 (by decide +kernel))
theorem dLa_law_7 : decode (mB mLa_law) 7 = .ok (.astore_n 1, 1) := op76 (gk_ch cLa_0 [76] 7 (by decide +kernel))
theorem dLa_law_8 : decode (mB mLa_law) 8 = .ok (.new 10, 3) := op187 0 10 (gk_ch cLa_0 [187, 0, 10] 8 (by decide +kernel))
theorem dLa_law_11 : decode (mB mLa_law) 11 = .ok (.dup, 1) := op89 (gk_ch cLa_0 [89] 11 (by decide +kernel))
theorem dLa_law_12 : decode (mB mLa_law) 12 = .ok (.invokespecial 12, 3) := op183 0 12 (gk_ch cLa_0 [183, 0, 12] 12 (by decide +kernel))
theorem dLa_law_15 : decode (mB mLa_law) 15 = .ok (.astore_n 2, 1) := op77 (gk_ch cLa_0 [77] 15 (by decide +kernel))
theorem dLa_law_16 : decode (mB mLa_law) 16 = .ok (.iconst 0, 1) := op3 (gk_ch cLa_0 [3] 16 (by decide +kernel))
theorem dLa_law_17 : decode (mB mLa_law) 17 = .ok (.istore_n 3, 1) := op62 (gk_ch cLa_0 [62] 17 (by decide +kernel))
theorem dLa_law_18 : decode (mB mLa_law) 18 = .ok (.iload_n 3, 1) := op29 (gk_ch cLa_0 [29] 18 (by decide +kernel))
theorem dLa_law_19 : decode (mB mLa_law) 19 = .ok (.aload_n 0, 1) := op42 (gk_ch cLa_0 [42] 19 (by decide +kernel))
theorem dLa_law_20 : decode (mB mLa_law) 20 = .ok (.arraylength, 1) := op190 (gk_ch cLa_0 [190] 20 (by decide +kernel))
theorem dLa_law_21 : decode (mB mLa_law) 21 = .ok (.bipush 6, 2) := op16 6 (gk_ch cLa_0 [16, 6] 21 (by decide +kernel))
theorem dLa_law_23 : decode (mB mLa_law) 23 = .ok (.isub, 1) := op100 (gk_ch cLa_0 [100] 23 (by decide +kernel))
theorem dLa_law_24 : decode (mB mLa_law) 24 = .ok (.if_icmp .gt 1255, 3) := op163 4 231 (gk_ch cLa_0 [163, 4, 231] 24 (by decide +kernel))
theorem dLa_law_27 : decode (mB mLa_law) 27 = .ok (.aload_n 0, 1) := op42 (gk_ch cLa_0 [42] 27 (by decide +kernel))
theorem dLa_law_28 : decode (mB mLa_law) 28 = .ok (.iload_n 3, 1) := op29 (gk_ch cLa_0 [29] 28 (by decide +kernel))
theorem dLa_law_29 : decode (mB mLa_law) 29 = .ok (.iaload, 1) := op46 (gk_ch cLa_0 [46] 29 (by decide +kernel))
theorem dLa_law_30 : decode (mB mLa_law) 30 = .ok (.bipush 63, 2) := op16 63 (gk_ch cLa_0 [16, 63] 30 (by decide +kernel))
theorem dLa_law_32 : decode (mB mLa_law) 32 = .ok (.iand, 1) := op126 (gk_ch cLa_0 [126] 32 (by decide +kernel))
theorem dLa_law_33 : decode (mB mLa_law) 33 = .ok (.tableswitch 1240 0 34 #[155, 208, 231, 244, 257, 270, 293, 326, 359, 382, 415, 438, 471, 504, 547, 580, 613, 636, 659, 722, 745, 788, 811, 844, 887, 930, 953, 996, 1009, 1022, 1045, 1068, 1111, 1154, 1217], 155) := by decide +kernel
theorem cLa_1 : (((mB mLa_law).data.toList.drop 188).take 64).map UInt8.toNat = [43, 42, 29, 4, 96, 46, 133, 16, 32, 121, 42, 29, 5, 96, 46, 133, 20, 0, 13, 127, 129, 182, 0, 15, 87, 44, 42, 29, 4, 96, 46, 133, 16, 32, 121, 42, 29, 5, 96, 46, 133, 20, 0, 13, 127, 129, 182, 0, 19, 87, 167, 4, 11, 43, 42, 29, 4, 96, 46, 182, 0, 20, 87, 44] := by decide +kernel
theorem dLa_law_188 : decode (mB mLa_law) 188 = .ok (.aload_n 1, 1) := op43 (gk_ch cLa_1 [43] 0 (by decide +kernel))
theorem dLa_law_189 : decode (mB mLa_law) 189 = .ok (.aload_n 0, 1) := op42 (gk_ch cLa_1 [42] 1 (by decide +kernel))
theorem dLa_law_190 : decode (mB mLa_law) 190 = .ok (.iload_n 3, 1) := op29 (gk_ch cLa_1 [29] 2 (by decide +kernel))
theorem dLa_law_191 : decode (mB mLa_law) 191 = .ok (.iconst 1, 1) := op4 (gk_ch cLa_1 [4] 3 (by decide +kernel))
theorem dLa_law_192 : decode (mB mLa_law) 192 = .ok (.iadd, 1) := op96 (gk_ch cLa_1 [96] 4 (by decide +kernel))
theorem dLa_law_193 : decode (mB mLa_law) 193 = .ok (.iaload, 1) := op46 (gk_ch cLa_1 [46] 5 (by decide +kernel))
theorem dLa_law_194 : decode (mB mLa_law) 194 = .ok (.i2l, 1) := op133 (gk_ch cLa_1 [133] 6 (by decide +kernel))
theorem dLa_law_195 : decode (mB mLa_law) 195 = .ok (.bipush 32, 2) := op16 32 (gk_ch cLa_1 [16, 32] 7 (by decide +kernel))
theorem dLa_law_197 : decode (mB mLa_law) 197 = .ok (.lshl, 1) := op121 (gk_ch cLa_1 [121] 9 (by decide +kernel))
theorem dLa_law_198 : decode (mB mLa_law) 198 = .ok (.aload_n 0, 1) := op42 (gk_ch cLa_1 [42] 10 (by decide +kernel))
theorem dLa_law_199 : decode (mB mLa_law) 199 = .ok (.iload_n 3, 1) := op29 (gk_ch cLa_1 [29] 11 (by decide +kernel))
theorem dLa_law_200 : decode (mB mLa_law) 200 = .ok (.iconst 2, 1) := op5 (gk_ch cLa_1 [5] 12 (by decide +kernel))
theorem dLa_law_201 : decode (mB mLa_law) 201 = .ok (.iadd, 1) := op96 (gk_ch cLa_1 [96] 13 (by decide +kernel))
theorem dLa_law_202 : decode (mB mLa_law) 202 = .ok (.iaload, 1) := op46 (gk_ch cLa_1 [46] 14 (by decide +kernel))
theorem dLa_law_203 : decode (mB mLa_law) 203 = .ok (.i2l, 1) := op133 (gk_ch cLa_1 [133] 15 (by decide +kernel))
theorem dLa_law_204 : decode (mB mLa_law) 204 = .ok (.ldc2_w 13, 3) := op20 0 13 (gk_ch cLa_1 [20, 0, 13] 16 (by decide +kernel))
theorem dLa_law_207 : decode (mB mLa_law) 207 = .ok (.land, 1) := op127 (gk_ch cLa_1 [127] 19 (by decide +kernel))
theorem dLa_law_208 : decode (mB mLa_law) 208 = .ok (.lor, 1) := op129 (gk_ch cLa_1 [129] 20 (by decide +kernel))
theorem dLa_law_209 : decode (mB mLa_law) 209 = .ok (.invokevirtual 15, 3) := op182 0 15 (gk_ch cLa_1 [182, 0, 15] 21 (by decide +kernel))
theorem dLa_law_212 : decode (mB mLa_law) 212 = .ok (.pop, 1) := op87 (gk_ch cLa_1 [87] 24 (by decide +kernel))
theorem dLa_law_213 : decode (mB mLa_law) 213 = .ok (.aload_n 2, 1) := op44 (gk_ch cLa_1 [44] 25 (by decide +kernel))
theorem dLa_law_214 : decode (mB mLa_law) 214 = .ok (.aload_n 0, 1) := op42 (gk_ch cLa_1 [42] 26 (by decide +kernel))
theorem dLa_law_215 : decode (mB mLa_law) 215 = .ok (.iload_n 3, 1) := op29 (gk_ch cLa_1 [29] 27 (by decide +kernel))
theorem dLa_law_216 : decode (mB mLa_law) 216 = .ok (.iconst 1, 1) := op4 (gk_ch cLa_1 [4] 28 (by decide +kernel))
theorem dLa_law_217 : decode (mB mLa_law) 217 = .ok (.iadd, 1) := op96 (gk_ch cLa_1 [96] 29 (by decide +kernel))
theorem dLa_law_218 : decode (mB mLa_law) 218 = .ok (.iaload, 1) := op46 (gk_ch cLa_1 [46] 30 (by decide +kernel))
theorem dLa_law_219 : decode (mB mLa_law) 219 = .ok (.i2l, 1) := op133 (gk_ch cLa_1 [133] 31 (by decide +kernel))
theorem dLa_law_220 : decode (mB mLa_law) 220 = .ok (.bipush 32, 2) := op16 32 (gk_ch cLa_1 [16, 32] 32 (by decide +kernel))
theorem dLa_law_222 : decode (mB mLa_law) 222 = .ok (.lshl, 1) := op121 (gk_ch cLa_1 [121] 34 (by decide +kernel))
theorem dLa_law_223 : decode (mB mLa_law) 223 = .ok (.aload_n 0, 1) := op42 (gk_ch cLa_1 [42] 35 (by decide +kernel))
theorem dLa_law_224 : decode (mB mLa_law) 224 = .ok (.iload_n 3, 1) := op29 (gk_ch cLa_1 [29] 36 (by decide +kernel))
theorem dLa_law_225 : decode (mB mLa_law) 225 = .ok (.iconst 2, 1) := op5 (gk_ch cLa_1 [5] 37 (by decide +kernel))
theorem dLa_law_226 : decode (mB mLa_law) 226 = .ok (.iadd, 1) := op96 (gk_ch cLa_1 [96] 38 (by decide +kernel))
theorem dLa_law_227 : decode (mB mLa_law) 227 = .ok (.iaload, 1) := op46 (gk_ch cLa_1 [46] 39 (by decide +kernel))
theorem dLa_law_228 : decode (mB mLa_law) 228 = .ok (.i2l, 1) := op133 (gk_ch cLa_1 [133] 40 (by decide +kernel))
theorem dLa_law_229 : decode (mB mLa_law) 229 = .ok (.ldc2_w 13, 3) := op20 0 13 (gk_ch cLa_1 [20, 0, 13] 41 (by decide +kernel))
theorem dLa_law_232 : decode (mB mLa_law) 232 = .ok (.land, 1) := op127 (gk_ch cLa_1 [127] 44 (by decide +kernel))
theorem dLa_law_233 : decode (mB mLa_law) 233 = .ok (.lor, 1) := op129 (gk_ch cLa_1 [129] 45 (by decide +kernel))
theorem dLa_law_234 : decode (mB mLa_law) 234 = .ok (.invokevirtual 19, 3) := op182 0 19 (gk_ch cLa_1 [182, 0, 19] 46 (by decide +kernel))
theorem dLa_law_237 : decode (mB mLa_law) 237 = .ok (.pop, 1) := op87 (gk_ch cLa_1 [87] 49 (by decide +kernel))
theorem dLa_law_238 : decode (mB mLa_law) 238 = .ok (.goto 1035, 3) := op167 4 11 (gk_ch cLa_1 [167, 4, 11] 50 (by decide +kernel))
theorem dLa_law_241 : decode (mB mLa_law) 241 = .ok (.aload_n 1, 1) := op43 (gk_ch cLa_1 [43] 53 (by decide +kernel))
theorem dLa_law_242 : decode (mB mLa_law) 242 = .ok (.aload_n 0, 1) := op42 (gk_ch cLa_1 [42] 54 (by decide +kernel))
theorem dLa_law_243 : decode (mB mLa_law) 243 = .ok (.iload_n 3, 1) := op29 (gk_ch cLa_1 [29] 55 (by decide +kernel))
theorem dLa_law_244 : decode (mB mLa_law) 244 = .ok (.iconst 1, 1) := op4 (gk_ch cLa_1 [4] 56 (by decide +kernel))
theorem dLa_law_245 : decode (mB mLa_law) 245 = .ok (.iadd, 1) := op96 (gk_ch cLa_1 [96] 57 (by decide +kernel))
theorem dLa_law_246 : decode (mB mLa_law) 246 = .ok (.iaload, 1) := op46 (gk_ch cLa_1 [46] 58 (by decide +kernel))
theorem dLa_law_247 : decode (mB mLa_law) 247 = .ok (.invokevirtual 20, 3) := op182 0 20 (gk_ch cLa_1 [182, 0, 20] 59 (by decide +kernel))
theorem dLa_law_250 : decode (mB mLa_law) 250 = .ok (.pop, 1) := op87 (gk_ch cLa_1 [87] 62 (by decide +kernel))
theorem dLa_law_251 : decode (mB mLa_law) 251 = .ok (.aload_n 2, 1) := op44 (gk_ch cLa_1 [44] 63 (by decide +kernel))
theorem cLa_2 : (((mB mLa_law).data.toList.drop 252).take 64).map UInt8.toNat = [42, 29, 4, 96, 46, 182, 0, 24, 87, 167, 3, 244, 43, 182, 0, 25, 87, 44, 182, 0, 29, 87, 167, 3, 231, 43, 182, 0, 30, 87, 44, 182, 0, 33, 87, 167, 3, 218, 43, 182, 0, 34, 87, 44, 182, 0, 37, 87, 167, 3, 205, 43, 42, 29, 4, 96, 46, 182, 0, 38, 87, 44, 42, 29] := by decide +kernel
theorem dLa_law_252 : decode (mB mLa_law) 252 = .ok (.aload_n 0, 1) := op42 (gk_ch cLa_2 [42] 0 (by decide +kernel))
theorem dLa_law_253 : decode (mB mLa_law) 253 = .ok (.iload_n 3, 1) := op29 (gk_ch cLa_2 [29] 1 (by decide +kernel))
theorem dLa_law_254 : decode (mB mLa_law) 254 = .ok (.iconst 1, 1) := op4 (gk_ch cLa_2 [4] 2 (by decide +kernel))
theorem dLa_law_255 : decode (mB mLa_law) 255 = .ok (.iadd, 1) := op96 (gk_ch cLa_2 [96] 3 (by decide +kernel))
theorem dLa_law_256 : decode (mB mLa_law) 256 = .ok (.iaload, 1) := op46 (gk_ch cLa_2 [46] 4 (by decide +kernel))
theorem dLa_law_257 : decode (mB mLa_law) 257 = .ok (.invokevirtual 24, 3) := op182 0 24 (gk_ch cLa_2 [182, 0, 24] 5 (by decide +kernel))
theorem dLa_law_260 : decode (mB mLa_law) 260 = .ok (.pop, 1) := op87 (gk_ch cLa_2 [87] 8 (by decide +kernel))
theorem dLa_law_261 : decode (mB mLa_law) 261 = .ok (.goto 1012, 3) := op167 3 244 (gk_ch cLa_2 [167, 3, 244] 9 (by decide +kernel))
theorem dLa_law_264 : decode (mB mLa_law) 264 = .ok (.aload_n 1, 1) := op43 (gk_ch cLa_2 [43] 12 (by decide +kernel))
theorem dLa_law_265 : decode (mB mLa_law) 265 = .ok (.invokevirtual 25, 3) := op182 0 25 (gk_ch cLa_2 [182, 0, 25] 13 (by decide +kernel))
theorem dLa_law_268 : decode (mB mLa_law) 268 = .ok (.pop, 1) := op87 (gk_ch cLa_2 [87] 16 (by decide +kernel))
theorem dLa_law_269 : decode (mB mLa_law) 269 = .ok (.aload_n 2, 1) := op44 (gk_ch cLa_2 [44] 17 (by decide +kernel))
theorem dLa_law_270 : decode (mB mLa_law) 270 = .ok (.invokevirtual 29, 3) := op182 0 29 (gk_ch cLa_2 [182, 0, 29] 18 (by decide +kernel))
theorem dLa_law_273 : decode (mB mLa_law) 273 = .ok (.pop, 1) := op87 (gk_ch cLa_2 [87] 21 (by decide +kernel))
theorem dLa_law_274 : decode (mB mLa_law) 274 = .ok (.goto 999, 3) := op167 3 231 (gk_ch cLa_2 [167, 3, 231] 22 (by decide +kernel))
theorem dLa_law_277 : decode (mB mLa_law) 277 = .ok (.aload_n 1, 1) := op43 (gk_ch cLa_2 [43] 25 (by decide +kernel))
theorem dLa_law_278 : decode (mB mLa_law) 278 = .ok (.invokevirtual 30, 3) := op182 0 30 (gk_ch cLa_2 [182, 0, 30] 26 (by decide +kernel))
theorem dLa_law_281 : decode (mB mLa_law) 281 = .ok (.pop, 1) := op87 (gk_ch cLa_2 [87] 29 (by decide +kernel))
theorem dLa_law_282 : decode (mB mLa_law) 282 = .ok (.aload_n 2, 1) := op44 (gk_ch cLa_2 [44] 30 (by decide +kernel))
theorem dLa_law_283 : decode (mB mLa_law) 283 = .ok (.invokevirtual 33, 3) := op182 0 33 (gk_ch cLa_2 [182, 0, 33] 31 (by decide +kernel))
theorem dLa_law_286 : decode (mB mLa_law) 286 = .ok (.pop, 1) := op87 (gk_ch cLa_2 [87] 34 (by decide +kernel))
theorem dLa_law_287 : decode (mB mLa_law) 287 = .ok (.goto 986, 3) := op167 3 218 (gk_ch cLa_2 [167, 3, 218] 35 (by decide +kernel))
theorem dLa_law_290 : decode (mB mLa_law) 290 = .ok (.aload_n 1, 1) := op43 (gk_ch cLa_2 [43] 38 (by decide +kernel))
theorem dLa_law_291 : decode (mB mLa_law) 291 = .ok (.invokevirtual 34, 3) := op182 0 34 (gk_ch cLa_2 [182, 0, 34] 39 (by decide +kernel))
theorem dLa_law_294 : decode (mB mLa_law) 294 = .ok (.pop, 1) := op87 (gk_ch cLa_2 [87] 42 (by decide +kernel))
theorem dLa_law_295 : decode (mB mLa_law) 295 = .ok (.aload_n 2, 1) := op44 (gk_ch cLa_2 [44] 43 (by decide +kernel))
theorem dLa_law_296 : decode (mB mLa_law) 296 = .ok (.invokevirtual 37, 3) := op182 0 37 (gk_ch cLa_2 [182, 0, 37] 44 (by decide +kernel))
theorem dLa_law_299 : decode (mB mLa_law) 299 = .ok (.pop, 1) := op87 (gk_ch cLa_2 [87] 47 (by decide +kernel))
theorem dLa_law_300 : decode (mB mLa_law) 300 = .ok (.goto 973, 3) := op167 3 205 (gk_ch cLa_2 [167, 3, 205] 48 (by decide +kernel))
theorem dLa_law_303 : decode (mB mLa_law) 303 = .ok (.aload_n 1, 1) := op43 (gk_ch cLa_2 [43] 51 (by decide +kernel))
theorem dLa_law_304 : decode (mB mLa_law) 304 = .ok (.aload_n 0, 1) := op42 (gk_ch cLa_2 [42] 52 (by decide +kernel))
theorem dLa_law_305 : decode (mB mLa_law) 305 = .ok (.iload_n 3, 1) := op29 (gk_ch cLa_2 [29] 53 (by decide +kernel))
theorem dLa_law_306 : decode (mB mLa_law) 306 = .ok (.iconst 1, 1) := op4 (gk_ch cLa_2 [4] 54 (by decide +kernel))
theorem dLa_law_307 : decode (mB mLa_law) 307 = .ok (.iadd, 1) := op96 (gk_ch cLa_2 [96] 55 (by decide +kernel))
theorem dLa_law_308 : decode (mB mLa_law) 308 = .ok (.iaload, 1) := op46 (gk_ch cLa_2 [46] 56 (by decide +kernel))
theorem dLa_law_309 : decode (mB mLa_law) 309 = .ok (.invokevirtual 38, 3) := op182 0 38 (gk_ch cLa_2 [182, 0, 38] 57 (by decide +kernel))
theorem dLa_law_312 : decode (mB mLa_law) 312 = .ok (.pop, 1) := op87 (gk_ch cLa_2 [87] 60 (by decide +kernel))
theorem dLa_law_313 : decode (mB mLa_law) 313 = .ok (.aload_n 2, 1) := op44 (gk_ch cLa_2 [44] 61 (by decide +kernel))
theorem dLa_law_314 : decode (mB mLa_law) 314 = .ok (.aload_n 0, 1) := op42 (gk_ch cLa_2 [42] 62 (by decide +kernel))
theorem dLa_law_315 : decode (mB mLa_law) 315 = .ok (.iload_n 3, 1) := op29 (gk_ch cLa_2 [29] 63 (by decide +kernel))
theorem cLa_3 : (((mB mLa_law).data.toList.drop 316).take 64).map UInt8.toNat = [4, 96, 46, 182, 0, 41, 87, 167, 3, 182, 43, 42, 29, 4, 96, 46, 42, 29, 5, 96, 46, 182, 0, 42, 87, 44, 42, 29, 4, 96, 46, 42, 29, 5, 96, 46, 182, 0, 46, 87, 167, 3, 149, 43, 42, 29, 4, 96, 46, 42, 29, 5, 96, 46, 182, 0, 47, 87, 44, 42, 29, 4, 96, 46] := by decide +kernel
theorem dLa_law_316 : decode (mB mLa_law) 316 = .ok (.iconst 1, 1) := op4 (gk_ch cLa_3 [4] 0 (by decide +kernel))
theorem dLa_law_317 : decode (mB mLa_law) 317 = .ok (.iadd, 1) := op96 (gk_ch cLa_3 [96] 1 (by decide +kernel))
theorem dLa_law_318 : decode (mB mLa_law) 318 = .ok (.iaload, 1) := op46 (gk_ch cLa_3 [46] 2 (by decide +kernel))
theorem dLa_law_319 : decode (mB mLa_law) 319 = .ok (.invokevirtual 41, 3) := op182 0 41 (gk_ch cLa_3 [182, 0, 41] 3 (by decide +kernel))
theorem dLa_law_322 : decode (mB mLa_law) 322 = .ok (.pop, 1) := op87 (gk_ch cLa_3 [87] 6 (by decide +kernel))
theorem dLa_law_323 : decode (mB mLa_law) 323 = .ok (.goto 950, 3) := op167 3 182 (gk_ch cLa_3 [167, 3, 182] 7 (by decide +kernel))
theorem dLa_law_326 : decode (mB mLa_law) 326 = .ok (.aload_n 1, 1) := op43 (gk_ch cLa_3 [43] 10 (by decide +kernel))
theorem dLa_law_327 : decode (mB mLa_law) 327 = .ok (.aload_n 0, 1) := op42 (gk_ch cLa_3 [42] 11 (by decide +kernel))
theorem dLa_law_328 : decode (mB mLa_law) 328 = .ok (.iload_n 3, 1) := op29 (gk_ch cLa_3 [29] 12 (by decide +kernel))
theorem dLa_law_329 : decode (mB mLa_law) 329 = .ok (.iconst 1, 1) := op4 (gk_ch cLa_3 [4] 13 (by decide +kernel))
theorem dLa_law_330 : decode (mB mLa_law) 330 = .ok (.iadd, 1) := op96 (gk_ch cLa_3 [96] 14 (by decide +kernel))
theorem dLa_law_331 : decode (mB mLa_law) 331 = .ok (.iaload, 1) := op46 (gk_ch cLa_3 [46] 15 (by decide +kernel))
theorem dLa_law_332 : decode (mB mLa_law) 332 = .ok (.aload_n 0, 1) := op42 (gk_ch cLa_3 [42] 16 (by decide +kernel))
theorem dLa_law_333 : decode (mB mLa_law) 333 = .ok (.iload_n 3, 1) := op29 (gk_ch cLa_3 [29] 17 (by decide +kernel))
theorem dLa_law_334 : decode (mB mLa_law) 334 = .ok (.iconst 2, 1) := op5 (gk_ch cLa_3 [5] 18 (by decide +kernel))
theorem dLa_law_335 : decode (mB mLa_law) 335 = .ok (.iadd, 1) := op96 (gk_ch cLa_3 [96] 19 (by decide +kernel))
theorem dLa_law_336 : decode (mB mLa_law) 336 = .ok (.iaload, 1) := op46 (gk_ch cLa_3 [46] 20 (by decide +kernel))
theorem dLa_law_337 : decode (mB mLa_law) 337 = .ok (.invokevirtual 42, 3) := op182 0 42 (gk_ch cLa_3 [182, 0, 42] 21 (by decide +kernel))
theorem dLa_law_340 : decode (mB mLa_law) 340 = .ok (.pop, 1) := op87 (gk_ch cLa_3 [87] 24 (by decide +kernel))
theorem dLa_law_341 : decode (mB mLa_law) 341 = .ok (.aload_n 2, 1) := op44 (gk_ch cLa_3 [44] 25 (by decide +kernel))
theorem dLa_law_342 : decode (mB mLa_law) 342 = .ok (.aload_n 0, 1) := op42 (gk_ch cLa_3 [42] 26 (by decide +kernel))
theorem dLa_law_343 : decode (mB mLa_law) 343 = .ok (.iload_n 3, 1) := op29 (gk_ch cLa_3 [29] 27 (by decide +kernel))
theorem dLa_law_344 : decode (mB mLa_law) 344 = .ok (.iconst 1, 1) := op4 (gk_ch cLa_3 [4] 28 (by decide +kernel))
theorem dLa_law_345 : decode (mB mLa_law) 345 = .ok (.iadd, 1) := op96 (gk_ch cLa_3 [96] 29 (by decide +kernel))
theorem dLa_law_346 : decode (mB mLa_law) 346 = .ok (.iaload, 1) := op46 (gk_ch cLa_3 [46] 30 (by decide +kernel))
theorem dLa_law_347 : decode (mB mLa_law) 347 = .ok (.aload_n 0, 1) := op42 (gk_ch cLa_3 [42] 31 (by decide +kernel))
theorem dLa_law_348 : decode (mB mLa_law) 348 = .ok (.iload_n 3, 1) := op29 (gk_ch cLa_3 [29] 32 (by decide +kernel))
theorem dLa_law_349 : decode (mB mLa_law) 349 = .ok (.iconst 2, 1) := op5 (gk_ch cLa_3 [5] 33 (by decide +kernel))
theorem dLa_law_350 : decode (mB mLa_law) 350 = .ok (.iadd, 1) := op96 (gk_ch cLa_3 [96] 34 (by decide +kernel))
theorem dLa_law_351 : decode (mB mLa_law) 351 = .ok (.iaload, 1) := op46 (gk_ch cLa_3 [46] 35 (by decide +kernel))
theorem dLa_law_352 : decode (mB mLa_law) 352 = .ok (.invokevirtual 46, 3) := op182 0 46 (gk_ch cLa_3 [182, 0, 46] 36 (by decide +kernel))
theorem dLa_law_355 : decode (mB mLa_law) 355 = .ok (.pop, 1) := op87 (gk_ch cLa_3 [87] 39 (by decide +kernel))
theorem dLa_law_356 : decode (mB mLa_law) 356 = .ok (.goto 917, 3) := op167 3 149 (gk_ch cLa_3 [167, 3, 149] 40 (by decide +kernel))
theorem dLa_law_359 : decode (mB mLa_law) 359 = .ok (.aload_n 1, 1) := op43 (gk_ch cLa_3 [43] 43 (by decide +kernel))
theorem dLa_law_360 : decode (mB mLa_law) 360 = .ok (.aload_n 0, 1) := op42 (gk_ch cLa_3 [42] 44 (by decide +kernel))
theorem dLa_law_361 : decode (mB mLa_law) 361 = .ok (.iload_n 3, 1) := op29 (gk_ch cLa_3 [29] 45 (by decide +kernel))
theorem dLa_law_362 : decode (mB mLa_law) 362 = .ok (.iconst 1, 1) := op4 (gk_ch cLa_3 [4] 46 (by decide +kernel))
theorem dLa_law_363 : decode (mB mLa_law) 363 = .ok (.iadd, 1) := op96 (gk_ch cLa_3 [96] 47 (by decide +kernel))
theorem dLa_law_364 : decode (mB mLa_law) 364 = .ok (.iaload, 1) := op46 (gk_ch cLa_3 [46] 48 (by decide +kernel))
theorem dLa_law_365 : decode (mB mLa_law) 365 = .ok (.aload_n 0, 1) := op42 (gk_ch cLa_3 [42] 49 (by decide +kernel))
theorem dLa_law_366 : decode (mB mLa_law) 366 = .ok (.iload_n 3, 1) := op29 (gk_ch cLa_3 [29] 50 (by decide +kernel))
theorem dLa_law_367 : decode (mB mLa_law) 367 = .ok (.iconst 2, 1) := op5 (gk_ch cLa_3 [5] 51 (by decide +kernel))
theorem dLa_law_368 : decode (mB mLa_law) 368 = .ok (.iadd, 1) := op96 (gk_ch cLa_3 [96] 52 (by decide +kernel))
theorem dLa_law_369 : decode (mB mLa_law) 369 = .ok (.iaload, 1) := op46 (gk_ch cLa_3 [46] 53 (by decide +kernel))
theorem dLa_law_370 : decode (mB mLa_law) 370 = .ok (.invokevirtual 47, 3) := op182 0 47 (gk_ch cLa_3 [182, 0, 47] 54 (by decide +kernel))
theorem dLa_law_373 : decode (mB mLa_law) 373 = .ok (.pop, 1) := op87 (gk_ch cLa_3 [87] 57 (by decide +kernel))
theorem dLa_law_374 : decode (mB mLa_law) 374 = .ok (.aload_n 2, 1) := op44 (gk_ch cLa_3 [44] 58 (by decide +kernel))
theorem dLa_law_375 : decode (mB mLa_law) 375 = .ok (.aload_n 0, 1) := op42 (gk_ch cLa_3 [42] 59 (by decide +kernel))
theorem dLa_law_376 : decode (mB mLa_law) 376 = .ok (.iload_n 3, 1) := op29 (gk_ch cLa_3 [29] 60 (by decide +kernel))
theorem dLa_law_377 : decode (mB mLa_law) 377 = .ok (.iconst 1, 1) := op4 (gk_ch cLa_3 [4] 61 (by decide +kernel))
theorem dLa_law_378 : decode (mB mLa_law) 378 = .ok (.iadd, 1) := op96 (gk_ch cLa_3 [96] 62 (by decide +kernel))
theorem dLa_law_379 : decode (mB mLa_law) 379 = .ok (.iaload, 1) := op46 (gk_ch cLa_3 [46] 63 (by decide +kernel))
theorem cLa_4 : (((mB mLa_law).data.toList.drop 380).take 64).map UInt8.toNat = [42, 29, 5, 96, 46, 182, 0, 50, 87, 167, 3, 116, 43, 42, 29, 4, 96, 46, 182, 0, 51, 87, 44, 42, 29, 4, 96, 46, 182, 0, 54, 87, 167, 3, 93, 43, 42, 29, 4, 96, 46, 42, 29, 5, 96, 46, 182, 0, 55, 87, 44, 42, 29, 4, 96, 46, 42, 29, 5, 96, 46, 182, 0, 58] := by decide +kernel
theorem dLa_law_380 : decode (mB mLa_law) 380 = .ok (.aload_n 0, 1) := op42 (gk_ch cLa_4 [42] 0 (by decide +kernel))
theorem dLa_law_381 : decode (mB mLa_law) 381 = .ok (.iload_n 3, 1) := op29 (gk_ch cLa_4 [29] 1 (by decide +kernel))
theorem dLa_law_382 : decode (mB mLa_law) 382 = .ok (.iconst 2, 1) := op5 (gk_ch cLa_4 [5] 2 (by decide +kernel))
theorem dLa_law_383 : decode (mB mLa_law) 383 = .ok (.iadd, 1) := op96 (gk_ch cLa_4 [96] 3 (by decide +kernel))
theorem dLa_law_384 : decode (mB mLa_law) 384 = .ok (.iaload, 1) := op46 (gk_ch cLa_4 [46] 4 (by decide +kernel))
theorem dLa_law_385 : decode (mB mLa_law) 385 = .ok (.invokevirtual 50, 3) := op182 0 50 (gk_ch cLa_4 [182, 0, 50] 5 (by decide +kernel))
theorem dLa_law_388 : decode (mB mLa_law) 388 = .ok (.pop, 1) := op87 (gk_ch cLa_4 [87] 8 (by decide +kernel))
theorem dLa_law_389 : decode (mB mLa_law) 389 = .ok (.goto 884, 3) := op167 3 116 (gk_ch cLa_4 [167, 3, 116] 9 (by decide +kernel))
theorem dLa_law_392 : decode (mB mLa_law) 392 = .ok (.aload_n 1, 1) := op43 (gk_ch cLa_4 [43] 12 (by decide +kernel))
theorem dLa_law_393 : decode (mB mLa_law) 393 = .ok (.aload_n 0, 1) := op42 (gk_ch cLa_4 [42] 13 (by decide +kernel))
theorem dLa_law_394 : decode (mB mLa_law) 394 = .ok (.iload_n 3, 1) := op29 (gk_ch cLa_4 [29] 14 (by decide +kernel))
theorem dLa_law_395 : decode (mB mLa_law) 395 = .ok (.iconst 1, 1) := op4 (gk_ch cLa_4 [4] 15 (by decide +kernel))
theorem dLa_law_396 : decode (mB mLa_law) 396 = .ok (.iadd, 1) := op96 (gk_ch cLa_4 [96] 16 (by decide +kernel))
theorem dLa_law_397 : decode (mB mLa_law) 397 = .ok (.iaload, 1) := op46 (gk_ch cLa_4 [46] 17 (by decide +kernel))
theorem dLa_law_398 : decode (mB mLa_law) 398 = .ok (.invokevirtual 51, 3) := op182 0 51 (gk_ch cLa_4 [182, 0, 51] 18 (by decide +kernel))
theorem dLa_law_401 : decode (mB mLa_law) 401 = .ok (.pop, 1) := op87 (gk_ch cLa_4 [87] 21 (by decide +kernel))
theorem dLa_law_402 : decode (mB mLa_law) 402 = .ok (.aload_n 2, 1) := op44 (gk_ch cLa_4 [44] 22 (by decide +kernel))
theorem dLa_law_403 : decode (mB mLa_law) 403 = .ok (.aload_n 0, 1) := op42 (gk_ch cLa_4 [42] 23 (by decide +kernel))
theorem dLa_law_404 : decode (mB mLa_law) 404 = .ok (.iload_n 3, 1) := op29 (gk_ch cLa_4 [29] 24 (by decide +kernel))
theorem dLa_law_405 : decode (mB mLa_law) 405 = .ok (.iconst 1, 1) := op4 (gk_ch cLa_4 [4] 25 (by decide +kernel))
theorem dLa_law_406 : decode (mB mLa_law) 406 = .ok (.iadd, 1) := op96 (gk_ch cLa_4 [96] 26 (by decide +kernel))
theorem dLa_law_407 : decode (mB mLa_law) 407 = .ok (.iaload, 1) := op46 (gk_ch cLa_4 [46] 27 (by decide +kernel))
theorem dLa_law_408 : decode (mB mLa_law) 408 = .ok (.invokevirtual 54, 3) := op182 0 54 (gk_ch cLa_4 [182, 0, 54] 28 (by decide +kernel))
theorem dLa_law_411 : decode (mB mLa_law) 411 = .ok (.pop, 1) := op87 (gk_ch cLa_4 [87] 31 (by decide +kernel))
theorem dLa_law_412 : decode (mB mLa_law) 412 = .ok (.goto 861, 3) := op167 3 93 (gk_ch cLa_4 [167, 3, 93] 32 (by decide +kernel))
theorem dLa_law_415 : decode (mB mLa_law) 415 = .ok (.aload_n 1, 1) := op43 (gk_ch cLa_4 [43] 35 (by decide +kernel))
theorem dLa_law_416 : decode (mB mLa_law) 416 = .ok (.aload_n 0, 1) := op42 (gk_ch cLa_4 [42] 36 (by decide +kernel))
theorem dLa_law_417 : decode (mB mLa_law) 417 = .ok (.iload_n 3, 1) := op29 (gk_ch cLa_4 [29] 37 (by decide +kernel))
theorem dLa_law_418 : decode (mB mLa_law) 418 = .ok (.iconst 1, 1) := op4 (gk_ch cLa_4 [4] 38 (by decide +kernel))
theorem dLa_law_419 : decode (mB mLa_law) 419 = .ok (.iadd, 1) := op96 (gk_ch cLa_4 [96] 39 (by decide +kernel))
theorem dLa_law_420 : decode (mB mLa_law) 420 = .ok (.iaload, 1) := op46 (gk_ch cLa_4 [46] 40 (by decide +kernel))
theorem dLa_law_421 : decode (mB mLa_law) 421 = .ok (.aload_n 0, 1) := op42 (gk_ch cLa_4 [42] 41 (by decide +kernel))
theorem dLa_law_422 : decode (mB mLa_law) 422 = .ok (.iload_n 3, 1) := op29 (gk_ch cLa_4 [29] 42 (by decide +kernel))
theorem dLa_law_423 : decode (mB mLa_law) 423 = .ok (.iconst 2, 1) := op5 (gk_ch cLa_4 [5] 43 (by decide +kernel))
theorem dLa_law_424 : decode (mB mLa_law) 424 = .ok (.iadd, 1) := op96 (gk_ch cLa_4 [96] 44 (by decide +kernel))
theorem dLa_law_425 : decode (mB mLa_law) 425 = .ok (.iaload, 1) := op46 (gk_ch cLa_4 [46] 45 (by decide +kernel))
theorem dLa_law_426 : decode (mB mLa_law) 426 = .ok (.invokevirtual 55, 3) := op182 0 55 (gk_ch cLa_4 [182, 0, 55] 46 (by decide +kernel))
theorem dLa_law_429 : decode (mB mLa_law) 429 = .ok (.pop, 1) := op87 (gk_ch cLa_4 [87] 49 (by decide +kernel))
theorem dLa_law_430 : decode (mB mLa_law) 430 = .ok (.aload_n 2, 1) := op44 (gk_ch cLa_4 [44] 50 (by decide +kernel))
theorem dLa_law_431 : decode (mB mLa_law) 431 = .ok (.aload_n 0, 1) := op42 (gk_ch cLa_4 [42] 51 (by decide +kernel))
theorem dLa_law_432 : decode (mB mLa_law) 432 = .ok (.iload_n 3, 1) := op29 (gk_ch cLa_4 [29] 52 (by decide +kernel))
theorem dLa_law_433 : decode (mB mLa_law) 433 = .ok (.iconst 1, 1) := op4 (gk_ch cLa_4 [4] 53 (by decide +kernel))
theorem dLa_law_434 : decode (mB mLa_law) 434 = .ok (.iadd, 1) := op96 (gk_ch cLa_4 [96] 54 (by decide +kernel))
theorem dLa_law_435 : decode (mB mLa_law) 435 = .ok (.iaload, 1) := op46 (gk_ch cLa_4 [46] 55 (by decide +kernel))
theorem dLa_law_436 : decode (mB mLa_law) 436 = .ok (.aload_n 0, 1) := op42 (gk_ch cLa_4 [42] 56 (by decide +kernel))
theorem dLa_law_437 : decode (mB mLa_law) 437 = .ok (.iload_n 3, 1) := op29 (gk_ch cLa_4 [29] 57 (by decide +kernel))
theorem dLa_law_438 : decode (mB mLa_law) 438 = .ok (.iconst 2, 1) := op5 (gk_ch cLa_4 [5] 58 (by decide +kernel))
theorem dLa_law_439 : decode (mB mLa_law) 439 = .ok (.iadd, 1) := op96 (gk_ch cLa_4 [96] 59 (by decide +kernel))
theorem dLa_law_440 : decode (mB mLa_law) 440 = .ok (.iaload, 1) := op46 (gk_ch cLa_4 [46] 60 (by decide +kernel))
theorem dLa_law_441 : decode (mB mLa_law) 441 = .ok (.invokevirtual 58, 3) := op182 0 58 (gk_ch cLa_4 [182, 0, 58] 61 (by decide +kernel))
theorem cLa_5 : (((mB mLa_law).data.toList.drop 444).take 64).map UInt8.toNat = [87, 167, 3, 60, 43, 42, 29, 4, 96, 46, 182, 0, 59, 87, 44, 42, 29, 4, 96, 46, 182, 0, 62, 87, 167, 3, 37, 43, 42, 29, 4, 96, 46, 42, 29, 5, 96, 46, 182, 0, 63, 87, 44, 42, 29, 4, 96, 46, 42, 29, 5, 96, 46, 182, 0, 66, 87, 167, 3, 4, 43, 42, 29, 4] := by decide +kernel
theorem dLa_law_444 : decode (mB mLa_law) 444 = .ok (.pop, 1) := op87 (gk_ch cLa_5 [87] 0 (by decide +kernel))
theorem dLa_law_445 : decode (mB mLa_law) 445 = .ok (.goto 828, 3) := op167 3 60 (gk_ch cLa_5 [167, 3, 60] 1 (by decide +kernel))
theorem dLa_law_448 : decode (mB mLa_law) 448 = .ok (.aload_n 1, 1) := op43 (gk_ch cLa_5 [43] 4 (by decide +kernel))
theorem dLa_law_449 : decode (mB mLa_law) 449 = .ok (.aload_n 0, 1) := op42 (gk_ch cLa_5 [42] 5 (by decide +kernel))
theorem dLa_law_450 : decode (mB mLa_law) 450 = .ok (.iload_n 3, 1) := op29 (gk_ch cLa_5 [29] 6 (by decide +kernel))
theorem dLa_law_451 : decode (mB mLa_law) 451 = .ok (.iconst 1, 1) := op4 (gk_ch cLa_5 [4] 7 (by decide +kernel))
theorem dLa_law_452 : decode (mB mLa_law) 452 = .ok (.iadd, 1) := op96 (gk_ch cLa_5 [96] 8 (by decide +kernel))
theorem dLa_law_453 : decode (mB mLa_law) 453 = .ok (.iaload, 1) := op46 (gk_ch cLa_5 [46] 9 (by decide +kernel))
theorem dLa_law_454 : decode (mB mLa_law) 454 = .ok (.invokevirtual 59, 3) := op182 0 59 (gk_ch cLa_5 [182, 0, 59] 10 (by decide +kernel))
theorem dLa_law_457 : decode (mB mLa_law) 457 = .ok (.pop, 1) := op87 (gk_ch cLa_5 [87] 13 (by decide +kernel))
theorem dLa_law_458 : decode (mB mLa_law) 458 = .ok (.aload_n 2, 1) := op44 (gk_ch cLa_5 [44] 14 (by decide +kernel))
theorem dLa_law_459 : decode (mB mLa_law) 459 = .ok (.aload_n 0, 1) := op42 (gk_ch cLa_5 [42] 15 (by decide +kernel))
theorem dLa_law_460 : decode (mB mLa_law) 460 = .ok (.iload_n 3, 1) := op29 (gk_ch cLa_5 [29] 16 (by decide +kernel))
theorem dLa_law_461 : decode (mB mLa_law) 461 = .ok (.iconst 1, 1) := op4 (gk_ch cLa_5 [4] 17 (by decide +kernel))
theorem dLa_law_462 : decode (mB mLa_law) 462 = .ok (.iadd, 1) := op96 (gk_ch cLa_5 [96] 18 (by decide +kernel))
theorem dLa_law_463 : decode (mB mLa_law) 463 = .ok (.iaload, 1) := op46 (gk_ch cLa_5 [46] 19 (by decide +kernel))
theorem dLa_law_464 : decode (mB mLa_law) 464 = .ok (.invokevirtual 62, 3) := op182 0 62 (gk_ch cLa_5 [182, 0, 62] 20 (by decide +kernel))
theorem dLa_law_467 : decode (mB mLa_law) 467 = .ok (.pop, 1) := op87 (gk_ch cLa_5 [87] 23 (by decide +kernel))
theorem dLa_law_468 : decode (mB mLa_law) 468 = .ok (.goto 805, 3) := op167 3 37 (gk_ch cLa_5 [167, 3, 37] 24 (by decide +kernel))
theorem dLa_law_471 : decode (mB mLa_law) 471 = .ok (.aload_n 1, 1) := op43 (gk_ch cLa_5 [43] 27 (by decide +kernel))
theorem dLa_law_472 : decode (mB mLa_law) 472 = .ok (.aload_n 0, 1) := op42 (gk_ch cLa_5 [42] 28 (by decide +kernel))
theorem dLa_law_473 : decode (mB mLa_law) 473 = .ok (.iload_n 3, 1) := op29 (gk_ch cLa_5 [29] 29 (by decide +kernel))
theorem dLa_law_474 : decode (mB mLa_law) 474 = .ok (.iconst 1, 1) := op4 (gk_ch cLa_5 [4] 30 (by decide +kernel))
theorem dLa_law_475 : decode (mB mLa_law) 475 = .ok (.iadd, 1) := op96 (gk_ch cLa_5 [96] 31 (by decide +kernel))
theorem dLa_law_476 : decode (mB mLa_law) 476 = .ok (.iaload, 1) := op46 (gk_ch cLa_5 [46] 32 (by decide +kernel))
theorem dLa_law_477 : decode (mB mLa_law) 477 = .ok (.aload_n 0, 1) := op42 (gk_ch cLa_5 [42] 33 (by decide +kernel))
theorem dLa_law_478 : decode (mB mLa_law) 478 = .ok (.iload_n 3, 1) := op29 (gk_ch cLa_5 [29] 34 (by decide +kernel))
theorem dLa_law_479 : decode (mB mLa_law) 479 = .ok (.iconst 2, 1) := op5 (gk_ch cLa_5 [5] 35 (by decide +kernel))
theorem dLa_law_480 : decode (mB mLa_law) 480 = .ok (.iadd, 1) := op96 (gk_ch cLa_5 [96] 36 (by decide +kernel))
theorem dLa_law_481 : decode (mB mLa_law) 481 = .ok (.iaload, 1) := op46 (gk_ch cLa_5 [46] 37 (by decide +kernel))
theorem dLa_law_482 : decode (mB mLa_law) 482 = .ok (.invokevirtual 63, 3) := op182 0 63 (gk_ch cLa_5 [182, 0, 63] 38 (by decide +kernel))
theorem dLa_law_485 : decode (mB mLa_law) 485 = .ok (.pop, 1) := op87 (gk_ch cLa_5 [87] 41 (by decide +kernel))
theorem dLa_law_486 : decode (mB mLa_law) 486 = .ok (.aload_n 2, 1) := op44 (gk_ch cLa_5 [44] 42 (by decide +kernel))
theorem dLa_law_487 : decode (mB mLa_law) 487 = .ok (.aload_n 0, 1) := op42 (gk_ch cLa_5 [42] 43 (by decide +kernel))
theorem dLa_law_488 : decode (mB mLa_law) 488 = .ok (.iload_n 3, 1) := op29 (gk_ch cLa_5 [29] 44 (by decide +kernel))
theorem dLa_law_489 : decode (mB mLa_law) 489 = .ok (.iconst 1, 1) := op4 (gk_ch cLa_5 [4] 45 (by decide +kernel))
theorem dLa_law_490 : decode (mB mLa_law) 490 = .ok (.iadd, 1) := op96 (gk_ch cLa_5 [96] 46 (by decide +kernel))
theorem dLa_law_491 : decode (mB mLa_law) 491 = .ok (.iaload, 1) := op46 (gk_ch cLa_5 [46] 47 (by decide +kernel))
theorem dLa_law_492 : decode (mB mLa_law) 492 = .ok (.aload_n 0, 1) := op42 (gk_ch cLa_5 [42] 48 (by decide +kernel))
theorem dLa_law_493 : decode (mB mLa_law) 493 = .ok (.iload_n 3, 1) := op29 (gk_ch cLa_5 [29] 49 (by decide +kernel))
theorem dLa_law_494 : decode (mB mLa_law) 494 = .ok (.iconst 2, 1) := op5 (gk_ch cLa_5 [5] 50 (by decide +kernel))
theorem dLa_law_495 : decode (mB mLa_law) 495 = .ok (.iadd, 1) := op96 (gk_ch cLa_5 [96] 51 (by decide +kernel))
theorem dLa_law_496 : decode (mB mLa_law) 496 = .ok (.iaload, 1) := op46 (gk_ch cLa_5 [46] 52 (by decide +kernel))
theorem dLa_law_497 : decode (mB mLa_law) 497 = .ok (.invokevirtual 66, 3) := op182 0 66 (gk_ch cLa_5 [182, 0, 66] 53 (by decide +kernel))
theorem dLa_law_500 : decode (mB mLa_law) 500 = .ok (.pop, 1) := op87 (gk_ch cLa_5 [87] 56 (by decide +kernel))
theorem dLa_law_501 : decode (mB mLa_law) 501 = .ok (.goto 772, 3) := op167 3 4 (gk_ch cLa_5 [167, 3, 4] 57 (by decide +kernel))
theorem dLa_law_504 : decode (mB mLa_law) 504 = .ok (.aload_n 1, 1) := op43 (gk_ch cLa_5 [43] 60 (by decide +kernel))
theorem dLa_law_505 : decode (mB mLa_law) 505 = .ok (.aload_n 0, 1) := op42 (gk_ch cLa_5 [42] 61 (by decide +kernel))
theorem dLa_law_506 : decode (mB mLa_law) 506 = .ok (.iload_n 3, 1) := op29 (gk_ch cLa_5 [29] 62 (by decide +kernel))
theorem dLa_law_507 : decode (mB mLa_law) 507 = .ok (.iconst 1, 1) := op4 (gk_ch cLa_5 [4] 63 (by decide +kernel))
theorem cLa_6 : (((mB mLa_law).data.toList.drop 508).take 64).map UInt8.toNat = [96, 46, 42, 29, 5, 96, 46, 182, 0, 67, 87, 44, 42, 29, 4, 96, 46, 42, 29, 5, 96, 46, 182, 0, 70, 87, 167, 2, 227, 43, 42, 29, 4, 96, 46, 42, 29, 5, 96, 46, 42, 29, 6, 96, 46, 182, 0, 71, 87, 44, 42, 29, 4, 96, 46, 42, 29, 5, 96, 46, 42, 29, 6, 96] := by decide +kernel
theorem dLa_law_508 : decode (mB mLa_law) 508 = .ok (.iadd, 1) := op96 (gk_ch cLa_6 [96] 0 (by decide +kernel))
theorem dLa_law_509 : decode (mB mLa_law) 509 = .ok (.iaload, 1) := op46 (gk_ch cLa_6 [46] 1 (by decide +kernel))
theorem dLa_law_510 : decode (mB mLa_law) 510 = .ok (.aload_n 0, 1) := op42 (gk_ch cLa_6 [42] 2 (by decide +kernel))
theorem dLa_law_511 : decode (mB mLa_law) 511 = .ok (.iload_n 3, 1) := op29 (gk_ch cLa_6 [29] 3 (by decide +kernel))
theorem dLa_law_512 : decode (mB mLa_law) 512 = .ok (.iconst 2, 1) := op5 (gk_ch cLa_6 [5] 4 (by decide +kernel))
theorem dLa_law_513 : decode (mB mLa_law) 513 = .ok (.iadd, 1) := op96 (gk_ch cLa_6 [96] 5 (by decide +kernel))
theorem dLa_law_514 : decode (mB mLa_law) 514 = .ok (.iaload, 1) := op46 (gk_ch cLa_6 [46] 6 (by decide +kernel))
theorem dLa_law_515 : decode (mB mLa_law) 515 = .ok (.invokevirtual 67, 3) := op182 0 67 (gk_ch cLa_6 [182, 0, 67] 7 (by decide +kernel))
theorem dLa_law_518 : decode (mB mLa_law) 518 = .ok (.pop, 1) := op87 (gk_ch cLa_6 [87] 10 (by decide +kernel))
theorem dLa_law_519 : decode (mB mLa_law) 519 = .ok (.aload_n 2, 1) := op44 (gk_ch cLa_6 [44] 11 (by decide +kernel))
theorem dLa_law_520 : decode (mB mLa_law) 520 = .ok (.aload_n 0, 1) := op42 (gk_ch cLa_6 [42] 12 (by decide +kernel))
theorem dLa_law_521 : decode (mB mLa_law) 521 = .ok (.iload_n 3, 1) := op29 (gk_ch cLa_6 [29] 13 (by decide +kernel))
theorem dLa_law_522 : decode (mB mLa_law) 522 = .ok (.iconst 1, 1) := op4 (gk_ch cLa_6 [4] 14 (by decide +kernel))
theorem dLa_law_523 : decode (mB mLa_law) 523 = .ok (.iadd, 1) := op96 (gk_ch cLa_6 [96] 15 (by decide +kernel))
theorem dLa_law_524 : decode (mB mLa_law) 524 = .ok (.iaload, 1) := op46 (gk_ch cLa_6 [46] 16 (by decide +kernel))
theorem dLa_law_525 : decode (mB mLa_law) 525 = .ok (.aload_n 0, 1) := op42 (gk_ch cLa_6 [42] 17 (by decide +kernel))
theorem dLa_law_526 : decode (mB mLa_law) 526 = .ok (.iload_n 3, 1) := op29 (gk_ch cLa_6 [29] 18 (by decide +kernel))
theorem dLa_law_527 : decode (mB mLa_law) 527 = .ok (.iconst 2, 1) := op5 (gk_ch cLa_6 [5] 19 (by decide +kernel))
theorem dLa_law_528 : decode (mB mLa_law) 528 = .ok (.iadd, 1) := op96 (gk_ch cLa_6 [96] 20 (by decide +kernel))
theorem dLa_law_529 : decode (mB mLa_law) 529 = .ok (.iaload, 1) := op46 (gk_ch cLa_6 [46] 21 (by decide +kernel))
theorem dLa_law_530 : decode (mB mLa_law) 530 = .ok (.invokevirtual 70, 3) := op182 0 70 (gk_ch cLa_6 [182, 0, 70] 22 (by decide +kernel))
theorem dLa_law_533 : decode (mB mLa_law) 533 = .ok (.pop, 1) := op87 (gk_ch cLa_6 [87] 25 (by decide +kernel))
theorem dLa_law_534 : decode (mB mLa_law) 534 = .ok (.goto 739, 3) := op167 2 227 (gk_ch cLa_6 [167, 2, 227] 26 (by decide +kernel))
theorem dLa_law_537 : decode (mB mLa_law) 537 = .ok (.aload_n 1, 1) := op43 (gk_ch cLa_6 [43] 29 (by decide +kernel))
theorem dLa_law_538 : decode (mB mLa_law) 538 = .ok (.aload_n 0, 1) := op42 (gk_ch cLa_6 [42] 30 (by decide +kernel))
theorem dLa_law_539 : decode (mB mLa_law) 539 = .ok (.iload_n 3, 1) := op29 (gk_ch cLa_6 [29] 31 (by decide +kernel))
theorem dLa_law_540 : decode (mB mLa_law) 540 = .ok (.iconst 1, 1) := op4 (gk_ch cLa_6 [4] 32 (by decide +kernel))
theorem dLa_law_541 : decode (mB mLa_law) 541 = .ok (.iadd, 1) := op96 (gk_ch cLa_6 [96] 33 (by decide +kernel))
theorem dLa_law_542 : decode (mB mLa_law) 542 = .ok (.iaload, 1) := op46 (gk_ch cLa_6 [46] 34 (by decide +kernel))
theorem dLa_law_543 : decode (mB mLa_law) 543 = .ok (.aload_n 0, 1) := op42 (gk_ch cLa_6 [42] 35 (by decide +kernel))
theorem dLa_law_544 : decode (mB mLa_law) 544 = .ok (.iload_n 3, 1) := op29 (gk_ch cLa_6 [29] 36 (by decide +kernel))
theorem dLa_law_545 : decode (mB mLa_law) 545 = .ok (.iconst 2, 1) := op5 (gk_ch cLa_6 [5] 37 (by decide +kernel))
theorem dLa_law_546 : decode (mB mLa_law) 546 = .ok (.iadd, 1) := op96 (gk_ch cLa_6 [96] 38 (by decide +kernel))
theorem dLa_law_547 : decode (mB mLa_law) 547 = .ok (.iaload, 1) := op46 (gk_ch cLa_6 [46] 39 (by decide +kernel))
theorem dLa_law_548 : decode (mB mLa_law) 548 = .ok (.aload_n 0, 1) := op42 (gk_ch cLa_6 [42] 40 (by decide +kernel))
theorem dLa_law_549 : decode (mB mLa_law) 549 = .ok (.iload_n 3, 1) := op29 (gk_ch cLa_6 [29] 41 (by decide +kernel))
theorem dLa_law_550 : decode (mB mLa_law) 550 = .ok (.iconst 3, 1) := op6 (gk_ch cLa_6 [6] 42 (by decide +kernel))
theorem dLa_law_551 : decode (mB mLa_law) 551 = .ok (.iadd, 1) := op96 (gk_ch cLa_6 [96] 43 (by decide +kernel))
theorem dLa_law_552 : decode (mB mLa_law) 552 = .ok (.iaload, 1) := op46 (gk_ch cLa_6 [46] 44 (by decide +kernel))
theorem dLa_law_553 : decode (mB mLa_law) 553 = .ok (.invokevirtual 71, 3) := op182 0 71 (gk_ch cLa_6 [182, 0, 71] 45 (by decide +kernel))
theorem dLa_law_556 : decode (mB mLa_law) 556 = .ok (.pop, 1) := op87 (gk_ch cLa_6 [87] 48 (by decide +kernel))
theorem dLa_law_557 : decode (mB mLa_law) 557 = .ok (.aload_n 2, 1) := op44 (gk_ch cLa_6 [44] 49 (by decide +kernel))
theorem dLa_law_558 : decode (mB mLa_law) 558 = .ok (.aload_n 0, 1) := op42 (gk_ch cLa_6 [42] 50 (by decide +kernel))
theorem dLa_law_559 : decode (mB mLa_law) 559 = .ok (.iload_n 3, 1) := op29 (gk_ch cLa_6 [29] 51 (by decide +kernel))
theorem dLa_law_560 : decode (mB mLa_law) 560 = .ok (.iconst 1, 1) := op4 (gk_ch cLa_6 [4] 52 (by decide +kernel))
theorem dLa_law_561 : decode (mB mLa_law) 561 = .ok (.iadd, 1) := op96 (gk_ch cLa_6 [96] 53 (by decide +kernel))
theorem dLa_law_562 : decode (mB mLa_law) 562 = .ok (.iaload, 1) := op46 (gk_ch cLa_6 [46] 54 (by decide +kernel))
theorem dLa_law_563 : decode (mB mLa_law) 563 = .ok (.aload_n 0, 1) := op42 (gk_ch cLa_6 [42] 55 (by decide +kernel))
theorem dLa_law_564 : decode (mB mLa_law) 564 = .ok (.iload_n 3, 1) := op29 (gk_ch cLa_6 [29] 56 (by decide +kernel))
theorem dLa_law_565 : decode (mB mLa_law) 565 = .ok (.iconst 2, 1) := op5 (gk_ch cLa_6 [5] 57 (by decide +kernel))
theorem dLa_law_566 : decode (mB mLa_law) 566 = .ok (.iadd, 1) := op96 (gk_ch cLa_6 [96] 58 (by decide +kernel))
theorem dLa_law_567 : decode (mB mLa_law) 567 = .ok (.iaload, 1) := op46 (gk_ch cLa_6 [46] 59 (by decide +kernel))
theorem dLa_law_568 : decode (mB mLa_law) 568 = .ok (.aload_n 0, 1) := op42 (gk_ch cLa_6 [42] 60 (by decide +kernel))
theorem dLa_law_569 : decode (mB mLa_law) 569 = .ok (.iload_n 3, 1) := op29 (gk_ch cLa_6 [29] 61 (by decide +kernel))
theorem dLa_law_570 : decode (mB mLa_law) 570 = .ok (.iconst 3, 1) := op6 (gk_ch cLa_6 [6] 62 (by decide +kernel))
theorem dLa_law_571 : decode (mB mLa_law) 571 = .ok (.iadd, 1) := op96 (gk_ch cLa_6 [96] 63 (by decide +kernel))
theorem cLa_7 : (((mB mLa_law).data.toList.drop 572).take 64).map UInt8.toNat = [46, 182, 0, 75, 87, 167, 2, 184, 43, 42, 29, 4, 96, 46, 42, 29, 5, 96, 46, 182, 0, 76, 87, 44, 42, 29, 4, 96, 46, 42, 29, 5, 96, 46, 182, 0, 79, 87, 167, 2, 151, 43, 42, 29, 4, 96, 46, 42, 29, 5, 96, 46, 182, 0, 80, 87, 44, 42, 29, 4, 96, 46, 42, 29] := by decide +kernel
theorem dLa_law_572 : decode (mB mLa_law) 572 = .ok (.iaload, 1) := op46 (gk_ch cLa_7 [46] 0 (by decide +kernel))
theorem dLa_law_573 : decode (mB mLa_law) 573 = .ok (.invokevirtual 75, 3) := op182 0 75 (gk_ch cLa_7 [182, 0, 75] 1 (by decide +kernel))
theorem dLa_law_576 : decode (mB mLa_law) 576 = .ok (.pop, 1) := op87 (gk_ch cLa_7 [87] 4 (by decide +kernel))
theorem dLa_law_577 : decode (mB mLa_law) 577 = .ok (.goto 696, 3) := op167 2 184 (gk_ch cLa_7 [167, 2, 184] 5 (by decide +kernel))
theorem dLa_law_580 : decode (mB mLa_law) 580 = .ok (.aload_n 1, 1) := op43 (gk_ch cLa_7 [43] 8 (by decide +kernel))
theorem dLa_law_581 : decode (mB mLa_law) 581 = .ok (.aload_n 0, 1) := op42 (gk_ch cLa_7 [42] 9 (by decide +kernel))
theorem dLa_law_582 : decode (mB mLa_law) 582 = .ok (.iload_n 3, 1) := op29 (gk_ch cLa_7 [29] 10 (by decide +kernel))
theorem dLa_law_583 : decode (mB mLa_law) 583 = .ok (.iconst 1, 1) := op4 (gk_ch cLa_7 [4] 11 (by decide +kernel))
theorem dLa_law_584 : decode (mB mLa_law) 584 = .ok (.iadd, 1) := op96 (gk_ch cLa_7 [96] 12 (by decide +kernel))
theorem dLa_law_585 : decode (mB mLa_law) 585 = .ok (.iaload, 1) := op46 (gk_ch cLa_7 [46] 13 (by decide +kernel))
theorem dLa_law_586 : decode (mB mLa_law) 586 = .ok (.aload_n 0, 1) := op42 (gk_ch cLa_7 [42] 14 (by decide +kernel))
theorem dLa_law_587 : decode (mB mLa_law) 587 = .ok (.iload_n 3, 1) := op29 (gk_ch cLa_7 [29] 15 (by decide +kernel))
theorem dLa_law_588 : decode (mB mLa_law) 588 = .ok (.iconst 2, 1) := op5 (gk_ch cLa_7 [5] 16 (by decide +kernel))
theorem dLa_law_589 : decode (mB mLa_law) 589 = .ok (.iadd, 1) := op96 (gk_ch cLa_7 [96] 17 (by decide +kernel))
theorem dLa_law_590 : decode (mB mLa_law) 590 = .ok (.iaload, 1) := op46 (gk_ch cLa_7 [46] 18 (by decide +kernel))
theorem dLa_law_591 : decode (mB mLa_law) 591 = .ok (.invokevirtual 76, 3) := op182 0 76 (gk_ch cLa_7 [182, 0, 76] 19 (by decide +kernel))
theorem dLa_law_594 : decode (mB mLa_law) 594 = .ok (.pop, 1) := op87 (gk_ch cLa_7 [87] 22 (by decide +kernel))
theorem dLa_law_595 : decode (mB mLa_law) 595 = .ok (.aload_n 2, 1) := op44 (gk_ch cLa_7 [44] 23 (by decide +kernel))
theorem dLa_law_596 : decode (mB mLa_law) 596 = .ok (.aload_n 0, 1) := op42 (gk_ch cLa_7 [42] 24 (by decide +kernel))
theorem dLa_law_597 : decode (mB mLa_law) 597 = .ok (.iload_n 3, 1) := op29 (gk_ch cLa_7 [29] 25 (by decide +kernel))
theorem dLa_law_598 : decode (mB mLa_law) 598 = .ok (.iconst 1, 1) := op4 (gk_ch cLa_7 [4] 26 (by decide +kernel))
theorem dLa_law_599 : decode (mB mLa_law) 599 = .ok (.iadd, 1) := op96 (gk_ch cLa_7 [96] 27 (by decide +kernel))
theorem dLa_law_600 : decode (mB mLa_law) 600 = .ok (.iaload, 1) := op46 (gk_ch cLa_7 [46] 28 (by decide +kernel))
theorem dLa_law_601 : decode (mB mLa_law) 601 = .ok (.aload_n 0, 1) := op42 (gk_ch cLa_7 [42] 29 (by decide +kernel))
theorem dLa_law_602 : decode (mB mLa_law) 602 = .ok (.iload_n 3, 1) := op29 (gk_ch cLa_7 [29] 30 (by decide +kernel))
theorem dLa_law_603 : decode (mB mLa_law) 603 = .ok (.iconst 2, 1) := op5 (gk_ch cLa_7 [5] 31 (by decide +kernel))
theorem dLa_law_604 : decode (mB mLa_law) 604 = .ok (.iadd, 1) := op96 (gk_ch cLa_7 [96] 32 (by decide +kernel))
theorem dLa_law_605 : decode (mB mLa_law) 605 = .ok (.iaload, 1) := op46 (gk_ch cLa_7 [46] 33 (by decide +kernel))
theorem dLa_law_606 : decode (mB mLa_law) 606 = .ok (.invokevirtual 79, 3) := op182 0 79 (gk_ch cLa_7 [182, 0, 79] 34 (by decide +kernel))
theorem dLa_law_609 : decode (mB mLa_law) 609 = .ok (.pop, 1) := op87 (gk_ch cLa_7 [87] 37 (by decide +kernel))
theorem dLa_law_610 : decode (mB mLa_law) 610 = .ok (.goto 663, 3) := op167 2 151 (gk_ch cLa_7 [167, 2, 151] 38 (by decide +kernel))
theorem dLa_law_613 : decode (mB mLa_law) 613 = .ok (.aload_n 1, 1) := op43 (gk_ch cLa_7 [43] 41 (by decide +kernel))
theorem dLa_law_614 : decode (mB mLa_law) 614 = .ok (.aload_n 0, 1) := op42 (gk_ch cLa_7 [42] 42 (by decide +kernel))
theorem dLa_law_615 : decode (mB mLa_law) 615 = .ok (.iload_n 3, 1) := op29 (gk_ch cLa_7 [29] 43 (by decide +kernel))
theorem dLa_law_616 : decode (mB mLa_law) 616 = .ok (.iconst 1, 1) := op4 (gk_ch cLa_7 [4] 44 (by decide +kernel))
theorem dLa_law_617 : decode (mB mLa_law) 617 = .ok (.iadd, 1) := op96 (gk_ch cLa_7 [96] 45 (by decide +kernel))
theorem dLa_law_618 : decode (mB mLa_law) 618 = .ok (.iaload, 1) := op46 (gk_ch cLa_7 [46] 46 (by decide +kernel))
theorem dLa_law_619 : decode (mB mLa_law) 619 = .ok (.aload_n 0, 1) := op42 (gk_ch cLa_7 [42] 47 (by decide +kernel))
theorem dLa_law_620 : decode (mB mLa_law) 620 = .ok (.iload_n 3, 1) := op29 (gk_ch cLa_7 [29] 48 (by decide +kernel))
theorem dLa_law_621 : decode (mB mLa_law) 621 = .ok (.iconst 2, 1) := op5 (gk_ch cLa_7 [5] 49 (by decide +kernel))
theorem dLa_law_622 : decode (mB mLa_law) 622 = .ok (.iadd, 1) := op96 (gk_ch cLa_7 [96] 50 (by decide +kernel))
theorem dLa_law_623 : decode (mB mLa_law) 623 = .ok (.iaload, 1) := op46 (gk_ch cLa_7 [46] 51 (by decide +kernel))
theorem dLa_law_624 : decode (mB mLa_law) 624 = .ok (.invokevirtual 80, 3) := op182 0 80 (gk_ch cLa_7 [182, 0, 80] 52 (by decide +kernel))
theorem dLa_law_627 : decode (mB mLa_law) 627 = .ok (.pop, 1) := op87 (gk_ch cLa_7 [87] 55 (by decide +kernel))
theorem dLa_law_628 : decode (mB mLa_law) 628 = .ok (.aload_n 2, 1) := op44 (gk_ch cLa_7 [44] 56 (by decide +kernel))
theorem dLa_law_629 : decode (mB mLa_law) 629 = .ok (.aload_n 0, 1) := op42 (gk_ch cLa_7 [42] 57 (by decide +kernel))
theorem dLa_law_630 : decode (mB mLa_law) 630 = .ok (.iload_n 3, 1) := op29 (gk_ch cLa_7 [29] 58 (by decide +kernel))
theorem dLa_law_631 : decode (mB mLa_law) 631 = .ok (.iconst 1, 1) := op4 (gk_ch cLa_7 [4] 59 (by decide +kernel))
theorem dLa_law_632 : decode (mB mLa_law) 632 = .ok (.iadd, 1) := op96 (gk_ch cLa_7 [96] 60 (by decide +kernel))
theorem dLa_law_633 : decode (mB mLa_law) 633 = .ok (.iaload, 1) := op46 (gk_ch cLa_7 [46] 61 (by decide +kernel))
theorem dLa_law_634 : decode (mB mLa_law) 634 = .ok (.aload_n 0, 1) := op42 (gk_ch cLa_7 [42] 62 (by decide +kernel))
theorem dLa_law_635 : decode (mB mLa_law) 635 = .ok (.iload_n 3, 1) := op29 (gk_ch cLa_7 [29] 63 (by decide +kernel))
theorem cLa_8 : (((mB mLa_law).data.toList.drop 636).take 64).map UInt8.toNat = [5, 96, 46, 182, 0, 83, 87, 167, 2, 118, 43, 42, 29, 4, 96, 46, 182, 0, 84, 88, 44, 42, 29, 4, 96, 46, 182, 0, 88, 88, 167, 2, 95, 43, 42, 29, 4, 96, 46, 182, 0, 89, 87, 44, 42, 29, 4, 96, 46, 182, 0, 92, 87, 167, 2, 72, 43, 42, 29, 4, 96, 46, 42, 29] := by decide +kernel
theorem dLa_law_636 : decode (mB mLa_law) 636 = .ok (.iconst 2, 1) := op5 (gk_ch cLa_8 [5] 0 (by decide +kernel))
theorem dLa_law_637 : decode (mB mLa_law) 637 = .ok (.iadd, 1) := op96 (gk_ch cLa_8 [96] 1 (by decide +kernel))
theorem dLa_law_638 : decode (mB mLa_law) 638 = .ok (.iaload, 1) := op46 (gk_ch cLa_8 [46] 2 (by decide +kernel))
theorem dLa_law_639 : decode (mB mLa_law) 639 = .ok (.invokevirtual 83, 3) := op182 0 83 (gk_ch cLa_8 [182, 0, 83] 3 (by decide +kernel))
theorem dLa_law_642 : decode (mB mLa_law) 642 = .ok (.pop, 1) := op87 (gk_ch cLa_8 [87] 6 (by decide +kernel))
theorem dLa_law_643 : decode (mB mLa_law) 643 = .ok (.goto 630, 3) := op167 2 118 (gk_ch cLa_8 [167, 2, 118] 7 (by decide +kernel))
theorem dLa_law_646 : decode (mB mLa_law) 646 = .ok (.aload_n 1, 1) := op43 (gk_ch cLa_8 [43] 10 (by decide +kernel))
theorem dLa_law_647 : decode (mB mLa_law) 647 = .ok (.aload_n 0, 1) := op42 (gk_ch cLa_8 [42] 11 (by decide +kernel))
theorem dLa_law_648 : decode (mB mLa_law) 648 = .ok (.iload_n 3, 1) := op29 (gk_ch cLa_8 [29] 12 (by decide +kernel))
theorem dLa_law_649 : decode (mB mLa_law) 649 = .ok (.iconst 1, 1) := op4 (gk_ch cLa_8 [4] 13 (by decide +kernel))
theorem dLa_law_650 : decode (mB mLa_law) 650 = .ok (.iadd, 1) := op96 (gk_ch cLa_8 [96] 14 (by decide +kernel))
theorem dLa_law_651 : decode (mB mLa_law) 651 = .ok (.iaload, 1) := op46 (gk_ch cLa_8 [46] 15 (by decide +kernel))
theorem dLa_law_652 : decode (mB mLa_law) 652 = .ok (.invokevirtual 84, 3) := op182 0 84 (gk_ch cLa_8 [182, 0, 84] 16 (by decide +kernel))
theorem dLa_law_655 : decode (mB mLa_law) 655 = .ok (.pop2, 1) := op88 (gk_ch cLa_8 [88] 19 (by decide +kernel))
theorem dLa_law_656 : decode (mB mLa_law) 656 = .ok (.aload_n 2, 1) := op44 (gk_ch cLa_8 [44] 20 (by decide +kernel))
theorem dLa_law_657 : decode (mB mLa_law) 657 = .ok (.aload_n 0, 1) := op42 (gk_ch cLa_8 [42] 21 (by decide +kernel))
theorem dLa_law_658 : decode (mB mLa_law) 658 = .ok (.iload_n 3, 1) := op29 (gk_ch cLa_8 [29] 22 (by decide +kernel))
theorem dLa_law_659 : decode (mB mLa_law) 659 = .ok (.iconst 1, 1) := op4 (gk_ch cLa_8 [4] 23 (by decide +kernel))
theorem dLa_law_660 : decode (mB mLa_law) 660 = .ok (.iadd, 1) := op96 (gk_ch cLa_8 [96] 24 (by decide +kernel))
theorem dLa_law_661 : decode (mB mLa_law) 661 = .ok (.iaload, 1) := op46 (gk_ch cLa_8 [46] 25 (by decide +kernel))
theorem dLa_law_662 : decode (mB mLa_law) 662 = .ok (.invokevirtual 88, 3) := op182 0 88 (gk_ch cLa_8 [182, 0, 88] 26 (by decide +kernel))
theorem dLa_law_665 : decode (mB mLa_law) 665 = .ok (.pop2, 1) := op88 (gk_ch cLa_8 [88] 29 (by decide +kernel))
theorem dLa_law_666 : decode (mB mLa_law) 666 = .ok (.goto 607, 3) := op167 2 95 (gk_ch cLa_8 [167, 2, 95] 30 (by decide +kernel))
theorem dLa_law_669 : decode (mB mLa_law) 669 = .ok (.aload_n 1, 1) := op43 (gk_ch cLa_8 [43] 33 (by decide +kernel))
theorem dLa_law_670 : decode (mB mLa_law) 670 = .ok (.aload_n 0, 1) := op42 (gk_ch cLa_8 [42] 34 (by decide +kernel))
theorem dLa_law_671 : decode (mB mLa_law) 671 = .ok (.iload_n 3, 1) := op29 (gk_ch cLa_8 [29] 35 (by decide +kernel))
theorem dLa_law_672 : decode (mB mLa_law) 672 = .ok (.iconst 1, 1) := op4 (gk_ch cLa_8 [4] 36 (by decide +kernel))
theorem dLa_law_673 : decode (mB mLa_law) 673 = .ok (.iadd, 1) := op96 (gk_ch cLa_8 [96] 37 (by decide +kernel))
theorem dLa_law_674 : decode (mB mLa_law) 674 = .ok (.iaload, 1) := op46 (gk_ch cLa_8 [46] 38 (by decide +kernel))
theorem dLa_law_675 : decode (mB mLa_law) 675 = .ok (.invokevirtual 89, 3) := op182 0 89 (gk_ch cLa_8 [182, 0, 89] 39 (by decide +kernel))
theorem dLa_law_678 : decode (mB mLa_law) 678 = .ok (.pop, 1) := op87 (gk_ch cLa_8 [87] 42 (by decide +kernel))
theorem dLa_law_679 : decode (mB mLa_law) 679 = .ok (.aload_n 2, 1) := op44 (gk_ch cLa_8 [44] 43 (by decide +kernel))
theorem dLa_law_680 : decode (mB mLa_law) 680 = .ok (.aload_n 0, 1) := op42 (gk_ch cLa_8 [42] 44 (by decide +kernel))
theorem dLa_law_681 : decode (mB mLa_law) 681 = .ok (.iload_n 3, 1) := op29 (gk_ch cLa_8 [29] 45 (by decide +kernel))
theorem dLa_law_682 : decode (mB mLa_law) 682 = .ok (.iconst 1, 1) := op4 (gk_ch cLa_8 [4] 46 (by decide +kernel))
theorem dLa_law_683 : decode (mB mLa_law) 683 = .ok (.iadd, 1) := op96 (gk_ch cLa_8 [96] 47 (by decide +kernel))
theorem dLa_law_684 : decode (mB mLa_law) 684 = .ok (.iaload, 1) := op46 (gk_ch cLa_8 [46] 48 (by decide +kernel))
theorem dLa_law_685 : decode (mB mLa_law) 685 = .ok (.invokevirtual 92, 3) := op182 0 92 (gk_ch cLa_8 [182, 0, 92] 49 (by decide +kernel))
theorem dLa_law_688 : decode (mB mLa_law) 688 = .ok (.pop, 1) := op87 (gk_ch cLa_8 [87] 52 (by decide +kernel))
theorem dLa_law_689 : decode (mB mLa_law) 689 = .ok (.goto 584, 3) := op167 2 72 (gk_ch cLa_8 [167, 2, 72] 53 (by decide +kernel))
theorem dLa_law_692 : decode (mB mLa_law) 692 = .ok (.aload_n 1, 1) := op43 (gk_ch cLa_8 [43] 56 (by decide +kernel))
theorem dLa_law_693 : decode (mB mLa_law) 693 = .ok (.aload_n 0, 1) := op42 (gk_ch cLa_8 [42] 57 (by decide +kernel))
theorem dLa_law_694 : decode (mB mLa_law) 694 = .ok (.iload_n 3, 1) := op29 (gk_ch cLa_8 [29] 58 (by decide +kernel))
theorem dLa_law_695 : decode (mB mLa_law) 695 = .ok (.iconst 1, 1) := op4 (gk_ch cLa_8 [4] 59 (by decide +kernel))
theorem dLa_law_696 : decode (mB mLa_law) 696 = .ok (.iadd, 1) := op96 (gk_ch cLa_8 [96] 60 (by decide +kernel))
theorem dLa_law_697 : decode (mB mLa_law) 697 = .ok (.iaload, 1) := op46 (gk_ch cLa_8 [46] 61 (by decide +kernel))
theorem dLa_law_698 : decode (mB mLa_law) 698 = .ok (.aload_n 0, 1) := op42 (gk_ch cLa_8 [42] 62 (by decide +kernel))
theorem dLa_law_699 : decode (mB mLa_law) 699 = .ok (.iload_n 3, 1) := op29 (gk_ch cLa_8 [29] 63 (by decide +kernel))
theorem cLa_9 : (((mB mLa_law).data.toList.drop 700).take 64).map UInt8.toNat = [5, 96, 46, 42, 29, 6, 96, 46, 42, 29, 7, 96, 46, 42, 29, 8, 96, 46, 182, 0, 93, 87, 44, 42, 29, 4, 96, 46, 42, 29, 5, 96, 46, 42, 29, 6, 96, 46, 42, 29, 7, 96, 46, 42, 29, 8, 96, 46, 182, 0, 97, 87, 167, 2, 9, 43, 42, 29, 4, 96, 46, 182, 0, 98] := by decide +kernel
theorem dLa_law_700 : decode (mB mLa_law) 700 = .ok (.iconst 2, 1) := op5 (gk_ch cLa_9 [5] 0 (by decide +kernel))
theorem dLa_law_701 : decode (mB mLa_law) 701 = .ok (.iadd, 1) := op96 (gk_ch cLa_9 [96] 1 (by decide +kernel))
theorem dLa_law_702 : decode (mB mLa_law) 702 = .ok (.iaload, 1) := op46 (gk_ch cLa_9 [46] 2 (by decide +kernel))
theorem dLa_law_703 : decode (mB mLa_law) 703 = .ok (.aload_n 0, 1) := op42 (gk_ch cLa_9 [42] 3 (by decide +kernel))
theorem dLa_law_704 : decode (mB mLa_law) 704 = .ok (.iload_n 3, 1) := op29 (gk_ch cLa_9 [29] 4 (by decide +kernel))
theorem dLa_law_705 : decode (mB mLa_law) 705 = .ok (.iconst 3, 1) := op6 (gk_ch cLa_9 [6] 5 (by decide +kernel))
theorem dLa_law_706 : decode (mB mLa_law) 706 = .ok (.iadd, 1) := op96 (gk_ch cLa_9 [96] 6 (by decide +kernel))
theorem dLa_law_707 : decode (mB mLa_law) 707 = .ok (.iaload, 1) := op46 (gk_ch cLa_9 [46] 7 (by decide +kernel))
theorem dLa_law_708 : decode (mB mLa_law) 708 = .ok (.aload_n 0, 1) := op42 (gk_ch cLa_9 [42] 8 (by decide +kernel))
theorem dLa_law_709 : decode (mB mLa_law) 709 = .ok (.iload_n 3, 1) := op29 (gk_ch cLa_9 [29] 9 (by decide +kernel))
theorem dLa_law_710 : decode (mB mLa_law) 710 = .ok (.iconst 4, 1) := op7 (gk_ch cLa_9 [7] 10 (by decide +kernel))
theorem dLa_law_711 : decode (mB mLa_law) 711 = .ok (.iadd, 1) := op96 (gk_ch cLa_9 [96] 11 (by decide +kernel))
theorem dLa_law_712 : decode (mB mLa_law) 712 = .ok (.iaload, 1) := op46 (gk_ch cLa_9 [46] 12 (by decide +kernel))
theorem dLa_law_713 : decode (mB mLa_law) 713 = .ok (.aload_n 0, 1) := op42 (gk_ch cLa_9 [42] 13 (by decide +kernel))
theorem dLa_law_714 : decode (mB mLa_law) 714 = .ok (.iload_n 3, 1) := op29 (gk_ch cLa_9 [29] 14 (by decide +kernel))
theorem dLa_law_715 : decode (mB mLa_law) 715 = .ok (.iconst 5, 1) := op8 (gk_ch cLa_9 [8] 15 (by decide +kernel))
theorem dLa_law_716 : decode (mB mLa_law) 716 = .ok (.iadd, 1) := op96 (gk_ch cLa_9 [96] 16 (by decide +kernel))
theorem dLa_law_717 : decode (mB mLa_law) 717 = .ok (.iaload, 1) := op46 (gk_ch cLa_9 [46] 17 (by decide +kernel))
theorem dLa_law_718 : decode (mB mLa_law) 718 = .ok (.invokevirtual 93, 3) := op182 0 93 (gk_ch cLa_9 [182, 0, 93] 18 (by decide +kernel))
theorem dLa_law_721 : decode (mB mLa_law) 721 = .ok (.pop, 1) := op87 (gk_ch cLa_9 [87] 21 (by decide +kernel))
theorem dLa_law_722 : decode (mB mLa_law) 722 = .ok (.aload_n 2, 1) := op44 (gk_ch cLa_9 [44] 22 (by decide +kernel))
theorem dLa_law_723 : decode (mB mLa_law) 723 = .ok (.aload_n 0, 1) := op42 (gk_ch cLa_9 [42] 23 (by decide +kernel))
theorem dLa_law_724 : decode (mB mLa_law) 724 = .ok (.iload_n 3, 1) := op29 (gk_ch cLa_9 [29] 24 (by decide +kernel))
theorem dLa_law_725 : decode (mB mLa_law) 725 = .ok (.iconst 1, 1) := op4 (gk_ch cLa_9 [4] 25 (by decide +kernel))
theorem dLa_law_726 : decode (mB mLa_law) 726 = .ok (.iadd, 1) := op96 (gk_ch cLa_9 [96] 26 (by decide +kernel))
theorem dLa_law_727 : decode (mB mLa_law) 727 = .ok (.iaload, 1) := op46 (gk_ch cLa_9 [46] 27 (by decide +kernel))
theorem dLa_law_728 : decode (mB mLa_law) 728 = .ok (.aload_n 0, 1) := op42 (gk_ch cLa_9 [42] 28 (by decide +kernel))
theorem dLa_law_729 : decode (mB mLa_law) 729 = .ok (.iload_n 3, 1) := op29 (gk_ch cLa_9 [29] 29 (by decide +kernel))
theorem dLa_law_730 : decode (mB mLa_law) 730 = .ok (.iconst 2, 1) := op5 (gk_ch cLa_9 [5] 30 (by decide +kernel))
theorem dLa_law_731 : decode (mB mLa_law) 731 = .ok (.iadd, 1) := op96 (gk_ch cLa_9 [96] 31 (by decide +kernel))
theorem dLa_law_732 : decode (mB mLa_law) 732 = .ok (.iaload, 1) := op46 (gk_ch cLa_9 [46] 32 (by decide +kernel))
theorem dLa_law_733 : decode (mB mLa_law) 733 = .ok (.aload_n 0, 1) := op42 (gk_ch cLa_9 [42] 33 (by decide +kernel))
theorem dLa_law_734 : decode (mB mLa_law) 734 = .ok (.iload_n 3, 1) := op29 (gk_ch cLa_9 [29] 34 (by decide +kernel))
theorem dLa_law_735 : decode (mB mLa_law) 735 = .ok (.iconst 3, 1) := op6 (gk_ch cLa_9 [6] 35 (by decide +kernel))
theorem dLa_law_736 : decode (mB mLa_law) 736 = .ok (.iadd, 1) := op96 (gk_ch cLa_9 [96] 36 (by decide +kernel))
theorem dLa_law_737 : decode (mB mLa_law) 737 = .ok (.iaload, 1) := op46 (gk_ch cLa_9 [46] 37 (by decide +kernel))
theorem dLa_law_738 : decode (mB mLa_law) 738 = .ok (.aload_n 0, 1) := op42 (gk_ch cLa_9 [42] 38 (by decide +kernel))
theorem dLa_law_739 : decode (mB mLa_law) 739 = .ok (.iload_n 3, 1) := op29 (gk_ch cLa_9 [29] 39 (by decide +kernel))
theorem dLa_law_740 : decode (mB mLa_law) 740 = .ok (.iconst 4, 1) := op7 (gk_ch cLa_9 [7] 40 (by decide +kernel))
theorem dLa_law_741 : decode (mB mLa_law) 741 = .ok (.iadd, 1) := op96 (gk_ch cLa_9 [96] 41 (by decide +kernel))
theorem dLa_law_742 : decode (mB mLa_law) 742 = .ok (.iaload, 1) := op46 (gk_ch cLa_9 [46] 42 (by decide +kernel))
theorem dLa_law_743 : decode (mB mLa_law) 743 = .ok (.aload_n 0, 1) := op42 (gk_ch cLa_9 [42] 43 (by decide +kernel))
theorem dLa_law_744 : decode (mB mLa_law) 744 = .ok (.iload_n 3, 1) := op29 (gk_ch cLa_9 [29] 44 (by decide +kernel))
theorem dLa_law_745 : decode (mB mLa_law) 745 = .ok (.iconst 5, 1) := op8 (gk_ch cLa_9 [8] 45 (by decide +kernel))
theorem dLa_law_746 : decode (mB mLa_law) 746 = .ok (.iadd, 1) := op96 (gk_ch cLa_9 [96] 46 (by decide +kernel))
theorem dLa_law_747 : decode (mB mLa_law) 747 = .ok (.iaload, 1) := op46 (gk_ch cLa_9 [46] 47 (by decide +kernel))
theorem dLa_law_748 : decode (mB mLa_law) 748 = .ok (.invokevirtual 97, 3) := op182 0 97 (gk_ch cLa_9 [182, 0, 97] 48 (by decide +kernel))
theorem dLa_law_751 : decode (mB mLa_law) 751 = .ok (.pop, 1) := op87 (gk_ch cLa_9 [87] 51 (by decide +kernel))
theorem dLa_law_752 : decode (mB mLa_law) 752 = .ok (.goto 521, 3) := op167 2 9 (gk_ch cLa_9 [167, 2, 9] 52 (by decide +kernel))
theorem dLa_law_755 : decode (mB mLa_law) 755 = .ok (.aload_n 1, 1) := op43 (gk_ch cLa_9 [43] 55 (by decide +kernel))
theorem dLa_law_756 : decode (mB mLa_law) 756 = .ok (.aload_n 0, 1) := op42 (gk_ch cLa_9 [42] 56 (by decide +kernel))
theorem dLa_law_757 : decode (mB mLa_law) 757 = .ok (.iload_n 3, 1) := op29 (gk_ch cLa_9 [29] 57 (by decide +kernel))
theorem dLa_law_758 : decode (mB mLa_law) 758 = .ok (.iconst 1, 1) := op4 (gk_ch cLa_9 [4] 58 (by decide +kernel))
theorem dLa_law_759 : decode (mB mLa_law) 759 = .ok (.iadd, 1) := op96 (gk_ch cLa_9 [96] 59 (by decide +kernel))
theorem dLa_law_760 : decode (mB mLa_law) 760 = .ok (.iaload, 1) := op46 (gk_ch cLa_9 [46] 60 (by decide +kernel))
theorem dLa_law_761 : decode (mB mLa_law) 761 = .ok (.invokevirtual 98, 3) := op182 0 98 (gk_ch cLa_9 [182, 0, 98] 61 (by decide +kernel))
theorem cLa_10 : (((mB mLa_law).data.toList.drop 764).take 63).map UInt8.toNat = [87, 44, 42, 29, 4, 96, 46, 182, 0, 101, 87, 167, 1, 242, 43, 42, 29, 4, 96, 46, 42, 29, 5, 96, 46, 42, 29, 6, 96, 46, 182, 0, 102, 87, 44, 42, 29, 4, 96, 46, 42, 29, 5, 96, 46, 42, 29, 6, 96, 46, 182, 0, 105, 87, 167, 1, 199, 43, 42, 29, 4, 96, 46] := by decide +kernel
theorem dLa_law_764 : decode (mB mLa_law) 764 = .ok (.pop, 1) := op87 (gk_ch cLa_10 [87] 0 (by decide +kernel))
theorem dLa_law_765 : decode (mB mLa_law) 765 = .ok (.aload_n 2, 1) := op44 (gk_ch cLa_10 [44] 1 (by decide +kernel))
theorem dLa_law_766 : decode (mB mLa_law) 766 = .ok (.aload_n 0, 1) := op42 (gk_ch cLa_10 [42] 2 (by decide +kernel))
theorem dLa_law_767 : decode (mB mLa_law) 767 = .ok (.iload_n 3, 1) := op29 (gk_ch cLa_10 [29] 3 (by decide +kernel))
theorem dLa_law_768 : decode (mB mLa_law) 768 = .ok (.iconst 1, 1) := op4 (gk_ch cLa_10 [4] 4 (by decide +kernel))
theorem dLa_law_769 : decode (mB mLa_law) 769 = .ok (.iadd, 1) := op96 (gk_ch cLa_10 [96] 5 (by decide +kernel))
theorem dLa_law_770 : decode (mB mLa_law) 770 = .ok (.iaload, 1) := op46 (gk_ch cLa_10 [46] 6 (by decide +kernel))
theorem dLa_law_771 : decode (mB mLa_law) 771 = .ok (.invokevirtual 101, 3) := op182 0 101 (gk_ch cLa_10 [182, 0, 101] 7 (by decide +kernel))
theorem dLa_law_774 : decode (mB mLa_law) 774 = .ok (.pop, 1) := op87 (gk_ch cLa_10 [87] 10 (by decide +kernel))
theorem dLa_law_775 : decode (mB mLa_law) 775 = .ok (.goto 498, 3) := op167 1 242 (gk_ch cLa_10 [167, 1, 242] 11 (by decide +kernel))
theorem dLa_law_778 : decode (mB mLa_law) 778 = .ok (.aload_n 1, 1) := op43 (gk_ch cLa_10 [43] 14 (by decide +kernel))
theorem dLa_law_779 : decode (mB mLa_law) 779 = .ok (.aload_n 0, 1) := op42 (gk_ch cLa_10 [42] 15 (by decide +kernel))
theorem dLa_law_780 : decode (mB mLa_law) 780 = .ok (.iload_n 3, 1) := op29 (gk_ch cLa_10 [29] 16 (by decide +kernel))
theorem dLa_law_781 : decode (mB mLa_law) 781 = .ok (.iconst 1, 1) := op4 (gk_ch cLa_10 [4] 17 (by decide +kernel))
theorem dLa_law_782 : decode (mB mLa_law) 782 = .ok (.iadd, 1) := op96 (gk_ch cLa_10 [96] 18 (by decide +kernel))
theorem dLa_law_783 : decode (mB mLa_law) 783 = .ok (.iaload, 1) := op46 (gk_ch cLa_10 [46] 19 (by decide +kernel))
theorem dLa_law_784 : decode (mB mLa_law) 784 = .ok (.aload_n 0, 1) := op42 (gk_ch cLa_10 [42] 20 (by decide +kernel))
theorem dLa_law_785 : decode (mB mLa_law) 785 = .ok (.iload_n 3, 1) := op29 (gk_ch cLa_10 [29] 21 (by decide +kernel))
theorem dLa_law_786 : decode (mB mLa_law) 786 = .ok (.iconst 2, 1) := op5 (gk_ch cLa_10 [5] 22 (by decide +kernel))
theorem dLa_law_787 : decode (mB mLa_law) 787 = .ok (.iadd, 1) := op96 (gk_ch cLa_10 [96] 23 (by decide +kernel))
theorem dLa_law_788 : decode (mB mLa_law) 788 = .ok (.iaload, 1) := op46 (gk_ch cLa_10 [46] 24 (by decide +kernel))
theorem dLa_law_789 : decode (mB mLa_law) 789 = .ok (.aload_n 0, 1) := op42 (gk_ch cLa_10 [42] 25 (by decide +kernel))
theorem dLa_law_790 : decode (mB mLa_law) 790 = .ok (.iload_n 3, 1) := op29 (gk_ch cLa_10 [29] 26 (by decide +kernel))
theorem dLa_law_791 : decode (mB mLa_law) 791 = .ok (.iconst 3, 1) := op6 (gk_ch cLa_10 [6] 27 (by decide +kernel))
theorem dLa_law_792 : decode (mB mLa_law) 792 = .ok (.iadd, 1) := op96 (gk_ch cLa_10 [96] 28 (by decide +kernel))
theorem dLa_law_793 : decode (mB mLa_law) 793 = .ok (.iaload, 1) := op46 (gk_ch cLa_10 [46] 29 (by decide +kernel))
theorem dLa_law_794 : decode (mB mLa_law) 794 = .ok (.invokevirtual 102, 3) := op182 0 102 (gk_ch cLa_10 [182, 0, 102] 30 (by decide +kernel))
theorem dLa_law_797 : decode (mB mLa_law) 797 = .ok (.pop, 1) := op87 (gk_ch cLa_10 [87] 33 (by decide +kernel))
theorem dLa_law_798 : decode (mB mLa_law) 798 = .ok (.aload_n 2, 1) := op44 (gk_ch cLa_10 [44] 34 (by decide +kernel))
theorem dLa_law_799 : decode (mB mLa_law) 799 = .ok (.aload_n 0, 1) := op42 (gk_ch cLa_10 [42] 35 (by decide +kernel))
theorem dLa_law_800 : decode (mB mLa_law) 800 = .ok (.iload_n 3, 1) := op29 (gk_ch cLa_10 [29] 36 (by decide +kernel))
theorem dLa_law_801 : decode (mB mLa_law) 801 = .ok (.iconst 1, 1) := op4 (gk_ch cLa_10 [4] 37 (by decide +kernel))
theorem dLa_law_802 : decode (mB mLa_law) 802 = .ok (.iadd, 1) := op96 (gk_ch cLa_10 [96] 38 (by decide +kernel))
theorem dLa_law_803 : decode (mB mLa_law) 803 = .ok (.iaload, 1) := op46 (gk_ch cLa_10 [46] 39 (by decide +kernel))
theorem dLa_law_804 : decode (mB mLa_law) 804 = .ok (.aload_n 0, 1) := op42 (gk_ch cLa_10 [42] 40 (by decide +kernel))
theorem dLa_law_805 : decode (mB mLa_law) 805 = .ok (.iload_n 3, 1) := op29 (gk_ch cLa_10 [29] 41 (by decide +kernel))
theorem dLa_law_806 : decode (mB mLa_law) 806 = .ok (.iconst 2, 1) := op5 (gk_ch cLa_10 [5] 42 (by decide +kernel))
theorem dLa_law_807 : decode (mB mLa_law) 807 = .ok (.iadd, 1) := op96 (gk_ch cLa_10 [96] 43 (by decide +kernel))
theorem dLa_law_808 : decode (mB mLa_law) 808 = .ok (.iaload, 1) := op46 (gk_ch cLa_10 [46] 44 (by decide +kernel))
theorem dLa_law_809 : decode (mB mLa_law) 809 = .ok (.aload_n 0, 1) := op42 (gk_ch cLa_10 [42] 45 (by decide +kernel))
theorem dLa_law_810 : decode (mB mLa_law) 810 = .ok (.iload_n 3, 1) := op29 (gk_ch cLa_10 [29] 46 (by decide +kernel))
theorem dLa_law_811 : decode (mB mLa_law) 811 = .ok (.iconst 3, 1) := op6 (gk_ch cLa_10 [6] 47 (by decide +kernel))
theorem dLa_law_812 : decode (mB mLa_law) 812 = .ok (.iadd, 1) := op96 (gk_ch cLa_10 [96] 48 (by decide +kernel))
theorem dLa_law_813 : decode (mB mLa_law) 813 = .ok (.iaload, 1) := op46 (gk_ch cLa_10 [46] 49 (by decide +kernel))
theorem dLa_law_814 : decode (mB mLa_law) 814 = .ok (.invokevirtual 105, 3) := op182 0 105 (gk_ch cLa_10 [182, 0, 105] 50 (by decide +kernel))
theorem dLa_law_817 : decode (mB mLa_law) 817 = .ok (.pop, 1) := op87 (gk_ch cLa_10 [87] 53 (by decide +kernel))
theorem dLa_law_818 : decode (mB mLa_law) 818 = .ok (.goto 455, 3) := op167 1 199 (gk_ch cLa_10 [167, 1, 199] 54 (by decide +kernel))
theorem dLa_law_821 : decode (mB mLa_law) 821 = .ok (.aload_n 1, 1) := op43 (gk_ch cLa_10 [43] 57 (by decide +kernel))
theorem dLa_law_822 : decode (mB mLa_law) 822 = .ok (.aload_n 0, 1) := op42 (gk_ch cLa_10 [42] 58 (by decide +kernel))
theorem dLa_law_823 : decode (mB mLa_law) 823 = .ok (.iload_n 3, 1) := op29 (gk_ch cLa_10 [29] 59 (by decide +kernel))
theorem dLa_law_824 : decode (mB mLa_law) 824 = .ok (.iconst 1, 1) := op4 (gk_ch cLa_10 [4] 60 (by decide +kernel))
theorem dLa_law_825 : decode (mB mLa_law) 825 = .ok (.iadd, 1) := op96 (gk_ch cLa_10 [96] 61 (by decide +kernel))
theorem dLa_law_826 : decode (mB mLa_law) 826 = .ok (.iaload, 1) := op46 (gk_ch cLa_10 [46] 62 (by decide +kernel))
theorem cLa_11 : (((mB mLa_law).data.toList.drop 827).take 64).map UInt8.toNat = [182, 0, 106, 87, 44, 42, 29, 4, 96, 46, 182, 0, 109, 87, 167, 1, 176, 43, 42, 29, 4, 96, 46, 42, 29, 5, 96, 46, 182, 0, 110, 87, 44, 42, 29, 4, 96, 46, 42, 29, 5, 96, 46, 182, 0, 113, 87, 167, 1, 143, 43, 42, 29, 4, 96, 46, 42, 29, 5, 96, 46, 42, 29, 6] := by decide +kernel
theorem dLa_law_827 : decode (mB mLa_law) 827 = .ok (.invokevirtual 106, 3) := op182 0 106 (gk_ch cLa_11 [182, 0, 106] 0 (by decide +kernel))
theorem dLa_law_830 : decode (mB mLa_law) 830 = .ok (.pop, 1) := op87 (gk_ch cLa_11 [87] 3 (by decide +kernel))
theorem dLa_law_831 : decode (mB mLa_law) 831 = .ok (.aload_n 2, 1) := op44 (gk_ch cLa_11 [44] 4 (by decide +kernel))
theorem dLa_law_832 : decode (mB mLa_law) 832 = .ok (.aload_n 0, 1) := op42 (gk_ch cLa_11 [42] 5 (by decide +kernel))
theorem dLa_law_833 : decode (mB mLa_law) 833 = .ok (.iload_n 3, 1) := op29 (gk_ch cLa_11 [29] 6 (by decide +kernel))
theorem dLa_law_834 : decode (mB mLa_law) 834 = .ok (.iconst 1, 1) := op4 (gk_ch cLa_11 [4] 7 (by decide +kernel))
theorem dLa_law_835 : decode (mB mLa_law) 835 = .ok (.iadd, 1) := op96 (gk_ch cLa_11 [96] 8 (by decide +kernel))
theorem dLa_law_836 : decode (mB mLa_law) 836 = .ok (.iaload, 1) := op46 (gk_ch cLa_11 [46] 9 (by decide +kernel))
theorem dLa_law_837 : decode (mB mLa_law) 837 = .ok (.invokevirtual 109, 3) := op182 0 109 (gk_ch cLa_11 [182, 0, 109] 10 (by decide +kernel))
theorem dLa_law_840 : decode (mB mLa_law) 840 = .ok (.pop, 1) := op87 (gk_ch cLa_11 [87] 13 (by decide +kernel))
theorem dLa_law_841 : decode (mB mLa_law) 841 = .ok (.goto 432, 3) := op167 1 176 (gk_ch cLa_11 [167, 1, 176] 14 (by decide +kernel))
theorem dLa_law_844 : decode (mB mLa_law) 844 = .ok (.aload_n 1, 1) := op43 (gk_ch cLa_11 [43] 17 (by decide +kernel))
theorem dLa_law_845 : decode (mB mLa_law) 845 = .ok (.aload_n 0, 1) := op42 (gk_ch cLa_11 [42] 18 (by decide +kernel))
theorem dLa_law_846 : decode (mB mLa_law) 846 = .ok (.iload_n 3, 1) := op29 (gk_ch cLa_11 [29] 19 (by decide +kernel))
theorem dLa_law_847 : decode (mB mLa_law) 847 = .ok (.iconst 1, 1) := op4 (gk_ch cLa_11 [4] 20 (by decide +kernel))
theorem dLa_law_848 : decode (mB mLa_law) 848 = .ok (.iadd, 1) := op96 (gk_ch cLa_11 [96] 21 (by decide +kernel))
theorem dLa_law_849 : decode (mB mLa_law) 849 = .ok (.iaload, 1) := op46 (gk_ch cLa_11 [46] 22 (by decide +kernel))
theorem dLa_law_850 : decode (mB mLa_law) 850 = .ok (.aload_n 0, 1) := op42 (gk_ch cLa_11 [42] 23 (by decide +kernel))
theorem dLa_law_851 : decode (mB mLa_law) 851 = .ok (.iload_n 3, 1) := op29 (gk_ch cLa_11 [29] 24 (by decide +kernel))
theorem dLa_law_852 : decode (mB mLa_law) 852 = .ok (.iconst 2, 1) := op5 (gk_ch cLa_11 [5] 25 (by decide +kernel))
theorem dLa_law_853 : decode (mB mLa_law) 853 = .ok (.iadd, 1) := op96 (gk_ch cLa_11 [96] 26 (by decide +kernel))
theorem dLa_law_854 : decode (mB mLa_law) 854 = .ok (.iaload, 1) := op46 (gk_ch cLa_11 [46] 27 (by decide +kernel))
theorem dLa_law_855 : decode (mB mLa_law) 855 = .ok (.invokevirtual 110, 3) := op182 0 110 (gk_ch cLa_11 [182, 0, 110] 28 (by decide +kernel))
theorem dLa_law_858 : decode (mB mLa_law) 858 = .ok (.pop, 1) := op87 (gk_ch cLa_11 [87] 31 (by decide +kernel))
theorem dLa_law_859 : decode (mB mLa_law) 859 = .ok (.aload_n 2, 1) := op44 (gk_ch cLa_11 [44] 32 (by decide +kernel))
theorem dLa_law_860 : decode (mB mLa_law) 860 = .ok (.aload_n 0, 1) := op42 (gk_ch cLa_11 [42] 33 (by decide +kernel))
theorem dLa_law_861 : decode (mB mLa_law) 861 = .ok (.iload_n 3, 1) := op29 (gk_ch cLa_11 [29] 34 (by decide +kernel))
theorem dLa_law_862 : decode (mB mLa_law) 862 = .ok (.iconst 1, 1) := op4 (gk_ch cLa_11 [4] 35 (by decide +kernel))
theorem dLa_law_863 : decode (mB mLa_law) 863 = .ok (.iadd, 1) := op96 (gk_ch cLa_11 [96] 36 (by decide +kernel))
theorem dLa_law_864 : decode (mB mLa_law) 864 = .ok (.iaload, 1) := op46 (gk_ch cLa_11 [46] 37 (by decide +kernel))
theorem dLa_law_865 : decode (mB mLa_law) 865 = .ok (.aload_n 0, 1) := op42 (gk_ch cLa_11 [42] 38 (by decide +kernel))
theorem dLa_law_866 : decode (mB mLa_law) 866 = .ok (.iload_n 3, 1) := op29 (gk_ch cLa_11 [29] 39 (by decide +kernel))
theorem dLa_law_867 : decode (mB mLa_law) 867 = .ok (.iconst 2, 1) := op5 (gk_ch cLa_11 [5] 40 (by decide +kernel))
theorem dLa_law_868 : decode (mB mLa_law) 868 = .ok (.iadd, 1) := op96 (gk_ch cLa_11 [96] 41 (by decide +kernel))
theorem dLa_law_869 : decode (mB mLa_law) 869 = .ok (.iaload, 1) := op46 (gk_ch cLa_11 [46] 42 (by decide +kernel))
theorem dLa_law_870 : decode (mB mLa_law) 870 = .ok (.invokevirtual 113, 3) := op182 0 113 (gk_ch cLa_11 [182, 0, 113] 43 (by decide +kernel))
theorem dLa_law_873 : decode (mB mLa_law) 873 = .ok (.pop, 1) := op87 (gk_ch cLa_11 [87] 46 (by decide +kernel))
theorem dLa_law_874 : decode (mB mLa_law) 874 = .ok (.goto 399, 3) := op167 1 143 (gk_ch cLa_11 [167, 1, 143] 47 (by decide +kernel))
theorem dLa_law_877 : decode (mB mLa_law) 877 = .ok (.aload_n 1, 1) := op43 (gk_ch cLa_11 [43] 50 (by decide +kernel))
theorem dLa_law_878 : decode (mB mLa_law) 878 = .ok (.aload_n 0, 1) := op42 (gk_ch cLa_11 [42] 51 (by decide +kernel))
theorem dLa_law_879 : decode (mB mLa_law) 879 = .ok (.iload_n 3, 1) := op29 (gk_ch cLa_11 [29] 52 (by decide +kernel))
theorem dLa_law_880 : decode (mB mLa_law) 880 = .ok (.iconst 1, 1) := op4 (gk_ch cLa_11 [4] 53 (by decide +kernel))
theorem dLa_law_881 : decode (mB mLa_law) 881 = .ok (.iadd, 1) := op96 (gk_ch cLa_11 [96] 54 (by decide +kernel))
theorem dLa_law_882 : decode (mB mLa_law) 882 = .ok (.iaload, 1) := op46 (gk_ch cLa_11 [46] 55 (by decide +kernel))
theorem dLa_law_883 : decode (mB mLa_law) 883 = .ok (.aload_n 0, 1) := op42 (gk_ch cLa_11 [42] 56 (by decide +kernel))
theorem dLa_law_884 : decode (mB mLa_law) 884 = .ok (.iload_n 3, 1) := op29 (gk_ch cLa_11 [29] 57 (by decide +kernel))
theorem dLa_law_885 : decode (mB mLa_law) 885 = .ok (.iconst 2, 1) := op5 (gk_ch cLa_11 [5] 58 (by decide +kernel))
theorem dLa_law_886 : decode (mB mLa_law) 886 = .ok (.iadd, 1) := op96 (gk_ch cLa_11 [96] 59 (by decide +kernel))
theorem dLa_law_887 : decode (mB mLa_law) 887 = .ok (.iaload, 1) := op46 (gk_ch cLa_11 [46] 60 (by decide +kernel))
theorem dLa_law_888 : decode (mB mLa_law) 888 = .ok (.aload_n 0, 1) := op42 (gk_ch cLa_11 [42] 61 (by decide +kernel))
theorem dLa_law_889 : decode (mB mLa_law) 889 = .ok (.iload_n 3, 1) := op29 (gk_ch cLa_11 [29] 62 (by decide +kernel))
theorem dLa_law_890 : decode (mB mLa_law) 890 = .ok (.iconst 3, 1) := op6 (gk_ch cLa_11 [6] 63 (by decide +kernel))
theorem cLa_12 : (((mB mLa_law).data.toList.drop 891).take 64).map UInt8.toNat = [96, 46, 182, 0, 114, 87, 44, 42, 29, 4, 96, 46, 42, 29, 5, 96, 46, 42, 29, 6, 96, 46, 182, 0, 117, 87, 167, 1, 100, 43, 42, 29, 4, 96, 46, 42, 29, 5, 96, 46, 42, 29, 6, 96, 46, 182, 0, 118, 87, 44, 42, 29, 4, 96, 46, 42, 29, 5, 96, 46, 42, 29, 6, 96] := by decide +kernel
theorem dLa_law_891 : decode (mB mLa_law) 891 = .ok (.iadd, 1) := op96 (gk_ch cLa_12 [96] 0 (by decide +kernel))
theorem dLa_law_892 : decode (mB mLa_law) 892 = .ok (.iaload, 1) := op46 (gk_ch cLa_12 [46] 1 (by decide +kernel))
theorem dLa_law_893 : decode (mB mLa_law) 893 = .ok (.invokevirtual 114, 3) := op182 0 114 (gk_ch cLa_12 [182, 0, 114] 2 (by decide +kernel))
theorem dLa_law_896 : decode (mB mLa_law) 896 = .ok (.pop, 1) := op87 (gk_ch cLa_12 [87] 5 (by decide +kernel))
theorem dLa_law_897 : decode (mB mLa_law) 897 = .ok (.aload_n 2, 1) := op44 (gk_ch cLa_12 [44] 6 (by decide +kernel))
theorem dLa_law_898 : decode (mB mLa_law) 898 = .ok (.aload_n 0, 1) := op42 (gk_ch cLa_12 [42] 7 (by decide +kernel))
theorem dLa_law_899 : decode (mB mLa_law) 899 = .ok (.iload_n 3, 1) := op29 (gk_ch cLa_12 [29] 8 (by decide +kernel))
theorem dLa_law_900 : decode (mB mLa_law) 900 = .ok (.iconst 1, 1) := op4 (gk_ch cLa_12 [4] 9 (by decide +kernel))
theorem dLa_law_901 : decode (mB mLa_law) 901 = .ok (.iadd, 1) := op96 (gk_ch cLa_12 [96] 10 (by decide +kernel))
theorem dLa_law_902 : decode (mB mLa_law) 902 = .ok (.iaload, 1) := op46 (gk_ch cLa_12 [46] 11 (by decide +kernel))
theorem dLa_law_903 : decode (mB mLa_law) 903 = .ok (.aload_n 0, 1) := op42 (gk_ch cLa_12 [42] 12 (by decide +kernel))
theorem dLa_law_904 : decode (mB mLa_law) 904 = .ok (.iload_n 3, 1) := op29 (gk_ch cLa_12 [29] 13 (by decide +kernel))
theorem dLa_law_905 : decode (mB mLa_law) 905 = .ok (.iconst 2, 1) := op5 (gk_ch cLa_12 [5] 14 (by decide +kernel))
theorem dLa_law_906 : decode (mB mLa_law) 906 = .ok (.iadd, 1) := op96 (gk_ch cLa_12 [96] 15 (by decide +kernel))
theorem dLa_law_907 : decode (mB mLa_law) 907 = .ok (.iaload, 1) := op46 (gk_ch cLa_12 [46] 16 (by decide +kernel))
theorem dLa_law_908 : decode (mB mLa_law) 908 = .ok (.aload_n 0, 1) := op42 (gk_ch cLa_12 [42] 17 (by decide +kernel))
theorem dLa_law_909 : decode (mB mLa_law) 909 = .ok (.iload_n 3, 1) := op29 (gk_ch cLa_12 [29] 18 (by decide +kernel))
theorem dLa_law_910 : decode (mB mLa_law) 910 = .ok (.iconst 3, 1) := op6 (gk_ch cLa_12 [6] 19 (by decide +kernel))
theorem dLa_law_911 : decode (mB mLa_law) 911 = .ok (.iadd, 1) := op96 (gk_ch cLa_12 [96] 20 (by decide +kernel))
theorem dLa_law_912 : decode (mB mLa_law) 912 = .ok (.iaload, 1) := op46 (gk_ch cLa_12 [46] 21 (by decide +kernel))
theorem dLa_law_913 : decode (mB mLa_law) 913 = .ok (.invokevirtual 117, 3) := op182 0 117 (gk_ch cLa_12 [182, 0, 117] 22 (by decide +kernel))
theorem dLa_law_916 : decode (mB mLa_law) 916 = .ok (.pop, 1) := op87 (gk_ch cLa_12 [87] 25 (by decide +kernel))
theorem dLa_law_917 : decode (mB mLa_law) 917 = .ok (.goto 356, 3) := op167 1 100 (gk_ch cLa_12 [167, 1, 100] 26 (by decide +kernel))
theorem dLa_law_920 : decode (mB mLa_law) 920 = .ok (.aload_n 1, 1) := op43 (gk_ch cLa_12 [43] 29 (by decide +kernel))
theorem dLa_law_921 : decode (mB mLa_law) 921 = .ok (.aload_n 0, 1) := op42 (gk_ch cLa_12 [42] 30 (by decide +kernel))
theorem dLa_law_922 : decode (mB mLa_law) 922 = .ok (.iload_n 3, 1) := op29 (gk_ch cLa_12 [29] 31 (by decide +kernel))
theorem dLa_law_923 : decode (mB mLa_law) 923 = .ok (.iconst 1, 1) := op4 (gk_ch cLa_12 [4] 32 (by decide +kernel))
theorem dLa_law_924 : decode (mB mLa_law) 924 = .ok (.iadd, 1) := op96 (gk_ch cLa_12 [96] 33 (by decide +kernel))
theorem dLa_law_925 : decode (mB mLa_law) 925 = .ok (.iaload, 1) := op46 (gk_ch cLa_12 [46] 34 (by decide +kernel))
theorem dLa_law_926 : decode (mB mLa_law) 926 = .ok (.aload_n 0, 1) := op42 (gk_ch cLa_12 [42] 35 (by decide +kernel))
theorem dLa_law_927 : decode (mB mLa_law) 927 = .ok (.iload_n 3, 1) := op29 (gk_ch cLa_12 [29] 36 (by decide +kernel))
theorem dLa_law_928 : decode (mB mLa_law) 928 = .ok (.iconst 2, 1) := op5 (gk_ch cLa_12 [5] 37 (by decide +kernel))
theorem dLa_law_929 : decode (mB mLa_law) 929 = .ok (.iadd, 1) := op96 (gk_ch cLa_12 [96] 38 (by decide +kernel))
theorem dLa_law_930 : decode (mB mLa_law) 930 = .ok (.iaload, 1) := op46 (gk_ch cLa_12 [46] 39 (by decide +kernel))
theorem dLa_law_931 : decode (mB mLa_law) 931 = .ok (.aload_n 0, 1) := op42 (gk_ch cLa_12 [42] 40 (by decide +kernel))
theorem dLa_law_932 : decode (mB mLa_law) 932 = .ok (.iload_n 3, 1) := op29 (gk_ch cLa_12 [29] 41 (by decide +kernel))
theorem dLa_law_933 : decode (mB mLa_law) 933 = .ok (.iconst 3, 1) := op6 (gk_ch cLa_12 [6] 42 (by decide +kernel))
theorem dLa_law_934 : decode (mB mLa_law) 934 = .ok (.iadd, 1) := op96 (gk_ch cLa_12 [96] 43 (by decide +kernel))
theorem dLa_law_935 : decode (mB mLa_law) 935 = .ok (.iaload, 1) := op46 (gk_ch cLa_12 [46] 44 (by decide +kernel))
theorem dLa_law_936 : decode (mB mLa_law) 936 = .ok (.invokevirtual 118, 3) := op182 0 118 (gk_ch cLa_12 [182, 0, 118] 45 (by decide +kernel))
theorem dLa_law_939 : decode (mB mLa_law) 939 = .ok (.pop, 1) := op87 (gk_ch cLa_12 [87] 48 (by decide +kernel))
theorem dLa_law_940 : decode (mB mLa_law) 940 = .ok (.aload_n 2, 1) := op44 (gk_ch cLa_12 [44] 49 (by decide +kernel))
theorem dLa_law_941 : decode (mB mLa_law) 941 = .ok (.aload_n 0, 1) := op42 (gk_ch cLa_12 [42] 50 (by decide +kernel))
theorem dLa_law_942 : decode (mB mLa_law) 942 = .ok (.iload_n 3, 1) := op29 (gk_ch cLa_12 [29] 51 (by decide +kernel))
theorem dLa_law_943 : decode (mB mLa_law) 943 = .ok (.iconst 1, 1) := op4 (gk_ch cLa_12 [4] 52 (by decide +kernel))
theorem dLa_law_944 : decode (mB mLa_law) 944 = .ok (.iadd, 1) := op96 (gk_ch cLa_12 [96] 53 (by decide +kernel))
theorem dLa_law_945 : decode (mB mLa_law) 945 = .ok (.iaload, 1) := op46 (gk_ch cLa_12 [46] 54 (by decide +kernel))
theorem dLa_law_946 : decode (mB mLa_law) 946 = .ok (.aload_n 0, 1) := op42 (gk_ch cLa_12 [42] 55 (by decide +kernel))
theorem dLa_law_947 : decode (mB mLa_law) 947 = .ok (.iload_n 3, 1) := op29 (gk_ch cLa_12 [29] 56 (by decide +kernel))
theorem dLa_law_948 : decode (mB mLa_law) 948 = .ok (.iconst 2, 1) := op5 (gk_ch cLa_12 [5] 57 (by decide +kernel))
theorem dLa_law_949 : decode (mB mLa_law) 949 = .ok (.iadd, 1) := op96 (gk_ch cLa_12 [96] 58 (by decide +kernel))
theorem dLa_law_950 : decode (mB mLa_law) 950 = .ok (.iaload, 1) := op46 (gk_ch cLa_12 [46] 59 (by decide +kernel))
theorem dLa_law_951 : decode (mB mLa_law) 951 = .ok (.aload_n 0, 1) := op42 (gk_ch cLa_12 [42] 60 (by decide +kernel))
theorem dLa_law_952 : decode (mB mLa_law) 952 = .ok (.iload_n 3, 1) := op29 (gk_ch cLa_12 [29] 61 (by decide +kernel))
theorem dLa_law_953 : decode (mB mLa_law) 953 = .ok (.iconst 3, 1) := op6 (gk_ch cLa_12 [6] 62 (by decide +kernel))
theorem dLa_law_954 : decode (mB mLa_law) 954 = .ok (.iadd, 1) := op96 (gk_ch cLa_12 [96] 63 (by decide +kernel))
theorem cLa_13 : (((mB mLa_law).data.toList.drop 955).take 64).map UInt8.toNat = [46, 182, 0, 121, 87, 167, 1, 57, 43, 42, 29, 4, 96, 46, 182, 0, 122, 44, 42, 29, 4, 96, 46, 182, 0, 125, 159, 1, 36, 3, 172, 43, 42, 29, 4, 96, 46, 42, 29, 5, 96, 46, 42, 29, 6, 96, 46, 182, 0, 126, 87, 44, 42, 29, 4, 96, 46, 42, 29, 5, 96, 46, 42, 29] := by decide +kernel
theorem dLa_law_955 : decode (mB mLa_law) 955 = .ok (.iaload, 1) := op46 (gk_ch cLa_13 [46] 0 (by decide +kernel))
theorem dLa_law_956 : decode (mB mLa_law) 956 = .ok (.invokevirtual 121, 3) := op182 0 121 (gk_ch cLa_13 [182, 0, 121] 1 (by decide +kernel))
theorem dLa_law_959 : decode (mB mLa_law) 959 = .ok (.pop, 1) := op87 (gk_ch cLa_13 [87] 4 (by decide +kernel))
theorem dLa_law_960 : decode (mB mLa_law) 960 = .ok (.goto 313, 3) := op167 1 57 (gk_ch cLa_13 [167, 1, 57] 5 (by decide +kernel))
theorem dLa_law_963 : decode (mB mLa_law) 963 = .ok (.aload_n 1, 1) := op43 (gk_ch cLa_13 [43] 8 (by decide +kernel))
theorem dLa_law_964 : decode (mB mLa_law) 964 = .ok (.aload_n 0, 1) := op42 (gk_ch cLa_13 [42] 9 (by decide +kernel))
theorem dLa_law_965 : decode (mB mLa_law) 965 = .ok (.iload_n 3, 1) := op29 (gk_ch cLa_13 [29] 10 (by decide +kernel))
theorem dLa_law_966 : decode (mB mLa_law) 966 = .ok (.iconst 1, 1) := op4 (gk_ch cLa_13 [4] 11 (by decide +kernel))
theorem dLa_law_967 : decode (mB mLa_law) 967 = .ok (.iadd, 1) := op96 (gk_ch cLa_13 [96] 12 (by decide +kernel))
theorem dLa_law_968 : decode (mB mLa_law) 968 = .ok (.iaload, 1) := op46 (gk_ch cLa_13 [46] 13 (by decide +kernel))
theorem dLa_law_969 : decode (mB mLa_law) 969 = .ok (.invokevirtual 122, 3) := op182 0 122 (gk_ch cLa_13 [182, 0, 122] 14 (by decide +kernel))
theorem dLa_law_972 : decode (mB mLa_law) 972 = .ok (.aload_n 2, 1) := op44 (gk_ch cLa_13 [44] 17 (by decide +kernel))
theorem dLa_law_973 : decode (mB mLa_law) 973 = .ok (.aload_n 0, 1) := op42 (gk_ch cLa_13 [42] 18 (by decide +kernel))
theorem dLa_law_974 : decode (mB mLa_law) 974 = .ok (.iload_n 3, 1) := op29 (gk_ch cLa_13 [29] 19 (by decide +kernel))
theorem dLa_law_975 : decode (mB mLa_law) 975 = .ok (.iconst 1, 1) := op4 (gk_ch cLa_13 [4] 20 (by decide +kernel))
theorem dLa_law_976 : decode (mB mLa_law) 976 = .ok (.iadd, 1) := op96 (gk_ch cLa_13 [96] 21 (by decide +kernel))
theorem dLa_law_977 : decode (mB mLa_law) 977 = .ok (.iaload, 1) := op46 (gk_ch cLa_13 [46] 22 (by decide +kernel))
theorem dLa_law_978 : decode (mB mLa_law) 978 = .ok (.invokevirtual 125, 3) := op182 0 125 (gk_ch cLa_13 [182, 0, 125] 23 (by decide +kernel))
theorem dLa_law_981 : decode (mB mLa_law) 981 = .ok (.if_icmp .eq 292, 3) := op159 1 36 (gk_ch cLa_13 [159, 1, 36] 26 (by decide +kernel))
theorem dLa_law_984 : decode (mB mLa_law) 984 = .ok (.iconst 0, 1) := op3 (gk_ch cLa_13 [3] 29 (by decide +kernel))
theorem dLa_law_985 : decode (mB mLa_law) 985 = .ok (.ireturn, 1) := op172 (gk_ch cLa_13 [172] 30 (by decide +kernel))
theorem dLa_law_986 : decode (mB mLa_law) 986 = .ok (.aload_n 1, 1) := op43 (gk_ch cLa_13 [43] 31 (by decide +kernel))
theorem dLa_law_987 : decode (mB mLa_law) 987 = .ok (.aload_n 0, 1) := op42 (gk_ch cLa_13 [42] 32 (by decide +kernel))
theorem dLa_law_988 : decode (mB mLa_law) 988 = .ok (.iload_n 3, 1) := op29 (gk_ch cLa_13 [29] 33 (by decide +kernel))
theorem dLa_law_989 : decode (mB mLa_law) 989 = .ok (.iconst 1, 1) := op4 (gk_ch cLa_13 [4] 34 (by decide +kernel))
theorem dLa_law_990 : decode (mB mLa_law) 990 = .ok (.iadd, 1) := op96 (gk_ch cLa_13 [96] 35 (by decide +kernel))
theorem dLa_law_991 : decode (mB mLa_law) 991 = .ok (.iaload, 1) := op46 (gk_ch cLa_13 [46] 36 (by decide +kernel))
theorem dLa_law_992 : decode (mB mLa_law) 992 = .ok (.aload_n 0, 1) := op42 (gk_ch cLa_13 [42] 37 (by decide +kernel))
theorem dLa_law_993 : decode (mB mLa_law) 993 = .ok (.iload_n 3, 1) := op29 (gk_ch cLa_13 [29] 38 (by decide +kernel))
theorem dLa_law_994 : decode (mB mLa_law) 994 = .ok (.iconst 2, 1) := op5 (gk_ch cLa_13 [5] 39 (by decide +kernel))
theorem dLa_law_995 : decode (mB mLa_law) 995 = .ok (.iadd, 1) := op96 (gk_ch cLa_13 [96] 40 (by decide +kernel))
theorem dLa_law_996 : decode (mB mLa_law) 996 = .ok (.iaload, 1) := op46 (gk_ch cLa_13 [46] 41 (by decide +kernel))
theorem dLa_law_997 : decode (mB mLa_law) 997 = .ok (.aload_n 0, 1) := op42 (gk_ch cLa_13 [42] 42 (by decide +kernel))
theorem dLa_law_998 : decode (mB mLa_law) 998 = .ok (.iload_n 3, 1) := op29 (gk_ch cLa_13 [29] 43 (by decide +kernel))
theorem dLa_law_999 : decode (mB mLa_law) 999 = .ok (.iconst 3, 1) := op6 (gk_ch cLa_13 [6] 44 (by decide +kernel))
theorem dLa_law_1000 : decode (mB mLa_law) 1000 = .ok (.iadd, 1) := op96 (gk_ch cLa_13 [96] 45 (by decide +kernel))
theorem dLa_law_1001 : decode (mB mLa_law) 1001 = .ok (.iaload, 1) := op46 (gk_ch cLa_13 [46] 46 (by decide +kernel))
theorem dLa_law_1002 : decode (mB mLa_law) 1002 = .ok (.invokevirtual 126, 3) := op182 0 126 (gk_ch cLa_13 [182, 0, 126] 47 (by decide +kernel))
theorem dLa_law_1005 : decode (mB mLa_law) 1005 = .ok (.pop, 1) := op87 (gk_ch cLa_13 [87] 50 (by decide +kernel))
theorem dLa_law_1006 : decode (mB mLa_law) 1006 = .ok (.aload_n 2, 1) := op44 (gk_ch cLa_13 [44] 51 (by decide +kernel))
theorem dLa_law_1007 : decode (mB mLa_law) 1007 = .ok (.aload_n 0, 1) := op42 (gk_ch cLa_13 [42] 52 (by decide +kernel))
theorem dLa_law_1008 : decode (mB mLa_law) 1008 = .ok (.iload_n 3, 1) := op29 (gk_ch cLa_13 [29] 53 (by decide +kernel))
theorem dLa_law_1009 : decode (mB mLa_law) 1009 = .ok (.iconst 1, 1) := op4 (gk_ch cLa_13 [4] 54 (by decide +kernel))
theorem dLa_law_1010 : decode (mB mLa_law) 1010 = .ok (.iadd, 1) := op96 (gk_ch cLa_13 [96] 55 (by decide +kernel))
theorem dLa_law_1011 : decode (mB mLa_law) 1011 = .ok (.iaload, 1) := op46 (gk_ch cLa_13 [46] 56 (by decide +kernel))
theorem dLa_law_1012 : decode (mB mLa_law) 1012 = .ok (.aload_n 0, 1) := op42 (gk_ch cLa_13 [42] 57 (by decide +kernel))
theorem dLa_law_1013 : decode (mB mLa_law) 1013 = .ok (.iload_n 3, 1) := op29 (gk_ch cLa_13 [29] 58 (by decide +kernel))
theorem dLa_law_1014 : decode (mB mLa_law) 1014 = .ok (.iconst 2, 1) := op5 (gk_ch cLa_13 [5] 59 (by decide +kernel))
theorem dLa_law_1015 : decode (mB mLa_law) 1015 = .ok (.iadd, 1) := op96 (gk_ch cLa_13 [96] 60 (by decide +kernel))
theorem dLa_law_1016 : decode (mB mLa_law) 1016 = .ok (.iaload, 1) := op46 (gk_ch cLa_13 [46] 61 (by decide +kernel))
theorem dLa_law_1017 : decode (mB mLa_law) 1017 = .ok (.aload_n 0, 1) := op42 (gk_ch cLa_13 [42] 62 (by decide +kernel))
theorem dLa_law_1018 : decode (mB mLa_law) 1018 = .ok (.iload_n 3, 1) := op29 (gk_ch cLa_13 [29] 63 (by decide +kernel))
theorem cLa_14 : (((mB mLa_law).data.toList.drop 1019).take 64).map UInt8.toNat = [6, 96, 46, 182, 0, 129, 87, 167, 0, 247, 43, 182, 0, 130, 87, 44, 182, 0, 133, 87, 167, 0, 234, 43, 182, 0, 134, 87, 44, 182, 0, 137, 87, 167, 0, 221, 43, 42, 29, 4, 96, 46, 182, 0, 138, 87, 44, 42, 29, 4, 96, 46, 182, 0, 141, 87, 167, 0, 198, 43, 42, 29, 4, 96] := by decide +kernel
theorem dLa_law_1019 : decode (mB mLa_law) 1019 = .ok (.iconst 3, 1) := op6 (gk_ch cLa_14 [6] 0 (by decide +kernel))
theorem dLa_law_1020 : decode (mB mLa_law) 1020 = .ok (.iadd, 1) := op96 (gk_ch cLa_14 [96] 1 (by decide +kernel))
theorem dLa_law_1021 : decode (mB mLa_law) 1021 = .ok (.iaload, 1) := op46 (gk_ch cLa_14 [46] 2 (by decide +kernel))
theorem dLa_law_1022 : decode (mB mLa_law) 1022 = .ok (.invokevirtual 129, 3) := op182 0 129 (gk_ch cLa_14 [182, 0, 129] 3 (by decide +kernel))
theorem dLa_law_1025 : decode (mB mLa_law) 1025 = .ok (.pop, 1) := op87 (gk_ch cLa_14 [87] 6 (by decide +kernel))
theorem dLa_law_1026 : decode (mB mLa_law) 1026 = .ok (.goto 247, 3) := op167 0 247 (gk_ch cLa_14 [167, 0, 247] 7 (by decide +kernel))
theorem dLa_law_1029 : decode (mB mLa_law) 1029 = .ok (.aload_n 1, 1) := op43 (gk_ch cLa_14 [43] 10 (by decide +kernel))
theorem dLa_law_1030 : decode (mB mLa_law) 1030 = .ok (.invokevirtual 130, 3) := op182 0 130 (gk_ch cLa_14 [182, 0, 130] 11 (by decide +kernel))
theorem dLa_law_1033 : decode (mB mLa_law) 1033 = .ok (.pop, 1) := op87 (gk_ch cLa_14 [87] 14 (by decide +kernel))
theorem dLa_law_1034 : decode (mB mLa_law) 1034 = .ok (.aload_n 2, 1) := op44 (gk_ch cLa_14 [44] 15 (by decide +kernel))
theorem dLa_law_1035 : decode (mB mLa_law) 1035 = .ok (.invokevirtual 133, 3) := op182 0 133 (gk_ch cLa_14 [182, 0, 133] 16 (by decide +kernel))
theorem dLa_law_1038 : decode (mB mLa_law) 1038 = .ok (.pop, 1) := op87 (gk_ch cLa_14 [87] 19 (by decide +kernel))
theorem dLa_law_1039 : decode (mB mLa_law) 1039 = .ok (.goto 234, 3) := op167 0 234 (gk_ch cLa_14 [167, 0, 234] 20 (by decide +kernel))
theorem dLa_law_1042 : decode (mB mLa_law) 1042 = .ok (.aload_n 1, 1) := op43 (gk_ch cLa_14 [43] 23 (by decide +kernel))
theorem dLa_law_1043 : decode (mB mLa_law) 1043 = .ok (.invokevirtual 134, 3) := op182 0 134 (gk_ch cLa_14 [182, 0, 134] 24 (by decide +kernel))
theorem dLa_law_1046 : decode (mB mLa_law) 1046 = .ok (.pop, 1) := op87 (gk_ch cLa_14 [87] 27 (by decide +kernel))
theorem dLa_law_1047 : decode (mB mLa_law) 1047 = .ok (.aload_n 2, 1) := op44 (gk_ch cLa_14 [44] 28 (by decide +kernel))
theorem dLa_law_1048 : decode (mB mLa_law) 1048 = .ok (.invokevirtual 137, 3) := op182 0 137 (gk_ch cLa_14 [182, 0, 137] 29 (by decide +kernel))
theorem dLa_law_1051 : decode (mB mLa_law) 1051 = .ok (.pop, 1) := op87 (gk_ch cLa_14 [87] 32 (by decide +kernel))
theorem dLa_law_1052 : decode (mB mLa_law) 1052 = .ok (.goto 221, 3) := op167 0 221 (gk_ch cLa_14 [167, 0, 221] 33 (by decide +kernel))
theorem dLa_law_1055 : decode (mB mLa_law) 1055 = .ok (.aload_n 1, 1) := op43 (gk_ch cLa_14 [43] 36 (by decide +kernel))
theorem dLa_law_1056 : decode (mB mLa_law) 1056 = .ok (.aload_n 0, 1) := op42 (gk_ch cLa_14 [42] 37 (by decide +kernel))
theorem dLa_law_1057 : decode (mB mLa_law) 1057 = .ok (.iload_n 3, 1) := op29 (gk_ch cLa_14 [29] 38 (by decide +kernel))
theorem dLa_law_1058 : decode (mB mLa_law) 1058 = .ok (.iconst 1, 1) := op4 (gk_ch cLa_14 [4] 39 (by decide +kernel))
theorem dLa_law_1059 : decode (mB mLa_law) 1059 = .ok (.iadd, 1) := op96 (gk_ch cLa_14 [96] 40 (by decide +kernel))
theorem dLa_law_1060 : decode (mB mLa_law) 1060 = .ok (.iaload, 1) := op46 (gk_ch cLa_14 [46] 41 (by decide +kernel))
theorem dLa_law_1061 : decode (mB mLa_law) 1061 = .ok (.invokevirtual 138, 3) := op182 0 138 (gk_ch cLa_14 [182, 0, 138] 42 (by decide +kernel))
theorem dLa_law_1064 : decode (mB mLa_law) 1064 = .ok (.pop, 1) := op87 (gk_ch cLa_14 [87] 45 (by decide +kernel))
theorem dLa_law_1065 : decode (mB mLa_law) 1065 = .ok (.aload_n 2, 1) := op44 (gk_ch cLa_14 [44] 46 (by decide +kernel))
theorem dLa_law_1066 : decode (mB mLa_law) 1066 = .ok (.aload_n 0, 1) := op42 (gk_ch cLa_14 [42] 47 (by decide +kernel))
theorem dLa_law_1067 : decode (mB mLa_law) 1067 = .ok (.iload_n 3, 1) := op29 (gk_ch cLa_14 [29] 48 (by decide +kernel))
theorem dLa_law_1068 : decode (mB mLa_law) 1068 = .ok (.iconst 1, 1) := op4 (gk_ch cLa_14 [4] 49 (by decide +kernel))
theorem dLa_law_1069 : decode (mB mLa_law) 1069 = .ok (.iadd, 1) := op96 (gk_ch cLa_14 [96] 50 (by decide +kernel))
theorem dLa_law_1070 : decode (mB mLa_law) 1070 = .ok (.iaload, 1) := op46 (gk_ch cLa_14 [46] 51 (by decide +kernel))
theorem dLa_law_1071 : decode (mB mLa_law) 1071 = .ok (.invokevirtual 141, 3) := op182 0 141 (gk_ch cLa_14 [182, 0, 141] 52 (by decide +kernel))
theorem dLa_law_1074 : decode (mB mLa_law) 1074 = .ok (.pop, 1) := op87 (gk_ch cLa_14 [87] 55 (by decide +kernel))
theorem dLa_law_1075 : decode (mB mLa_law) 1075 = .ok (.goto 198, 3) := op167 0 198 (gk_ch cLa_14 [167, 0, 198] 56 (by decide +kernel))
theorem dLa_law_1078 : decode (mB mLa_law) 1078 = .ok (.aload_n 1, 1) := op43 (gk_ch cLa_14 [43] 59 (by decide +kernel))
theorem dLa_law_1079 : decode (mB mLa_law) 1079 = .ok (.aload_n 0, 1) := op42 (gk_ch cLa_14 [42] 60 (by decide +kernel))
theorem dLa_law_1080 : decode (mB mLa_law) 1080 = .ok (.iload_n 3, 1) := op29 (gk_ch cLa_14 [29] 61 (by decide +kernel))
theorem dLa_law_1081 : decode (mB mLa_law) 1081 = .ok (.iconst 1, 1) := op4 (gk_ch cLa_14 [4] 62 (by decide +kernel))
theorem dLa_law_1082 : decode (mB mLa_law) 1082 = .ok (.iadd, 1) := op96 (gk_ch cLa_14 [96] 63 (by decide +kernel))
theorem cLa_15 : (((mB mLa_law).data.toList.drop 1083).take 64).map UInt8.toNat = [46, 182, 0, 142, 87, 44, 42, 29, 4, 96, 46, 182, 0, 145, 87, 167, 0, 175, 43, 42, 29, 4, 96, 46, 42, 29, 5, 96, 46, 42, 29, 6, 96, 46, 182, 0, 146, 87, 44, 42, 29, 4, 96, 46, 42, 29, 5, 96, 46, 42, 29, 6, 96, 46, 182, 0, 149, 87, 167, 0, 132, 43, 42, 29] := by decide +kernel
theorem dLa_law_1083 : decode (mB mLa_law) 1083 = .ok (.iaload, 1) := op46 (gk_ch cLa_15 [46] 0 (by decide +kernel))
theorem dLa_law_1084 : decode (mB mLa_law) 1084 = .ok (.invokevirtual 142, 3) := op182 0 142 (gk_ch cLa_15 [182, 0, 142] 1 (by decide +kernel))
theorem dLa_law_1087 : decode (mB mLa_law) 1087 = .ok (.pop, 1) := op87 (gk_ch cLa_15 [87] 4 (by decide +kernel))
theorem dLa_law_1088 : decode (mB mLa_law) 1088 = .ok (.aload_n 2, 1) := op44 (gk_ch cLa_15 [44] 5 (by decide +kernel))
theorem dLa_law_1089 : decode (mB mLa_law) 1089 = .ok (.aload_n 0, 1) := op42 (gk_ch cLa_15 [42] 6 (by decide +kernel))
theorem dLa_law_1090 : decode (mB mLa_law) 1090 = .ok (.iload_n 3, 1) := op29 (gk_ch cLa_15 [29] 7 (by decide +kernel))
theorem dLa_law_1091 : decode (mB mLa_law) 1091 = .ok (.iconst 1, 1) := op4 (gk_ch cLa_15 [4] 8 (by decide +kernel))
theorem dLa_law_1092 : decode (mB mLa_law) 1092 = .ok (.iadd, 1) := op96 (gk_ch cLa_15 [96] 9 (by decide +kernel))
theorem dLa_law_1093 : decode (mB mLa_law) 1093 = .ok (.iaload, 1) := op46 (gk_ch cLa_15 [46] 10 (by decide +kernel))
theorem dLa_law_1094 : decode (mB mLa_law) 1094 = .ok (.invokevirtual 145, 3) := op182 0 145 (gk_ch cLa_15 [182, 0, 145] 11 (by decide +kernel))
theorem dLa_law_1097 : decode (mB mLa_law) 1097 = .ok (.pop, 1) := op87 (gk_ch cLa_15 [87] 14 (by decide +kernel))
theorem dLa_law_1098 : decode (mB mLa_law) 1098 = .ok (.goto 175, 3) := op167 0 175 (gk_ch cLa_15 [167, 0, 175] 15 (by decide +kernel))
theorem dLa_law_1101 : decode (mB mLa_law) 1101 = .ok (.aload_n 1, 1) := op43 (gk_ch cLa_15 [43] 18 (by decide +kernel))
theorem dLa_law_1102 : decode (mB mLa_law) 1102 = .ok (.aload_n 0, 1) := op42 (gk_ch cLa_15 [42] 19 (by decide +kernel))
theorem dLa_law_1103 : decode (mB mLa_law) 1103 = .ok (.iload_n 3, 1) := op29 (gk_ch cLa_15 [29] 20 (by decide +kernel))
theorem dLa_law_1104 : decode (mB mLa_law) 1104 = .ok (.iconst 1, 1) := op4 (gk_ch cLa_15 [4] 21 (by decide +kernel))
theorem dLa_law_1105 : decode (mB mLa_law) 1105 = .ok (.iadd, 1) := op96 (gk_ch cLa_15 [96] 22 (by decide +kernel))
theorem dLa_law_1106 : decode (mB mLa_law) 1106 = .ok (.iaload, 1) := op46 (gk_ch cLa_15 [46] 23 (by decide +kernel))
theorem dLa_law_1107 : decode (mB mLa_law) 1107 = .ok (.aload_n 0, 1) := op42 (gk_ch cLa_15 [42] 24 (by decide +kernel))
theorem dLa_law_1108 : decode (mB mLa_law) 1108 = .ok (.iload_n 3, 1) := op29 (gk_ch cLa_15 [29] 25 (by decide +kernel))
theorem dLa_law_1109 : decode (mB mLa_law) 1109 = .ok (.iconst 2, 1) := op5 (gk_ch cLa_15 [5] 26 (by decide +kernel))
theorem dLa_law_1110 : decode (mB mLa_law) 1110 = .ok (.iadd, 1) := op96 (gk_ch cLa_15 [96] 27 (by decide +kernel))
theorem dLa_law_1111 : decode (mB mLa_law) 1111 = .ok (.iaload, 1) := op46 (gk_ch cLa_15 [46] 28 (by decide +kernel))
theorem dLa_law_1112 : decode (mB mLa_law) 1112 = .ok (.aload_n 0, 1) := op42 (gk_ch cLa_15 [42] 29 (by decide +kernel))
theorem dLa_law_1113 : decode (mB mLa_law) 1113 = .ok (.iload_n 3, 1) := op29 (gk_ch cLa_15 [29] 30 (by decide +kernel))
theorem dLa_law_1114 : decode (mB mLa_law) 1114 = .ok (.iconst 3, 1) := op6 (gk_ch cLa_15 [6] 31 (by decide +kernel))
theorem dLa_law_1115 : decode (mB mLa_law) 1115 = .ok (.iadd, 1) := op96 (gk_ch cLa_15 [96] 32 (by decide +kernel))
theorem dLa_law_1116 : decode (mB mLa_law) 1116 = .ok (.iaload, 1) := op46 (gk_ch cLa_15 [46] 33 (by decide +kernel))
theorem dLa_law_1117 : decode (mB mLa_law) 1117 = .ok (.invokevirtual 146, 3) := op182 0 146 (gk_ch cLa_15 [182, 0, 146] 34 (by decide +kernel))
theorem dLa_law_1120 : decode (mB mLa_law) 1120 = .ok (.pop, 1) := op87 (gk_ch cLa_15 [87] 37 (by decide +kernel))
theorem dLa_law_1121 : decode (mB mLa_law) 1121 = .ok (.aload_n 2, 1) := op44 (gk_ch cLa_15 [44] 38 (by decide +kernel))
theorem dLa_law_1122 : decode (mB mLa_law) 1122 = .ok (.aload_n 0, 1) := op42 (gk_ch cLa_15 [42] 39 (by decide +kernel))
theorem dLa_law_1123 : decode (mB mLa_law) 1123 = .ok (.iload_n 3, 1) := op29 (gk_ch cLa_15 [29] 40 (by decide +kernel))
theorem dLa_law_1124 : decode (mB mLa_law) 1124 = .ok (.iconst 1, 1) := op4 (gk_ch cLa_15 [4] 41 (by decide +kernel))
theorem dLa_law_1125 : decode (mB mLa_law) 1125 = .ok (.iadd, 1) := op96 (gk_ch cLa_15 [96] 42 (by decide +kernel))
theorem dLa_law_1126 : decode (mB mLa_law) 1126 = .ok (.iaload, 1) := op46 (gk_ch cLa_15 [46] 43 (by decide +kernel))
theorem dLa_law_1127 : decode (mB mLa_law) 1127 = .ok (.aload_n 0, 1) := op42 (gk_ch cLa_15 [42] 44 (by decide +kernel))
theorem dLa_law_1128 : decode (mB mLa_law) 1128 = .ok (.iload_n 3, 1) := op29 (gk_ch cLa_15 [29] 45 (by decide +kernel))
theorem dLa_law_1129 : decode (mB mLa_law) 1129 = .ok (.iconst 2, 1) := op5 (gk_ch cLa_15 [5] 46 (by decide +kernel))
theorem dLa_law_1130 : decode (mB mLa_law) 1130 = .ok (.iadd, 1) := op96 (gk_ch cLa_15 [96] 47 (by decide +kernel))
theorem dLa_law_1131 : decode (mB mLa_law) 1131 = .ok (.iaload, 1) := op46 (gk_ch cLa_15 [46] 48 (by decide +kernel))
theorem dLa_law_1132 : decode (mB mLa_law) 1132 = .ok (.aload_n 0, 1) := op42 (gk_ch cLa_15 [42] 49 (by decide +kernel))
theorem dLa_law_1133 : decode (mB mLa_law) 1133 = .ok (.iload_n 3, 1) := op29 (gk_ch cLa_15 [29] 50 (by decide +kernel))
theorem dLa_law_1134 : decode (mB mLa_law) 1134 = .ok (.iconst 3, 1) := op6 (gk_ch cLa_15 [6] 51 (by decide +kernel))
theorem dLa_law_1135 : decode (mB mLa_law) 1135 = .ok (.iadd, 1) := op96 (gk_ch cLa_15 [96] 52 (by decide +kernel))
theorem dLa_law_1136 : decode (mB mLa_law) 1136 = .ok (.iaload, 1) := op46 (gk_ch cLa_15 [46] 53 (by decide +kernel))
theorem dLa_law_1137 : decode (mB mLa_law) 1137 = .ok (.invokevirtual 149, 3) := op182 0 149 (gk_ch cLa_15 [182, 0, 149] 54 (by decide +kernel))
theorem dLa_law_1140 : decode (mB mLa_law) 1140 = .ok (.pop, 1) := op87 (gk_ch cLa_15 [87] 57 (by decide +kernel))
theorem dLa_law_1141 : decode (mB mLa_law) 1141 = .ok (.goto 132, 3) := op167 0 132 (gk_ch cLa_15 [167, 0, 132] 58 (by decide +kernel))
theorem dLa_law_1144 : decode (mB mLa_law) 1144 = .ok (.aload_n 1, 1) := op43 (gk_ch cLa_15 [43] 61 (by decide +kernel))
theorem dLa_law_1145 : decode (mB mLa_law) 1145 = .ok (.aload_n 0, 1) := op42 (gk_ch cLa_15 [42] 62 (by decide +kernel))
theorem dLa_law_1146 : decode (mB mLa_law) 1146 = .ok (.iload_n 3, 1) := op29 (gk_ch cLa_15 [29] 63 (by decide +kernel))
theorem cLa_16 : (((mB mLa_law).data.toList.drop 1147).take 64).map UInt8.toNat = [4, 96, 46, 42, 29, 5, 96, 46, 42, 29, 6, 96, 46, 182, 0, 150, 87, 44, 42, 29, 4, 96, 46, 42, 29, 5, 96, 46, 42, 29, 6, 96, 46, 182, 0, 153, 87, 167, 0, 89, 43, 42, 29, 4, 96, 46, 42, 29, 5, 96, 46, 42, 29, 6, 96, 46, 42, 29, 7, 96, 46, 42, 29, 8] := by decide +kernel
theorem dLa_law_1147 : decode (mB mLa_law) 1147 = .ok (.iconst 1, 1) := op4 (gk_ch cLa_16 [4] 0 (by decide +kernel))
theorem dLa_law_1148 : decode (mB mLa_law) 1148 = .ok (.iadd, 1) := op96 (gk_ch cLa_16 [96] 1 (by decide +kernel))
theorem dLa_law_1149 : decode (mB mLa_law) 1149 = .ok (.iaload, 1) := op46 (gk_ch cLa_16 [46] 2 (by decide +kernel))
theorem dLa_law_1150 : decode (mB mLa_law) 1150 = .ok (.aload_n 0, 1) := op42 (gk_ch cLa_16 [42] 3 (by decide +kernel))
theorem dLa_law_1151 : decode (mB mLa_law) 1151 = .ok (.iload_n 3, 1) := op29 (gk_ch cLa_16 [29] 4 (by decide +kernel))
theorem dLa_law_1152 : decode (mB mLa_law) 1152 = .ok (.iconst 2, 1) := op5 (gk_ch cLa_16 [5] 5 (by decide +kernel))
theorem dLa_law_1153 : decode (mB mLa_law) 1153 = .ok (.iadd, 1) := op96 (gk_ch cLa_16 [96] 6 (by decide +kernel))
theorem dLa_law_1154 : decode (mB mLa_law) 1154 = .ok (.iaload, 1) := op46 (gk_ch cLa_16 [46] 7 (by decide +kernel))
theorem dLa_law_1155 : decode (mB mLa_law) 1155 = .ok (.aload_n 0, 1) := op42 (gk_ch cLa_16 [42] 8 (by decide +kernel))
theorem dLa_law_1156 : decode (mB mLa_law) 1156 = .ok (.iload_n 3, 1) := op29 (gk_ch cLa_16 [29] 9 (by decide +kernel))
theorem dLa_law_1157 : decode (mB mLa_law) 1157 = .ok (.iconst 3, 1) := op6 (gk_ch cLa_16 [6] 10 (by decide +kernel))
theorem dLa_law_1158 : decode (mB mLa_law) 1158 = .ok (.iadd, 1) := op96 (gk_ch cLa_16 [96] 11 (by decide +kernel))
theorem dLa_law_1159 : decode (mB mLa_law) 1159 = .ok (.iaload, 1) := op46 (gk_ch cLa_16 [46] 12 (by decide +kernel))
theorem dLa_law_1160 : decode (mB mLa_law) 1160 = .ok (.invokevirtual 150, 3) := op182 0 150 (gk_ch cLa_16 [182, 0, 150] 13 (by decide +kernel))
theorem dLa_law_1163 : decode (mB mLa_law) 1163 = .ok (.pop, 1) := op87 (gk_ch cLa_16 [87] 16 (by decide +kernel))
theorem dLa_law_1164 : decode (mB mLa_law) 1164 = .ok (.aload_n 2, 1) := op44 (gk_ch cLa_16 [44] 17 (by decide +kernel))
theorem dLa_law_1165 : decode (mB mLa_law) 1165 = .ok (.aload_n 0, 1) := op42 (gk_ch cLa_16 [42] 18 (by decide +kernel))
theorem dLa_law_1166 : decode (mB mLa_law) 1166 = .ok (.iload_n 3, 1) := op29 (gk_ch cLa_16 [29] 19 (by decide +kernel))
theorem dLa_law_1167 : decode (mB mLa_law) 1167 = .ok (.iconst 1, 1) := op4 (gk_ch cLa_16 [4] 20 (by decide +kernel))
theorem dLa_law_1168 : decode (mB mLa_law) 1168 = .ok (.iadd, 1) := op96 (gk_ch cLa_16 [96] 21 (by decide +kernel))
theorem dLa_law_1169 : decode (mB mLa_law) 1169 = .ok (.iaload, 1) := op46 (gk_ch cLa_16 [46] 22 (by decide +kernel))
theorem dLa_law_1170 : decode (mB mLa_law) 1170 = .ok (.aload_n 0, 1) := op42 (gk_ch cLa_16 [42] 23 (by decide +kernel))
theorem dLa_law_1171 : decode (mB mLa_law) 1171 = .ok (.iload_n 3, 1) := op29 (gk_ch cLa_16 [29] 24 (by decide +kernel))
theorem dLa_law_1172 : decode (mB mLa_law) 1172 = .ok (.iconst 2, 1) := op5 (gk_ch cLa_16 [5] 25 (by decide +kernel))
theorem dLa_law_1173 : decode (mB mLa_law) 1173 = .ok (.iadd, 1) := op96 (gk_ch cLa_16 [96] 26 (by decide +kernel))
theorem dLa_law_1174 : decode (mB mLa_law) 1174 = .ok (.iaload, 1) := op46 (gk_ch cLa_16 [46] 27 (by decide +kernel))
theorem dLa_law_1175 : decode (mB mLa_law) 1175 = .ok (.aload_n 0, 1) := op42 (gk_ch cLa_16 [42] 28 (by decide +kernel))
theorem dLa_law_1176 : decode (mB mLa_law) 1176 = .ok (.iload_n 3, 1) := op29 (gk_ch cLa_16 [29] 29 (by decide +kernel))
theorem dLa_law_1177 : decode (mB mLa_law) 1177 = .ok (.iconst 3, 1) := op6 (gk_ch cLa_16 [6] 30 (by decide +kernel))
theorem dLa_law_1178 : decode (mB mLa_law) 1178 = .ok (.iadd, 1) := op96 (gk_ch cLa_16 [96] 31 (by decide +kernel))
theorem dLa_law_1179 : decode (mB mLa_law) 1179 = .ok (.iaload, 1) := op46 (gk_ch cLa_16 [46] 32 (by decide +kernel))
theorem dLa_law_1180 : decode (mB mLa_law) 1180 = .ok (.invokevirtual 153, 3) := op182 0 153 (gk_ch cLa_16 [182, 0, 153] 33 (by decide +kernel))
theorem dLa_law_1183 : decode (mB mLa_law) 1183 = .ok (.pop, 1) := op87 (gk_ch cLa_16 [87] 36 (by decide +kernel))
theorem dLa_law_1184 : decode (mB mLa_law) 1184 = .ok (.goto 89, 3) := op167 0 89 (gk_ch cLa_16 [167, 0, 89] 37 (by decide +kernel))
theorem dLa_law_1187 : decode (mB mLa_law) 1187 = .ok (.aload_n 1, 1) := op43 (gk_ch cLa_16 [43] 40 (by decide +kernel))
theorem dLa_law_1188 : decode (mB mLa_law) 1188 = .ok (.aload_n 0, 1) := op42 (gk_ch cLa_16 [42] 41 (by decide +kernel))
theorem dLa_law_1189 : decode (mB mLa_law) 1189 = .ok (.iload_n 3, 1) := op29 (gk_ch cLa_16 [29] 42 (by decide +kernel))
theorem dLa_law_1190 : decode (mB mLa_law) 1190 = .ok (.iconst 1, 1) := op4 (gk_ch cLa_16 [4] 43 (by decide +kernel))
theorem dLa_law_1191 : decode (mB mLa_law) 1191 = .ok (.iadd, 1) := op96 (gk_ch cLa_16 [96] 44 (by decide +kernel))
theorem dLa_law_1192 : decode (mB mLa_law) 1192 = .ok (.iaload, 1) := op46 (gk_ch cLa_16 [46] 45 (by decide +kernel))
theorem dLa_law_1193 : decode (mB mLa_law) 1193 = .ok (.aload_n 0, 1) := op42 (gk_ch cLa_16 [42] 46 (by decide +kernel))
theorem dLa_law_1194 : decode (mB mLa_law) 1194 = .ok (.iload_n 3, 1) := op29 (gk_ch cLa_16 [29] 47 (by decide +kernel))
theorem dLa_law_1195 : decode (mB mLa_law) 1195 = .ok (.iconst 2, 1) := op5 (gk_ch cLa_16 [5] 48 (by decide +kernel))
theorem dLa_law_1196 : decode (mB mLa_law) 1196 = .ok (.iadd, 1) := op96 (gk_ch cLa_16 [96] 49 (by decide +kernel))
theorem dLa_law_1197 : decode (mB mLa_law) 1197 = .ok (.iaload, 1) := op46 (gk_ch cLa_16 [46] 50 (by decide +kernel))
theorem dLa_law_1198 : decode (mB mLa_law) 1198 = .ok (.aload_n 0, 1) := op42 (gk_ch cLa_16 [42] 51 (by decide +kernel))
theorem dLa_law_1199 : decode (mB mLa_law) 1199 = .ok (.iload_n 3, 1) := op29 (gk_ch cLa_16 [29] 52 (by decide +kernel))
theorem dLa_law_1200 : decode (mB mLa_law) 1200 = .ok (.iconst 3, 1) := op6 (gk_ch cLa_16 [6] 53 (by decide +kernel))
theorem dLa_law_1201 : decode (mB mLa_law) 1201 = .ok (.iadd, 1) := op96 (gk_ch cLa_16 [96] 54 (by decide +kernel))
theorem dLa_law_1202 : decode (mB mLa_law) 1202 = .ok (.iaload, 1) := op46 (gk_ch cLa_16 [46] 55 (by decide +kernel))
theorem dLa_law_1203 : decode (mB mLa_law) 1203 = .ok (.aload_n 0, 1) := op42 (gk_ch cLa_16 [42] 56 (by decide +kernel))
theorem dLa_law_1204 : decode (mB mLa_law) 1204 = .ok (.iload_n 3, 1) := op29 (gk_ch cLa_16 [29] 57 (by decide +kernel))
theorem dLa_law_1205 : decode (mB mLa_law) 1205 = .ok (.iconst 4, 1) := op7 (gk_ch cLa_16 [7] 58 (by decide +kernel))
theorem dLa_law_1206 : decode (mB mLa_law) 1206 = .ok (.iadd, 1) := op96 (gk_ch cLa_16 [96] 59 (by decide +kernel))
theorem dLa_law_1207 : decode (mB mLa_law) 1207 = .ok (.iaload, 1) := op46 (gk_ch cLa_16 [46] 60 (by decide +kernel))
theorem dLa_law_1208 : decode (mB mLa_law) 1208 = .ok (.aload_n 0, 1) := op42 (gk_ch cLa_16 [42] 61 (by decide +kernel))
theorem dLa_law_1209 : decode (mB mLa_law) 1209 = .ok (.iload_n 3, 1) := op29 (gk_ch cLa_16 [29] 62 (by decide +kernel))
theorem dLa_law_1210 : decode (mB mLa_law) 1210 = .ok (.iconst 5, 1) := op8 (gk_ch cLa_16 [8] 63 (by decide +kernel))
theorem cLa_17 : (((mB mLa_law).data.toList.drop 1211).take 62).map UInt8.toNat = [96, 46, 182, 0, 154, 87, 44, 42, 29, 4, 96, 46, 42, 29, 5, 96, 46, 42, 29, 6, 96, 46, 42, 29, 7, 96, 46, 42, 29, 8, 96, 46, 182, 0, 157, 87, 167, 0, 26, 43, 42, 29, 4, 96, 46, 182, 0, 158, 87, 44, 42, 29, 4, 96, 46, 182, 0, 161, 87, 167, 0, 3] := by decide +kernel
theorem dLa_law_1211 : decode (mB mLa_law) 1211 = .ok (.iadd, 1) := op96 (gk_ch cLa_17 [96] 0 (by decide +kernel))
theorem dLa_law_1212 : decode (mB mLa_law) 1212 = .ok (.iaload, 1) := op46 (gk_ch cLa_17 [46] 1 (by decide +kernel))
theorem dLa_law_1213 : decode (mB mLa_law) 1213 = .ok (.invokevirtual 154, 3) := op182 0 154 (gk_ch cLa_17 [182, 0, 154] 2 (by decide +kernel))
theorem dLa_law_1216 : decode (mB mLa_law) 1216 = .ok (.pop, 1) := op87 (gk_ch cLa_17 [87] 5 (by decide +kernel))
theorem dLa_law_1217 : decode (mB mLa_law) 1217 = .ok (.aload_n 2, 1) := op44 (gk_ch cLa_17 [44] 6 (by decide +kernel))
theorem dLa_law_1218 : decode (mB mLa_law) 1218 = .ok (.aload_n 0, 1) := op42 (gk_ch cLa_17 [42] 7 (by decide +kernel))
theorem dLa_law_1219 : decode (mB mLa_law) 1219 = .ok (.iload_n 3, 1) := op29 (gk_ch cLa_17 [29] 8 (by decide +kernel))
theorem dLa_law_1220 : decode (mB mLa_law) 1220 = .ok (.iconst 1, 1) := op4 (gk_ch cLa_17 [4] 9 (by decide +kernel))
theorem dLa_law_1221 : decode (mB mLa_law) 1221 = .ok (.iadd, 1) := op96 (gk_ch cLa_17 [96] 10 (by decide +kernel))
theorem dLa_law_1222 : decode (mB mLa_law) 1222 = .ok (.iaload, 1) := op46 (gk_ch cLa_17 [46] 11 (by decide +kernel))
theorem dLa_law_1223 : decode (mB mLa_law) 1223 = .ok (.aload_n 0, 1) := op42 (gk_ch cLa_17 [42] 12 (by decide +kernel))
theorem dLa_law_1224 : decode (mB mLa_law) 1224 = .ok (.iload_n 3, 1) := op29 (gk_ch cLa_17 [29] 13 (by decide +kernel))
theorem dLa_law_1225 : decode (mB mLa_law) 1225 = .ok (.iconst 2, 1) := op5 (gk_ch cLa_17 [5] 14 (by decide +kernel))
theorem dLa_law_1226 : decode (mB mLa_law) 1226 = .ok (.iadd, 1) := op96 (gk_ch cLa_17 [96] 15 (by decide +kernel))
theorem dLa_law_1227 : decode (mB mLa_law) 1227 = .ok (.iaload, 1) := op46 (gk_ch cLa_17 [46] 16 (by decide +kernel))
theorem dLa_law_1228 : decode (mB mLa_law) 1228 = .ok (.aload_n 0, 1) := op42 (gk_ch cLa_17 [42] 17 (by decide +kernel))
theorem dLa_law_1229 : decode (mB mLa_law) 1229 = .ok (.iload_n 3, 1) := op29 (gk_ch cLa_17 [29] 18 (by decide +kernel))
theorem dLa_law_1230 : decode (mB mLa_law) 1230 = .ok (.iconst 3, 1) := op6 (gk_ch cLa_17 [6] 19 (by decide +kernel))
theorem dLa_law_1231 : decode (mB mLa_law) 1231 = .ok (.iadd, 1) := op96 (gk_ch cLa_17 [96] 20 (by decide +kernel))
theorem dLa_law_1232 : decode (mB mLa_law) 1232 = .ok (.iaload, 1) := op46 (gk_ch cLa_17 [46] 21 (by decide +kernel))
theorem dLa_law_1233 : decode (mB mLa_law) 1233 = .ok (.aload_n 0, 1) := op42 (gk_ch cLa_17 [42] 22 (by decide +kernel))
theorem dLa_law_1234 : decode (mB mLa_law) 1234 = .ok (.iload_n 3, 1) := op29 (gk_ch cLa_17 [29] 23 (by decide +kernel))
theorem dLa_law_1235 : decode (mB mLa_law) 1235 = .ok (.iconst 4, 1) := op7 (gk_ch cLa_17 [7] 24 (by decide +kernel))
theorem dLa_law_1236 : decode (mB mLa_law) 1236 = .ok (.iadd, 1) := op96 (gk_ch cLa_17 [96] 25 (by decide +kernel))
theorem dLa_law_1237 : decode (mB mLa_law) 1237 = .ok (.iaload, 1) := op46 (gk_ch cLa_17 [46] 26 (by decide +kernel))
theorem dLa_law_1238 : decode (mB mLa_law) 1238 = .ok (.aload_n 0, 1) := op42 (gk_ch cLa_17 [42] 27 (by decide +kernel))
theorem dLa_law_1239 : decode (mB mLa_law) 1239 = .ok (.iload_n 3, 1) := op29 (gk_ch cLa_17 [29] 28 (by decide +kernel))
theorem dLa_law_1240 : decode (mB mLa_law) 1240 = .ok (.iconst 5, 1) := op8 (gk_ch cLa_17 [8] 29 (by decide +kernel))
theorem dLa_law_1241 : decode (mB mLa_law) 1241 = .ok (.iadd, 1) := op96 (gk_ch cLa_17 [96] 30 (by decide +kernel))
theorem dLa_law_1242 : decode (mB mLa_law) 1242 = .ok (.iaload, 1) := op46 (gk_ch cLa_17 [46] 31 (by decide +kernel))
theorem dLa_law_1243 : decode (mB mLa_law) 1243 = .ok (.invokevirtual 157, 3) := op182 0 157 (gk_ch cLa_17 [182, 0, 157] 32 (by decide +kernel))
theorem dLa_law_1246 : decode (mB mLa_law) 1246 = .ok (.pop, 1) := op87 (gk_ch cLa_17 [87] 35 (by decide +kernel))
theorem dLa_law_1247 : decode (mB mLa_law) 1247 = .ok (.goto 26, 3) := op167 0 26 (gk_ch cLa_17 [167, 0, 26] 36 (by decide +kernel))
theorem dLa_law_1250 : decode (mB mLa_law) 1250 = .ok (.aload_n 1, 1) := op43 (gk_ch cLa_17 [43] 39 (by decide +kernel))
theorem dLa_law_1251 : decode (mB mLa_law) 1251 = .ok (.aload_n 0, 1) := op42 (gk_ch cLa_17 [42] 40 (by decide +kernel))
theorem dLa_law_1252 : decode (mB mLa_law) 1252 = .ok (.iload_n 3, 1) := op29 (gk_ch cLa_17 [29] 41 (by decide +kernel))
theorem dLa_law_1253 : decode (mB mLa_law) 1253 = .ok (.iconst 1, 1) := op4 (gk_ch cLa_17 [4] 42 (by decide +kernel))
theorem dLa_law_1254 : decode (mB mLa_law) 1254 = .ok (.iadd, 1) := op96 (gk_ch cLa_17 [96] 43 (by decide +kernel))
theorem dLa_law_1255 : decode (mB mLa_law) 1255 = .ok (.iaload, 1) := op46 (gk_ch cLa_17 [46] 44 (by decide +kernel))
theorem dLa_law_1256 : decode (mB mLa_law) 1256 = .ok (.invokevirtual 158, 3) := op182 0 158 (gk_ch cLa_17 [182, 0, 158] 45 (by decide +kernel))
theorem dLa_law_1259 : decode (mB mLa_law) 1259 = .ok (.pop, 1) := op87 (gk_ch cLa_17 [87] 48 (by decide +kernel))
theorem dLa_law_1260 : decode (mB mLa_law) 1260 = .ok (.aload_n 2, 1) := op44 (gk_ch cLa_17 [44] 49 (by decide +kernel))
theorem dLa_law_1261 : decode (mB mLa_law) 1261 = .ok (.aload_n 0, 1) := op42 (gk_ch cLa_17 [42] 50 (by decide +kernel))
theorem dLa_law_1262 : decode (mB mLa_law) 1262 = .ok (.iload_n 3, 1) := op29 (gk_ch cLa_17 [29] 51 (by decide +kernel))
theorem dLa_law_1263 : decode (mB mLa_law) 1263 = .ok (.iconst 1, 1) := op4 (gk_ch cLa_17 [4] 52 (by decide +kernel))
theorem dLa_law_1264 : decode (mB mLa_law) 1264 = .ok (.iadd, 1) := op96 (gk_ch cLa_17 [96] 53 (by decide +kernel))
theorem dLa_law_1265 : decode (mB mLa_law) 1265 = .ok (.iaload, 1) := op46 (gk_ch cLa_17 [46] 54 (by decide +kernel))
theorem dLa_law_1266 : decode (mB mLa_law) 1266 = .ok (.invokevirtual 161, 3) := op182 0 161 (gk_ch cLa_17 [182, 0, 161] 55 (by decide +kernel))
theorem dLa_law_1269 : decode (mB mLa_law) 1269 = .ok (.pop, 1) := op87 (gk_ch cLa_17 [87] 58 (by decide +kernel))
theorem dLa_law_1270 : decode (mB mLa_law) 1270 = .ok (.goto 3, 3) := op167 0 3 (gk_ch cLa_17 [167, 0, 3] 59 (by decide +kernel))
theorem cLa_18 : (((mB mLa_law).data.toList.drop 1273).take 8).map UInt8.toNat = [132, 3, 6, 167, 251, 22, 4, 172] := by decide +kernel
theorem dLa_law_1273 : decode (mB mLa_law) 1273 = .ok (.iinc 3 6, 3) := op132 3 6 (gk_ch cLa_18 [132, 3, 6] 0 (by decide +kernel))
theorem dLa_law_1276 : decode (mB mLa_law) 1276 = .ok (.goto (-1258), 3) := op167 251 22 (gk_ch cLa_18 [167, 251, 22] 3 (by decide +kernel))
theorem dLa_law_1279 : decode (mB mLa_law) 1279 = .ok (.iconst 1, 1) := op4 (gk_ch cLa_18 [4] 6 (by decide +kernel))
theorem dLa_law_1280 : decode (mB mLa_law) 1280 = .ok (.ireturn, 1) := op172 (gk_ch cLa_18 [172] 7 (by decide +kernel))

theorem vLa_law_0 {M : Mm} {b b' : Nat × Nat} (hb : b'.1 + 94 ≤ b.1 ∧ b'.2 + 2945 ≤ b.2) {K : Int32 → Mm → Prop}   
    (h : CV mC_init [.ref (64 * M.1.1.length + 10)] (nw M 10) (fun N => X mLa_law 7 [(0, .ref 62)] [.ref (64 * M.1.1.length + 10)] N b' (QI K))) : X mLa_law 0 [(0, .ref 62)] [] M b (QI K) := by
  refine x_wf (fun hw => ?_)
  refine x_newB (pc := 0) dLa_law_0 (c := 10) (by decide) clLa_7 (b' := (b'.1 + 93, b'.2 + 2931)) (by have := hb; simp only [show kN 10 = 14 from rfl]; omega) ?_
  refine x_dup (pc := 3) dLa_law_3 rfl ?_
  exact x_invI (pc := 4) dLa_law_4 (S := [.ref (64 * M.1.1.length + 10)]) (As := []) mlLa_9 hC_init rfl (by rw [(nwk M.1.1.length 10 (by decide))]; decide) ⟨by decide, by decide⟩ (by have := hb; constructor <;> (simp only [show mC mC_init = 93 from rfl, show mS mC_init = 2931 from rfl]; omega)) rfl (Nat.le_of_ble_eq_true rfl) (aftV (b' := b') (by have := hb; constructor <;> (simp only [show mC mC_init = 93 from rfl, show mS mC_init = 2931 from rfl]; omega)) (fun N h => h) h)

theorem vLa_law_7 {M : Mm} {b b' : Nat × Nat} (hb : b'.1 + 28 ≤ b.1 ∧ b'.2 + 1927 ≤ b.2) {K : Int32 → Mm → Prop} {w0 : Nat}  
    (h : CV mM_init [.ref (64 * M.1.1.length + 11)] (nw M 11) (fun N => X mLa_law 15 [(0, .ref 62), (1, .ref w0)] [.ref (64 * M.1.1.length + 11)] N b' (QI K))) : X mLa_law 7 [(0, .ref 62)] [.ref w0] M b (QI K) := by
  refine x_wf (fun hw => ?_)
  refine x_astore_n (pc := 7) dLa_law_7 rfl (by decide) (L' := [(1, .ref w0), (0, .ref 62)]) rfl ?_
  refine x_newB (pc := 8) dLa_law_8 (c := 11) (by decide) clLa_10 (b' := (b'.1 + 27, b'.2 + 1884)) (by have := hb; simp only [show kN 11 = 43 from rfl]; omega) ?_
  refine x_dup (pc := 11) dLa_law_11 rfl ?_
  exact x_invI (pc := 12) dLa_law_12 (S := [.ref (64 * M.1.1.length + 11)]) (As := []) mlLa_12 hM_init rfl (by rw [(nwk M.1.1.length 11 (by decide))]; decide) ⟨by decide, by decide⟩ (by have := hb; constructor <;> (simp only [show mC mM_init = 27 from rfl, show mS mM_init = 1884 from rfl]; omega)) rfl (Nat.le_of_ble_eq_true rfl) (aftV (b' := b') (by have := hb; constructor <;> (simp only [show mC mM_init = 27 from rfl, show mS mM_init = 1884 from rfl]; omega)) (fun N h => x_loc [1, 0] rfl h) h)

theorem vLa_law_15 {M : Mm} {b : Nat × Nat} {K : Int32 → Mm → Prop} {v1 : Nat} {w0 : Nat}  
    (h : X mLa_law 18 [(0, .ref 62), (1, .ref v1), (2, .ref w0), (3, .int 0)] [] M b (QI K)) : X mLa_law 15 [(0, .ref 62), (1, .ref v1)] [.ref w0] M b (QI K) := by
  refine x_wf (fun hw => ?_)
  refine x_astore_n (pc := 15) dLa_law_15 rfl (by decide) (L' := [(2, .ref w0), (0, .ref 62), (1, .ref v1)]) rfl ?_
  refine x_iconst (pc := 16) dLa_law_16 (v := 0) rfl ?_
  refine x_istore_n (pc := 17) dLa_law_17 rfl (by decide) (L' := [(3, .int 0), (2, .ref w0), (0, .ref 62), (1, .ref v1)]) rfl ?_
  exact x_loc [2, 3, 1, 0] rfl h

theorem vLa_law_18 {M : Mm} {b : Nat × Nat} {K : Int32 → Mm → Prop} {v1 : Nat} {v2 : Nat} {v3 : Int32} (kv1 : v1 % 64 = 10) 
    (h : (¬ ((Int32.ofNat M.1.2) - 6) < v3 → vp_in v3 M.1.2) ∧ (((Int32.ofNat M.1.2) - 6) < v3 → (K 1 M)) ∧ (¬ ((Int32.ofNat M.1.2) - 6) < v3 → ((((gi M 62 (v3).toNatClampNeg) &&& 63) = 0 → (vp_in (v3 + 1) M.1.2 ∧ (vp_in (v3 + 2) M.1.2 ∧ (CI mC_feed [.ref v1, .long ((((gi M 62 (v3 + 1).toNatClampNeg).toInt64) <<< (((32 : Int32)).toInt64 &&& 63)) ||| (((gi M 62 (v3 + 2).toNatClampNeg).toInt64) &&& 4294967295))] M (fun rv N => X mLa_law 212 [(0, .ref 62), (1, .ref v1), (2, .ref v2), (3, .int v3)] [.int rv] N b (QI K)))))) ∧ (((gi M 62 (v3).toNatClampNeg) &&& 63) = 1 → (vp_in (v3 + 1) M.1.2 ∧ (CI mC_end [.ref v1, .int (gi M 62 (v3 + 1).toNatClampNeg)] M (fun rv N => X mLa_law 250 [(0, .ref 62), (1, .ref v1), (2, .ref v2), (3, .int v3)] [.int rv] N b (QI K))))) ∧ (((gi M 62 (v3).toNatClampNeg) &&& 63) = 2 → (CI mC_library [.ref v1] M (fun rv N => X mLa_law 268 [(0, .ref 62), (1, .ref v1), (2, .ref v2), (3, .int v3)] [.int rv] N b (QI K)))) ∧ (((gi M 62 (v3).toNatClampNeg) &&& 63) = 3 → (CI mC_rule [.ref v1] M (fun rv N => X mLa_law 281 [(0, .ref 62), (1, .ref v1), (2, .ref v2), (3, .int v3)] [.int rv] N b (QI K)))) ∧ (((gi M 62 (v3).toNatClampNeg) &&& 63) = 4 → (CI mC_fault [.ref v1] M (fun rv N => X mLa_law 294 [(0, .ref 62), (1, .ref v1), (2, .ref v2), (3, .int v3)] [.int rv] N b (QI K)))) ∧ (((gi M 62 (v3).toNatClampNeg) &&& 63) = 5 → (vp_in (v3 + 1) M.1.2 ∧ (CI mC_weighs [.ref v1, .int (gi M 62 (v3 + 1).toNatClampNeg)] M (fun rv N => X mLa_law 312 [(0, .ref 62), (1, .ref v1), (2, .ref v2), (3, .int v3)] [.int rv] N b (QI K))))) ∧ (((gi M 62 (v3).toNatClampNeg) &&& 63) = 6 → (vp_in (v3 + 1) M.1.2 ∧ (vp_in (v3 + 2) M.1.2 ∧ (CI mC_word [.ref v1, .int (gi M 62 (v3 + 1).toNatClampNeg), .int (gi M 62 (v3 + 2).toNatClampNeg)] M (fun rv N => X mLa_law 340 [(0, .ref 62), (1, .ref v1), (2, .ref v2), (3, .int v3)] [.int rv] N b (QI K)))))) ∧ (((gi M 62 (v3).toNatClampNeg) &&& 63) = 7 → (vp_in (v3 + 1) M.1.2 ∧ (vp_in (v3 + 2) M.1.2 ∧ (CI mC_says [.ref v1, .int (gi M 62 (v3 + 1).toNatClampNeg), .int (gi M 62 (v3 + 2).toNatClampNeg)] M (fun rv N => X mLa_law 373 [(0, .ref 62), (1, .ref v1), (2, .ref v2), (3, .int v3)] [.int rv] N b (QI K)))))) ∧ (((gi M 62 (v3).toNatClampNeg) &&& 63) = 8 → (vp_in (v3 + 1) M.1.2 ∧ (CI mC_words [.ref v1, .int (gi M 62 (v3 + 1).toNatClampNeg)] M (fun rv N => X mLa_law 401 [(0, .ref 62), (1, .ref v1), (2, .ref v2), (3, .int v3)] [.int rv] N b (QI K))))) ∧ (((gi M 62 (v3).toNatClampNeg) &&& 63) = 9 → (vp_in (v3 + 1) M.1.2 ∧ (vp_in (v3 + 2) M.1.2 ∧ (CI mC_meets [.ref v1, .int (gi M 62 (v3 + 1).toNatClampNeg), .int (gi M 62 (v3 + 2).toNatClampNeg)] M (fun rv N => X mLa_law 429 [(0, .ref 62), (1, .ref v1), (2, .ref v2), (3, .int v3)] [.int rv] N b (QI K)))))) ∧ (((gi M 62 (v3).toNatClampNeg) &&& 63) = 10 → (vp_in (v3 + 1) M.1.2 ∧ (CI mC_steps [.ref v1, .int (gi M 62 (v3 + 1).toNatClampNeg)] M (fun rv N => X mLa_law 457 [(0, .ref 62), (1, .ref v1), (2, .ref v2), (3, .int v3)] [.int rv] N b (QI K))))) ∧ (((gi M 62 (v3).toNatClampNeg) &&& 63) = 11 → (vp_in (v3 + 1) M.1.2 ∧ (vp_in (v3 + 2) M.1.2 ∧ (CI mC_each [.ref v1, .int (gi M 62 (v3 + 1).toNatClampNeg), .int (gi M 62 (v3 + 2).toNatClampNeg)] M (fun rv N => X mLa_law 485 [(0, .ref 62), (1, .ref v1), (2, .ref v2), (3, .int v3)] [.int rv] N b (QI K)))))) ∧ (((gi M 62 (v3).toNatClampNeg) &&& 63) = 12 → (vp_in (v3 + 1) M.1.2 ∧ (vp_in (v3 + 2) M.1.2 ∧ (CI mC_clash [.ref v1, .int (gi M 62 (v3 + 1).toNatClampNeg), .int (gi M 62 (v3 + 2).toNatClampNeg)] M (fun rv N => X mLa_law 518 [(0, .ref 62), (1, .ref v1), (2, .ref v2), (3, .int v3)] [.int rv] N b (QI K)))))) ∧ (((gi M 62 (v3).toNatClampNeg) &&& 63) = 13 → (vp_in (v3 + 1) M.1.2 ∧ (vp_in (v3 + 2) M.1.2 ∧ (vp_in (v3 + 3) M.1.2 ∧ (CI mC_sides [.ref v1, .int (gi M 62 (v3 + 1).toNatClampNeg), .int (gi M 62 (v3 + 2).toNatClampNeg), .int (gi M 62 (v3 + 3).toNatClampNeg)] M (fun rv N => X mLa_law 556 [(0, .ref 62), (1, .ref v1), (2, .ref v2), (3, .int v3)] [.int rv] N b (QI K))))))) ∧ (((gi M 62 (v3).toNatClampNeg) &&& 63) = 14 → (vp_in (v3 + 1) M.1.2 ∧ (vp_in (v3 + 2) M.1.2 ∧ (CI mC_hangs [.ref v1, .int (gi M 62 (v3 + 1).toNatClampNeg), .int (gi M 62 (v3 + 2).toNatClampNeg)] M (fun rv N => X mLa_law 594 [(0, .ref 62), (1, .ref v1), (2, .ref v2), (3, .int v3)] [.int rv] N b (QI K)))))) ∧ (((gi M 62 (v3).toNatClampNeg) &&& 63) = 15 → (vp_in (v3 + 1) M.1.2 ∧ (vp_in (v3 + 2) M.1.2 ∧ (CI mC_held [.ref v1, .int (gi M 62 (v3 + 1).toNatClampNeg), .int (gi M 62 (v3 + 2).toNatClampNeg)] M (fun rv N => X mLa_law 627 [(0, .ref 62), (1, .ref v1), (2, .ref v2), (3, .int v3)] [.int rv] N b (QI K)))))) ∧ (((gi M 62 (v3).toNatClampNeg) &&& 63) = 16 → (vp_in (v3 + 1) M.1.2 ∧ (CJ mC_cases [.ref v1, .int (gi M 62 (v3 + 1).toNatClampNeg)] M (fun rv N => X mLa_law 655 [(0, .ref 62), (1, .ref v1), (2, .ref v2), (3, .int v3)] [.long rv] N b (QI K))))) ∧ (((gi M 62 (v3).toNatClampNeg) &&& 63) = 17 → (vp_in (v3 + 1) M.1.2 ∧ (CI mC_many [.ref v1, .int (gi M 62 (v3 + 1).toNatClampNeg)] M (fun rv N => X mLa_law 678 [(0, .ref 62), (1, .ref v1), (2, .ref v2), (3, .int v3)] [.int rv] N b (QI K))))) ∧ (((gi M 62 (v3).toNatClampNeg) &&& 63) = 18 → (vp_in (v3 + 1) M.1.2 ∧ (vp_in (v3 + 2) M.1.2 ∧ (vp_in (v3 + 3) M.1.2 ∧ (vp_in (v3 + 4) M.1.2 ∧ (vp_in (v3 + 5) M.1.2 ∧ (CI mC_reckon [.ref v1, .int (gi M 62 (v3 + 1).toNatClampNeg), .int (gi M 62 (v3 + 2).toNatClampNeg), .int (gi M 62 (v3 + 3).toNatClampNeg), .int (gi M 62 (v3 + 4).toNatClampNeg), .int (gi M 62 (v3 + 5).toNatClampNeg)] M (fun rv N => X mLa_law 721 [(0, .ref 62), (1, .ref v1), (2, .ref v2), (3, .int v3)] [.int rv] N b (QI K))))))))) ∧ (((gi M 62 (v3).toNatClampNeg) &&& 63) = 19 → (vp_in (v3 + 1) M.1.2 ∧ (CI mC_widest [.ref v1, .int (gi M 62 (v3 + 1).toNatClampNeg)] M (fun rv N => X mLa_law 764 [(0, .ref 62), (1, .ref v1), (2, .ref v2), (3, .int v3)] [.int rv] N b (QI K))))) ∧ (((gi M 62 (v3).toNatClampNeg) &&& 63) = 20 → (vp_in (v3 + 1) M.1.2 ∧ (vp_in (v3 + 2) M.1.2 ∧ (vp_in (v3 + 3) M.1.2 ∧ (CI mC_near [.ref v1, .int (gi M 62 (v3 + 1).toNatClampNeg), .int (gi M 62 (v3 + 2).toNatClampNeg), .int (gi M 62 (v3 + 3).toNatClampNeg)] M (fun rv N => X mLa_law 797 [(0, .ref 62), (1, .ref v1), (2, .ref v2), (3, .int v3)] [.int rv] N b (QI K))))))) ∧ (((gi M 62 (v3).toNatClampNeg) &&& 63) = 21 → (vp_in (v3 + 1) M.1.2 ∧ (CI mC_bring [.ref v1, .int (gi M 62 (v3 + 1).toNatClampNeg)] M (fun rv N => X mLa_law 830 [(0, .ref 62), (1, .ref v1), (2, .ref v2), (3, .int v3)] [.int rv] N b (QI K))))) ∧ (((gi M 62 (v3).toNatClampNeg) &&& 63) = 22 → (vp_in (v3 + 1) M.1.2 ∧ (vp_in (v3 + 2) M.1.2 ∧ (CI mC_copies [.ref v1, .int (gi M 62 (v3 + 1).toNatClampNeg), .int (gi M 62 (v3 + 2).toNatClampNeg)] M (fun rv N => X mLa_law 858 [(0, .ref 62), (1, .ref v1), (2, .ref v2), (3, .int v3)] [.int rv] N b (QI K)))))) ∧ (((gi M 62 (v3).toNatClampNeg) &&& 63) = 23 → (vp_in (v3 + 1) M.1.2 ∧ (vp_in (v3 + 2) M.1.2 ∧ (vp_in (v3 + 3) M.1.2 ∧ (CI mC_argue [.ref v1, .int (gi M 62 (v3 + 1).toNatClampNeg), .int (gi M 62 (v3 + 2).toNatClampNeg), .int (gi M 62 (v3 + 3).toNatClampNeg)] M (fun rv N => X mLa_law 896 [(0, .ref 62), (1, .ref v1), (2, .ref v2), (3, .int v3)] [.int rv] N b (QI K))))))) ∧ (((gi M 62 (v3).toNatClampNeg) &&& 63) = 24 → (vp_in (v3 + 1) M.1.2 ∧ (vp_in (v3 + 2) M.1.2 ∧ (vp_in (v3 + 3) M.1.2 ∧ (CI mC_game [.ref v1, .int (gi M 62 (v3 + 1).toNatClampNeg), .int (gi M 62 (v3 + 2).toNatClampNeg), .int (gi M 62 (v3 + 3).toNatClampNeg)] M (fun rv N => X mLa_law 939 [(0, .ref 62), (1, .ref v1), (2, .ref v2), (3, .int v3)] [.int rv] N b (QI K))))))) ∧ (((gi M 62 (v3).toNatClampNeg) &&& 63) = 25 → (vp_in (v3 + 1) M.1.2 ∧ (CI mC_turn [.ref v1, .int (gi M 62 (v3 + 1).toNatClampNeg)] M (fun rv N => X mLa_law 972 [(0, .ref 62), (1, .ref v1), (2, .ref v2), (3, .int v3)] [.int rv] N b (QI K))))) ∧ (((gi M 62 (v3).toNatClampNeg) &&& 63) = 26 → (vp_in (v3 + 1) M.1.2 ∧ (vp_in (v3 + 2) M.1.2 ∧ (vp_in (v3 + 3) M.1.2 ∧ (CI mC_turns [.ref v1, .int (gi M 62 (v3 + 1).toNatClampNeg), .int (gi M 62 (v3 + 2).toNatClampNeg), .int (gi M 62 (v3 + 3).toNatClampNeg)] M (fun rv N => X mLa_law 1005 [(0, .ref 62), (1, .ref v1), (2, .ref v2), (3, .int v3)] [.int rv] N b (QI K))))))) ∧ (((gi M 62 (v3).toNatClampNeg) &&& 63) = 27 → (CI mC_keep [.ref v1] M (fun rv N => X mLa_law 1033 [(0, .ref 62), (1, .ref v1), (2, .ref v2), (3, .int v3)] [.int rv] N b (QI K)))) ∧ (((gi M 62 (v3).toNatClampNeg) &&& 63) = 28 → (CI mC_swap [.ref v1] M (fun rv N => X mLa_law 1046 [(0, .ref 62), (1, .ref v1), (2, .ref v2), (3, .int v3)] [.int rv] N b (QI K)))) ∧ (((gi M 62 (v3).toNatClampNeg) &&& 63) = 29 → (vp_in (v3 + 1) M.1.2 ∧ (CI mC_differ [.ref v1, .int (gi M 62 (v3 + 1).toNatClampNeg)] M (fun rv N => X mLa_law 1064 [(0, .ref 62), (1, .ref v1), (2, .ref v2), (3, .int v3)] [.int rv] N b (QI K))))) ∧ (((gi M 62 (v3).toNatClampNeg) &&& 63) = 30 → (vp_in (v3 + 1) M.1.2 ∧ (CI mC_brief [.ref v1, .int (gi M 62 (v3 + 1).toNatClampNeg)] M (fun rv N => X mLa_law 1087 [(0, .ref 62), (1, .ref v1), (2, .ref v2), (3, .int v3)] [.int rv] N b (QI K))))) ∧ (((gi M 62 (v3).toNatClampNeg) &&& 63) = 31 → (vp_in (v3 + 1) M.1.2 ∧ (vp_in (v3 + 2) M.1.2 ∧ (vp_in (v3 + 3) M.1.2 ∧ (CI mC_sheet [.ref v1, .int (gi M 62 (v3 + 1).toNatClampNeg), .int (gi M 62 (v3 + 2).toNatClampNeg), .int (gi M 62 (v3 + 3).toNatClampNeg)] M (fun rv N => X mLa_law 1120 [(0, .ref 62), (1, .ref v1), (2, .ref v2), (3, .int v3)] [.int rv] N b (QI K))))))) ∧ (((gi M 62 (v3).toNatClampNeg) &&& 63) = 32 → (vp_in (v3 + 1) M.1.2 ∧ (vp_in (v3 + 2) M.1.2 ∧ (vp_in (v3 + 3) M.1.2 ∧ (CI mC_lay [.ref v1, .int (gi M 62 (v3 + 1).toNatClampNeg), .int (gi M 62 (v3 + 2).toNatClampNeg), .int (gi M 62 (v3 + 3).toNatClampNeg)] M (fun rv N => X mLa_law 1163 [(0, .ref 62), (1, .ref v1), (2, .ref v2), (3, .int v3)] [.int rv] N b (QI K))))))) ∧ (((gi M 62 (v3).toNatClampNeg) &&& 63) = 33 → (vp_in (v3 + 1) M.1.2 ∧ (vp_in (v3 + 2) M.1.2 ∧ (vp_in (v3 + 3) M.1.2 ∧ (vp_in (v3 + 4) M.1.2 ∧ (vp_in (v3 + 5) M.1.2 ∧ (CI mC_read [.ref v1, .int (gi M 62 (v3 + 1).toNatClampNeg), .int (gi M 62 (v3 + 2).toNatClampNeg), .int (gi M 62 (v3 + 3).toNatClampNeg), .int (gi M 62 (v3 + 4).toNatClampNeg), .int (gi M 62 (v3 + 5).toNatClampNeg)] M (fun rv N => X mLa_law 1216 [(0, .ref 62), (1, .ref v1), (2, .ref v2), (3, .int v3)] [.int rv] N b (QI K))))))))) ∧ (((gi M 62 (v3).toNatClampNeg) &&& 63) = 34 → (vp_in (v3 + 1) M.1.2 ∧ (CI mC_count [.ref v1, .int (gi M 62 (v3 + 1).toNatClampNeg)] M (fun rv N => X mLa_law 1259 [(0, .ref 62), (1, .ref v1), (2, .ref v2), (3, .int v3)] [.int rv] N b (QI K))))) ∧ (¬ ((gi M 62 (v3).toNatClampNeg) &&& 63) = 0 ∧ ¬ ((gi M 62 (v3).toNatClampNeg) &&& 63) = 1 ∧ ¬ ((gi M 62 (v3).toNatClampNeg) &&& 63) = 2 ∧ ¬ ((gi M 62 (v3).toNatClampNeg) &&& 63) = 3 ∧ ¬ ((gi M 62 (v3).toNatClampNeg) &&& 63) = 4 ∧ ¬ ((gi M 62 (v3).toNatClampNeg) &&& 63) = 5 ∧ ¬ ((gi M 62 (v3).toNatClampNeg) &&& 63) = 6 ∧ ¬ ((gi M 62 (v3).toNatClampNeg) &&& 63) = 7 ∧ ¬ ((gi M 62 (v3).toNatClampNeg) &&& 63) = 8 ∧ ¬ ((gi M 62 (v3).toNatClampNeg) &&& 63) = 9 ∧ ¬ ((gi M 62 (v3).toNatClampNeg) &&& 63) = 10 ∧ ¬ ((gi M 62 (v3).toNatClampNeg) &&& 63) = 11 ∧ ¬ ((gi M 62 (v3).toNatClampNeg) &&& 63) = 12 ∧ ¬ ((gi M 62 (v3).toNatClampNeg) &&& 63) = 13 ∧ ¬ ((gi M 62 (v3).toNatClampNeg) &&& 63) = 14 ∧ ¬ ((gi M 62 (v3).toNatClampNeg) &&& 63) = 15 ∧ ¬ ((gi M 62 (v3).toNatClampNeg) &&& 63) = 16 ∧ ¬ ((gi M 62 (v3).toNatClampNeg) &&& 63) = 17 ∧ ¬ ((gi M 62 (v3).toNatClampNeg) &&& 63) = 18 ∧ ¬ ((gi M 62 (v3).toNatClampNeg) &&& 63) = 19 ∧ ¬ ((gi M 62 (v3).toNatClampNeg) &&& 63) = 20 ∧ ¬ ((gi M 62 (v3).toNatClampNeg) &&& 63) = 21 ∧ ¬ ((gi M 62 (v3).toNatClampNeg) &&& 63) = 22 ∧ ¬ ((gi M 62 (v3).toNatClampNeg) &&& 63) = 23 ∧ ¬ ((gi M 62 (v3).toNatClampNeg) &&& 63) = 24 ∧ ¬ ((gi M 62 (v3).toNatClampNeg) &&& 63) = 25 ∧ ¬ ((gi M 62 (v3).toNatClampNeg) &&& 63) = 26 ∧ ¬ ((gi M 62 (v3).toNatClampNeg) &&& 63) = 27 ∧ ¬ ((gi M 62 (v3).toNatClampNeg) &&& 63) = 28 ∧ ¬ ((gi M 62 (v3).toNatClampNeg) &&& 63) = 29 ∧ ¬ ((gi M 62 (v3).toNatClampNeg) &&& 63) = 30 ∧ ¬ ((gi M 62 (v3).toNatClampNeg) &&& 63) = 31 ∧ ¬ ((gi M 62 (v3).toNatClampNeg) &&& 63) = 32 ∧ ¬ ((gi M 62 (v3).toNatClampNeg) &&& 63) = 33 ∧ ¬ ((gi M 62 (v3).toNatClampNeg) &&& 63) = 34 → (X mLa_law 18 [(0, .ref 62), (1, .ref v1), (2, .ref v2), (3, .int (v3 + 6))] [] M b (QI K)))))) : X mLa_law 18 [(0, .ref 62), (1, .ref v1), (2, .ref v2), (3, .int v3)] [] M b (QI K) := by
  refine x_wf (fun hw => ?_)
  refine x_iload_n (pc := 18) dLa_law_18 rfl (q := 3) rfl ?_
  refine x_aload_n (pc := 19) dLa_law_19 rfl (q := 0) rfl ?_
  refine x_slen (pc := 20) dLa_law_20 ?_
  refine x_bipush (pc := 21) dLa_law_21 (v := 6) rfl ?_
  refine x_isub (pc := 23) dLa_law_23 ?_
  obtain ⟨s1, g1_0, g1_1⟩ := h
  refine x_icmp_gt (pc := 24) dLa_law_24 (t := 1279) rfl (fun q1 => ?_) (fun q1 => ?_)
  · refine x_iconst (pc := 1279) dLa_law_1279 (v := 1) rfl ?_
    have h := g1_0 q1
    exact x_retQI (pc := 1280) dLa_law_1280 rfl (by (repeat' split) <;> rfl) h
  · refine x_aload_n (pc := 27) dLa_law_27 rfl (q := 0) rfl ?_
    refine x_iload_n (pc := 28) dLa_law_28 rfl (q := 3) rfl ?_
    refine x_sld (pc := 29) dLa_law_29 (s1 q1) ?_
    refine x_bipush (pc := 30) dLa_law_30 (v := 63) rfl ?_
    refine x_iand (pc := 32) dLa_law_32 ?_
    have h := g1_1 q1
    obtain ⟨g2_0, g2_1, g2_2, g2_3, g2_4, g2_5, g2_6, g2_7, g2_8, g2_9, g2_10, g2_11, g2_12, g2_13, g2_14, g2_15, g2_16, g2_17, g2_18, g2_19, g2_20, g2_21, g2_22, g2_23, g2_24, g2_25, g2_26, g2_27, g2_28, g2_29, g2_30, g2_31, g2_32, g2_33, g2_34, g2_35⟩ := h
    by_cases q2 : ((gi M 62 (v3).toNatClampNeg) &&& 63) = 0
    · refine x_tblIn (pc := 33) dLa_law_33 (by rw [q2]; decide) (by rw [q2]; decide) (off := 155) (by rw [q2]; rfl) (t := 188) rfl ?_
      have h := g2_0 q2
      clear g2_0 g2_1 g2_2 g2_3 g2_4 g2_5 g2_6 g2_7 g2_8 g2_9 g2_10 g2_11 g2_12 g2_13 g2_14 g2_15 g2_16 g2_17 g2_18 g2_19 g2_20 g2_21 g2_22 g2_23 g2_24 g2_25 g2_26 g2_27 g2_28 g2_29 g2_30 g2_31 g2_32 g2_33 g2_34 g2_35
      refine x_aload_n (pc := 188) dLa_law_188 rfl (q := 1) rfl ?_
      refine x_aload_n (pc := 189) dLa_law_189 rfl (q := 0) rfl ?_
      refine x_iload_n (pc := 190) dLa_law_190 rfl (q := 3) rfl ?_
      refine x_iconst (pc := 191) dLa_law_191 (v := 1) rfl ?_
      refine x_iadd (pc := 192) dLa_law_192 ?_
      obtain ⟨s502, h⟩ := h
      refine x_sld (pc := 193) dLa_law_193 s502 ?_
      refine x_i2l (pc := 194) dLa_law_194 ?_
      refine x_bipush (pc := 195) dLa_law_195 (v := 32) rfl ?_
      refine x_lshl (pc := 197) dLa_law_197 ?_
      refine x_aload_n (pc := 198) dLa_law_198 rfl (q := 0) rfl ?_
      refine x_iload_n (pc := 199) dLa_law_199 rfl (q := 3) rfl ?_
      refine x_iconst (pc := 200) dLa_law_200 (v := 2) rfl ?_
      refine x_iadd (pc := 201) dLa_law_201 ?_
      obtain ⟨s503, h⟩ := h
      refine x_sld (pc := 202) dLa_law_202 s503 ?_
      refine x_i2l (pc := 203) dLa_law_203 ?_
      refine x_ldc2 (pc := 204) dLa_law_204 klLa_13 ?_
      refine x_land (pc := 207) dLa_law_207 ?_
      refine x_lor (pc := 208) dLa_law_208 ?_
      exact x_invV (pc := 209) dLa_law_209 (c := 10) (S := []) (As := [.long ((((gi M 62 (v3 + 1).toNatClampNeg).toInt64) <<< (((32 : Int32)).toInt64 &&& 63)) ||| (((gi M 62 (v3 + 2).toNatClampNeg).toInt64) &&& 4294967295))]) mlLa_15 hC_feed rfl (by decide) rfl kv1 ⟨by decide, by decide⟩ ⟨Nat.zero_le _, Nat.zero_le _⟩ rfl (Nat.le_of_ble_eq_true rfl) (aftI (b' := b) ⟨Nat.le_refl _, Nat.le_refl _⟩ (fun rv N h => h) h)
    by_cases q3 : ((gi M 62 (v3).toNatClampNeg) &&& 63) = 1
    · refine x_tblIn (pc := 33) dLa_law_33 (by rw [q3]; decide) (by rw [q3]; decide) (off := 208) (by rw [q3]; rfl) (t := 241) rfl ?_
      have h := g2_1 q3
      clear g2_0 g2_1 g2_2 g2_3 g2_4 g2_5 g2_6 g2_7 g2_8 g2_9 g2_10 g2_11 g2_12 g2_13 g2_14 g2_15 g2_16 g2_17 g2_18 g2_19 g2_20 g2_21 g2_22 g2_23 g2_24 g2_25 g2_26 g2_27 g2_28 g2_29 g2_30 g2_31 g2_32 g2_33 g2_34 g2_35
      refine x_aload_n (pc := 241) dLa_law_241 rfl (q := 1) rfl ?_
      refine x_aload_n (pc := 242) dLa_law_242 rfl (q := 0) rfl ?_
      refine x_iload_n (pc := 243) dLa_law_243 rfl (q := 3) rfl ?_
      refine x_iconst (pc := 244) dLa_law_244 (v := 1) rfl ?_
      refine x_iadd (pc := 245) dLa_law_245 ?_
      obtain ⟨s504, h⟩ := h
      refine x_sld (pc := 246) dLa_law_246 s504 ?_
      exact x_invV (pc := 247) dLa_law_247 (c := 10) (S := []) (As := [.int (gi M 62 (v3 + 1).toNatClampNeg)]) mlLa_20 hC_end rfl (by decide) rfl kv1 ⟨by decide, by decide⟩ ⟨Nat.zero_le _, Nat.zero_le _⟩ rfl (Nat.le_of_ble_eq_true rfl) (aftI (b' := b) ⟨Nat.le_refl _, Nat.le_refl _⟩ (fun rv N h => h) h)
    by_cases q4 : ((gi M 62 (v3).toNatClampNeg) &&& 63) = 2
    · refine x_tblIn (pc := 33) dLa_law_33 (by rw [q4]; decide) (by rw [q4]; decide) (off := 231) (by rw [q4]; rfl) (t := 264) rfl ?_
      have h := g2_2 q4
      clear g2_0 g2_1 g2_2 g2_3 g2_4 g2_5 g2_6 g2_7 g2_8 g2_9 g2_10 g2_11 g2_12 g2_13 g2_14 g2_15 g2_16 g2_17 g2_18 g2_19 g2_20 g2_21 g2_22 g2_23 g2_24 g2_25 g2_26 g2_27 g2_28 g2_29 g2_30 g2_31 g2_32 g2_33 g2_34 g2_35
      refine x_aload_n (pc := 264) dLa_law_264 rfl (q := 1) rfl ?_
      exact x_invV (pc := 265) dLa_law_265 (c := 10) (S := []) (As := []) mlLa_25 hC_library rfl (by decide) rfl kv1 ⟨by decide, by decide⟩ ⟨Nat.zero_le _, Nat.zero_le _⟩ rfl (Nat.le_of_ble_eq_true rfl) (aftI (b' := b) ⟨Nat.le_refl _, Nat.le_refl _⟩ (fun rv N h => h) h)
    by_cases q5 : ((gi M 62 (v3).toNatClampNeg) &&& 63) = 3
    · refine x_tblIn (pc := 33) dLa_law_33 (by rw [q5]; decide) (by rw [q5]; decide) (off := 244) (by rw [q5]; rfl) (t := 277) rfl ?_
      have h := g2_3 q5
      clear g2_0 g2_1 g2_2 g2_3 g2_4 g2_5 g2_6 g2_7 g2_8 g2_9 g2_10 g2_11 g2_12 g2_13 g2_14 g2_15 g2_16 g2_17 g2_18 g2_19 g2_20 g2_21 g2_22 g2_23 g2_24 g2_25 g2_26 g2_27 g2_28 g2_29 g2_30 g2_31 g2_32 g2_33 g2_34 g2_35
      refine x_aload_n (pc := 277) dLa_law_277 rfl (q := 1) rfl ?_
      exact x_invV (pc := 278) dLa_law_278 (c := 10) (S := []) (As := []) mlLa_30 hC_rule rfl (by decide) rfl kv1 ⟨by decide, by decide⟩ ⟨Nat.zero_le _, Nat.zero_le _⟩ rfl (Nat.le_of_ble_eq_true rfl) (aftI (b' := b) ⟨Nat.le_refl _, Nat.le_refl _⟩ (fun rv N h => h) h)
    by_cases q6 : ((gi M 62 (v3).toNatClampNeg) &&& 63) = 4
    · refine x_tblIn (pc := 33) dLa_law_33 (by rw [q6]; decide) (by rw [q6]; decide) (off := 257) (by rw [q6]; rfl) (t := 290) rfl ?_
      have h := g2_4 q6
      clear g2_0 g2_1 g2_2 g2_3 g2_4 g2_5 g2_6 g2_7 g2_8 g2_9 g2_10 g2_11 g2_12 g2_13 g2_14 g2_15 g2_16 g2_17 g2_18 g2_19 g2_20 g2_21 g2_22 g2_23 g2_24 g2_25 g2_26 g2_27 g2_28 g2_29 g2_30 g2_31 g2_32 g2_33 g2_34 g2_35
      refine x_aload_n (pc := 290) dLa_law_290 rfl (q := 1) rfl ?_
      exact x_invV (pc := 291) dLa_law_291 (c := 10) (S := []) (As := []) mlLa_34 hC_fault rfl (by decide) rfl kv1 ⟨by decide, by decide⟩ ⟨Nat.zero_le _, Nat.zero_le _⟩ rfl (Nat.le_of_ble_eq_true rfl) (aftI (b' := b) ⟨Nat.le_refl _, Nat.le_refl _⟩ (fun rv N h => h) h)
    by_cases q7 : ((gi M 62 (v3).toNatClampNeg) &&& 63) = 5
    · refine x_tblIn (pc := 33) dLa_law_33 (by rw [q7]; decide) (by rw [q7]; decide) (off := 270) (by rw [q7]; rfl) (t := 303) rfl ?_
      have h := g2_5 q7
      clear g2_0 g2_1 g2_2 g2_3 g2_4 g2_5 g2_6 g2_7 g2_8 g2_9 g2_10 g2_11 g2_12 g2_13 g2_14 g2_15 g2_16 g2_17 g2_18 g2_19 g2_20 g2_21 g2_22 g2_23 g2_24 g2_25 g2_26 g2_27 g2_28 g2_29 g2_30 g2_31 g2_32 g2_33 g2_34 g2_35
      refine x_aload_n (pc := 303) dLa_law_303 rfl (q := 1) rfl ?_
      refine x_aload_n (pc := 304) dLa_law_304 rfl (q := 0) rfl ?_
      refine x_iload_n (pc := 305) dLa_law_305 rfl (q := 3) rfl ?_
      refine x_iconst (pc := 306) dLa_law_306 (v := 1) rfl ?_
      refine x_iadd (pc := 307) dLa_law_307 ?_
      obtain ⟨s505, h⟩ := h
      refine x_sld (pc := 308) dLa_law_308 s505 ?_
      exact x_invV (pc := 309) dLa_law_309 (c := 10) (S := []) (As := [.int (gi M 62 (v3 + 1).toNatClampNeg)]) mlLa_38 hC_weighs rfl (by decide) rfl kv1 ⟨by decide, by decide⟩ ⟨Nat.zero_le _, Nat.zero_le _⟩ rfl (Nat.le_of_ble_eq_true rfl) (aftI (b' := b) ⟨Nat.le_refl _, Nat.le_refl _⟩ (fun rv N h => h) h)
    by_cases q8 : ((gi M 62 (v3).toNatClampNeg) &&& 63) = 6
    · refine x_tblIn (pc := 33) dLa_law_33 (by rw [q8]; decide) (by rw [q8]; decide) (off := 293) (by rw [q8]; rfl) (t := 326) rfl ?_
      have h := g2_6 q8
      clear g2_0 g2_1 g2_2 g2_3 g2_4 g2_5 g2_6 g2_7 g2_8 g2_9 g2_10 g2_11 g2_12 g2_13 g2_14 g2_15 g2_16 g2_17 g2_18 g2_19 g2_20 g2_21 g2_22 g2_23 g2_24 g2_25 g2_26 g2_27 g2_28 g2_29 g2_30 g2_31 g2_32 g2_33 g2_34 g2_35
      refine x_aload_n (pc := 326) dLa_law_326 rfl (q := 1) rfl ?_
      refine x_aload_n (pc := 327) dLa_law_327 rfl (q := 0) rfl ?_
      refine x_iload_n (pc := 328) dLa_law_328 rfl (q := 3) rfl ?_
      refine x_iconst (pc := 329) dLa_law_329 (v := 1) rfl ?_
      refine x_iadd (pc := 330) dLa_law_330 ?_
      obtain ⟨s506, h⟩ := h
      refine x_sld (pc := 331) dLa_law_331 s506 ?_
      refine x_aload_n (pc := 332) dLa_law_332 rfl (q := 0) rfl ?_
      refine x_iload_n (pc := 333) dLa_law_333 rfl (q := 3) rfl ?_
      refine x_iconst (pc := 334) dLa_law_334 (v := 2) rfl ?_
      refine x_iadd (pc := 335) dLa_law_335 ?_
      obtain ⟨s507, h⟩ := h
      refine x_sld (pc := 336) dLa_law_336 s507 ?_
      exact x_invV (pc := 337) dLa_law_337 (c := 10) (S := []) (As := [.int (gi M 62 (v3 + 1).toNatClampNeg), .int (gi M 62 (v3 + 2).toNatClampNeg)]) mlLa_42 hC_word rfl (by decide) rfl kv1 ⟨by decide, by decide⟩ ⟨Nat.zero_le _, Nat.zero_le _⟩ rfl (Nat.le_of_ble_eq_true rfl) (aftI (b' := b) ⟨Nat.le_refl _, Nat.le_refl _⟩ (fun rv N h => h) h)
    by_cases q9 : ((gi M 62 (v3).toNatClampNeg) &&& 63) = 7
    · refine x_tblIn (pc := 33) dLa_law_33 (by rw [q9]; decide) (by rw [q9]; decide) (off := 326) (by rw [q9]; rfl) (t := 359) rfl ?_
      have h := g2_7 q9
      clear g2_0 g2_1 g2_2 g2_3 g2_4 g2_5 g2_6 g2_7 g2_8 g2_9 g2_10 g2_11 g2_12 g2_13 g2_14 g2_15 g2_16 g2_17 g2_18 g2_19 g2_20 g2_21 g2_22 g2_23 g2_24 g2_25 g2_26 g2_27 g2_28 g2_29 g2_30 g2_31 g2_32 g2_33 g2_34 g2_35
      refine x_aload_n (pc := 359) dLa_law_359 rfl (q := 1) rfl ?_
      refine x_aload_n (pc := 360) dLa_law_360 rfl (q := 0) rfl ?_
      refine x_iload_n (pc := 361) dLa_law_361 rfl (q := 3) rfl ?_
      refine x_iconst (pc := 362) dLa_law_362 (v := 1) rfl ?_
      refine x_iadd (pc := 363) dLa_law_363 ?_
      obtain ⟨s508, h⟩ := h
      refine x_sld (pc := 364) dLa_law_364 s508 ?_
      refine x_aload_n (pc := 365) dLa_law_365 rfl (q := 0) rfl ?_
      refine x_iload_n (pc := 366) dLa_law_366 rfl (q := 3) rfl ?_
      refine x_iconst (pc := 367) dLa_law_367 (v := 2) rfl ?_
      refine x_iadd (pc := 368) dLa_law_368 ?_
      obtain ⟨s509, h⟩ := h
      refine x_sld (pc := 369) dLa_law_369 s509 ?_
      exact x_invV (pc := 370) dLa_law_370 (c := 10) (S := []) (As := [.int (gi M 62 (v3 + 1).toNatClampNeg), .int (gi M 62 (v3 + 2).toNatClampNeg)]) mlLa_47 hC_says rfl (by decide) rfl kv1 ⟨by decide, by decide⟩ ⟨Nat.zero_le _, Nat.zero_le _⟩ rfl (Nat.le_of_ble_eq_true rfl) (aftI (b' := b) ⟨Nat.le_refl _, Nat.le_refl _⟩ (fun rv N h => h) h)
    by_cases q10 : ((gi M 62 (v3).toNatClampNeg) &&& 63) = 8
    · refine x_tblIn (pc := 33) dLa_law_33 (by rw [q10]; decide) (by rw [q10]; decide) (off := 359) (by rw [q10]; rfl) (t := 392) rfl ?_
      have h := g2_8 q10
      clear g2_0 g2_1 g2_2 g2_3 g2_4 g2_5 g2_6 g2_7 g2_8 g2_9 g2_10 g2_11 g2_12 g2_13 g2_14 g2_15 g2_16 g2_17 g2_18 g2_19 g2_20 g2_21 g2_22 g2_23 g2_24 g2_25 g2_26 g2_27 g2_28 g2_29 g2_30 g2_31 g2_32 g2_33 g2_34 g2_35
      refine x_aload_n (pc := 392) dLa_law_392 rfl (q := 1) rfl ?_
      refine x_aload_n (pc := 393) dLa_law_393 rfl (q := 0) rfl ?_
      refine x_iload_n (pc := 394) dLa_law_394 rfl (q := 3) rfl ?_
      refine x_iconst (pc := 395) dLa_law_395 (v := 1) rfl ?_
      refine x_iadd (pc := 396) dLa_law_396 ?_
      obtain ⟨s510, h⟩ := h
      refine x_sld (pc := 397) dLa_law_397 s510 ?_
      exact x_invV (pc := 398) dLa_law_398 (c := 10) (S := []) (As := [.int (gi M 62 (v3 + 1).toNatClampNeg)]) mlLa_51 hC_words rfl (by decide) rfl kv1 ⟨by decide, by decide⟩ ⟨Nat.zero_le _, Nat.zero_le _⟩ rfl (Nat.le_of_ble_eq_true rfl) (aftI (b' := b) ⟨Nat.le_refl _, Nat.le_refl _⟩ (fun rv N h => h) h)
    by_cases q11 : ((gi M 62 (v3).toNatClampNeg) &&& 63) = 9
    · refine x_tblIn (pc := 33) dLa_law_33 (by rw [q11]; decide) (by rw [q11]; decide) (off := 382) (by rw [q11]; rfl) (t := 415) rfl ?_
      have h := g2_9 q11
      clear g2_0 g2_1 g2_2 g2_3 g2_4 g2_5 g2_6 g2_7 g2_8 g2_9 g2_10 g2_11 g2_12 g2_13 g2_14 g2_15 g2_16 g2_17 g2_18 g2_19 g2_20 g2_21 g2_22 g2_23 g2_24 g2_25 g2_26 g2_27 g2_28 g2_29 g2_30 g2_31 g2_32 g2_33 g2_34 g2_35
      refine x_aload_n (pc := 415) dLa_law_415 rfl (q := 1) rfl ?_
      refine x_aload_n (pc := 416) dLa_law_416 rfl (q := 0) rfl ?_
      refine x_iload_n (pc := 417) dLa_law_417 rfl (q := 3) rfl ?_
      refine x_iconst (pc := 418) dLa_law_418 (v := 1) rfl ?_
      refine x_iadd (pc := 419) dLa_law_419 ?_
      obtain ⟨s511, h⟩ := h
      refine x_sld (pc := 420) dLa_law_420 s511 ?_
      refine x_aload_n (pc := 421) dLa_law_421 rfl (q := 0) rfl ?_
      refine x_iload_n (pc := 422) dLa_law_422 rfl (q := 3) rfl ?_
      refine x_iconst (pc := 423) dLa_law_423 (v := 2) rfl ?_
      refine x_iadd (pc := 424) dLa_law_424 ?_
      obtain ⟨s512, h⟩ := h
      refine x_sld (pc := 425) dLa_law_425 s512 ?_
      exact x_invV (pc := 426) dLa_law_426 (c := 10) (S := []) (As := [.int (gi M 62 (v3 + 1).toNatClampNeg), .int (gi M 62 (v3 + 2).toNatClampNeg)]) mlLa_55 hC_meets rfl (by decide) rfl kv1 ⟨by decide, by decide⟩ ⟨Nat.zero_le _, Nat.zero_le _⟩ rfl (Nat.le_of_ble_eq_true rfl) (aftI (b' := b) ⟨Nat.le_refl _, Nat.le_refl _⟩ (fun rv N h => h) h)
    by_cases q12 : ((gi M 62 (v3).toNatClampNeg) &&& 63) = 10
    · refine x_tblIn (pc := 33) dLa_law_33 (by rw [q12]; decide) (by rw [q12]; decide) (off := 415) (by rw [q12]; rfl) (t := 448) rfl ?_
      have h := g2_10 q12
      clear g2_0 g2_1 g2_2 g2_3 g2_4 g2_5 g2_6 g2_7 g2_8 g2_9 g2_10 g2_11 g2_12 g2_13 g2_14 g2_15 g2_16 g2_17 g2_18 g2_19 g2_20 g2_21 g2_22 g2_23 g2_24 g2_25 g2_26 g2_27 g2_28 g2_29 g2_30 g2_31 g2_32 g2_33 g2_34 g2_35
      refine x_aload_n (pc := 448) dLa_law_448 rfl (q := 1) rfl ?_
      refine x_aload_n (pc := 449) dLa_law_449 rfl (q := 0) rfl ?_
      refine x_iload_n (pc := 450) dLa_law_450 rfl (q := 3) rfl ?_
      refine x_iconst (pc := 451) dLa_law_451 (v := 1) rfl ?_
      refine x_iadd (pc := 452) dLa_law_452 ?_
      obtain ⟨s513, h⟩ := h
      refine x_sld (pc := 453) dLa_law_453 s513 ?_
      exact x_invV (pc := 454) dLa_law_454 (c := 10) (S := []) (As := [.int (gi M 62 (v3 + 1).toNatClampNeg)]) mlLa_59 hC_steps rfl (by decide) rfl kv1 ⟨by decide, by decide⟩ ⟨Nat.zero_le _, Nat.zero_le _⟩ rfl (Nat.le_of_ble_eq_true rfl) (aftI (b' := b) ⟨Nat.le_refl _, Nat.le_refl _⟩ (fun rv N h => h) h)
    by_cases q13 : ((gi M 62 (v3).toNatClampNeg) &&& 63) = 11
    · refine x_tblIn (pc := 33) dLa_law_33 (by rw [q13]; decide) (by rw [q13]; decide) (off := 438) (by rw [q13]; rfl) (t := 471) rfl ?_
      have h := g2_11 q13
      clear g2_0 g2_1 g2_2 g2_3 g2_4 g2_5 g2_6 g2_7 g2_8 g2_9 g2_10 g2_11 g2_12 g2_13 g2_14 g2_15 g2_16 g2_17 g2_18 g2_19 g2_20 g2_21 g2_22 g2_23 g2_24 g2_25 g2_26 g2_27 g2_28 g2_29 g2_30 g2_31 g2_32 g2_33 g2_34 g2_35
      refine x_aload_n (pc := 471) dLa_law_471 rfl (q := 1) rfl ?_
      refine x_aload_n (pc := 472) dLa_law_472 rfl (q := 0) rfl ?_
      refine x_iload_n (pc := 473) dLa_law_473 rfl (q := 3) rfl ?_
      refine x_iconst (pc := 474) dLa_law_474 (v := 1) rfl ?_
      refine x_iadd (pc := 475) dLa_law_475 ?_
      obtain ⟨s514, h⟩ := h
      refine x_sld (pc := 476) dLa_law_476 s514 ?_
      refine x_aload_n (pc := 477) dLa_law_477 rfl (q := 0) rfl ?_
      refine x_iload_n (pc := 478) dLa_law_478 rfl (q := 3) rfl ?_
      refine x_iconst (pc := 479) dLa_law_479 (v := 2) rfl ?_
      refine x_iadd (pc := 480) dLa_law_480 ?_
      obtain ⟨s515, h⟩ := h
      refine x_sld (pc := 481) dLa_law_481 s515 ?_
      exact x_invV (pc := 482) dLa_law_482 (c := 10) (S := []) (As := [.int (gi M 62 (v3 + 1).toNatClampNeg), .int (gi M 62 (v3 + 2).toNatClampNeg)]) mlLa_63 hC_each rfl (by decide) rfl kv1 ⟨by decide, by decide⟩ ⟨Nat.zero_le _, Nat.zero_le _⟩ rfl (Nat.le_of_ble_eq_true rfl) (aftI (b' := b) ⟨Nat.le_refl _, Nat.le_refl _⟩ (fun rv N h => h) h)
    by_cases q14 : ((gi M 62 (v3).toNatClampNeg) &&& 63) = 12
    · refine x_tblIn (pc := 33) dLa_law_33 (by rw [q14]; decide) (by rw [q14]; decide) (off := 471) (by rw [q14]; rfl) (t := 504) rfl ?_
      have h := g2_12 q14
      clear g2_0 g2_1 g2_2 g2_3 g2_4 g2_5 g2_6 g2_7 g2_8 g2_9 g2_10 g2_11 g2_12 g2_13 g2_14 g2_15 g2_16 g2_17 g2_18 g2_19 g2_20 g2_21 g2_22 g2_23 g2_24 g2_25 g2_26 g2_27 g2_28 g2_29 g2_30 g2_31 g2_32 g2_33 g2_34 g2_35
      refine x_aload_n (pc := 504) dLa_law_504 rfl (q := 1) rfl ?_
      refine x_aload_n (pc := 505) dLa_law_505 rfl (q := 0) rfl ?_
      refine x_iload_n (pc := 506) dLa_law_506 rfl (q := 3) rfl ?_
      refine x_iconst (pc := 507) dLa_law_507 (v := 1) rfl ?_
      refine x_iadd (pc := 508) dLa_law_508 ?_
      obtain ⟨s516, h⟩ := h
      refine x_sld (pc := 509) dLa_law_509 s516 ?_
      refine x_aload_n (pc := 510) dLa_law_510 rfl (q := 0) rfl ?_
      refine x_iload_n (pc := 511) dLa_law_511 rfl (q := 3) rfl ?_
      refine x_iconst (pc := 512) dLa_law_512 (v := 2) rfl ?_
      refine x_iadd (pc := 513) dLa_law_513 ?_
      obtain ⟨s517, h⟩ := h
      refine x_sld (pc := 514) dLa_law_514 s517 ?_
      exact x_invV (pc := 515) dLa_law_515 (c := 10) (S := []) (As := [.int (gi M 62 (v3 + 1).toNatClampNeg), .int (gi M 62 (v3 + 2).toNatClampNeg)]) mlLa_67 hC_clash rfl (by decide) rfl kv1 ⟨by decide, by decide⟩ ⟨Nat.zero_le _, Nat.zero_le _⟩ rfl (Nat.le_of_ble_eq_true rfl) (aftI (b' := b) ⟨Nat.le_refl _, Nat.le_refl _⟩ (fun rv N h => h) h)
    by_cases q15 : ((gi M 62 (v3).toNatClampNeg) &&& 63) = 13
    · refine x_tblIn (pc := 33) dLa_law_33 (by rw [q15]; decide) (by rw [q15]; decide) (off := 504) (by rw [q15]; rfl) (t := 537) rfl ?_
      have h := g2_13 q15
      clear g2_0 g2_1 g2_2 g2_3 g2_4 g2_5 g2_6 g2_7 g2_8 g2_9 g2_10 g2_11 g2_12 g2_13 g2_14 g2_15 g2_16 g2_17 g2_18 g2_19 g2_20 g2_21 g2_22 g2_23 g2_24 g2_25 g2_26 g2_27 g2_28 g2_29 g2_30 g2_31 g2_32 g2_33 g2_34 g2_35
      refine x_aload_n (pc := 537) dLa_law_537 rfl (q := 1) rfl ?_
      refine x_aload_n (pc := 538) dLa_law_538 rfl (q := 0) rfl ?_
      refine x_iload_n (pc := 539) dLa_law_539 rfl (q := 3) rfl ?_
      refine x_iconst (pc := 540) dLa_law_540 (v := 1) rfl ?_
      refine x_iadd (pc := 541) dLa_law_541 ?_
      obtain ⟨s518, h⟩ := h
      refine x_sld (pc := 542) dLa_law_542 s518 ?_
      refine x_aload_n (pc := 543) dLa_law_543 rfl (q := 0) rfl ?_
      refine x_iload_n (pc := 544) dLa_law_544 rfl (q := 3) rfl ?_
      refine x_iconst (pc := 545) dLa_law_545 (v := 2) rfl ?_
      refine x_iadd (pc := 546) dLa_law_546 ?_
      obtain ⟨s519, h⟩ := h
      refine x_sld (pc := 547) dLa_law_547 s519 ?_
      refine x_aload_n (pc := 548) dLa_law_548 rfl (q := 0) rfl ?_
      refine x_iload_n (pc := 549) dLa_law_549 rfl (q := 3) rfl ?_
      refine x_iconst (pc := 550) dLa_law_550 (v := 3) rfl ?_
      refine x_iadd (pc := 551) dLa_law_551 ?_
      obtain ⟨s520, h⟩ := h
      refine x_sld (pc := 552) dLa_law_552 s520 ?_
      exact x_invV (pc := 553) dLa_law_553 (c := 10) (S := []) (As := [.int (gi M 62 (v3 + 1).toNatClampNeg), .int (gi M 62 (v3 + 2).toNatClampNeg), .int (gi M 62 (v3 + 3).toNatClampNeg)]) mlLa_71 hC_sides rfl (by decide) rfl kv1 ⟨by decide, by decide⟩ ⟨Nat.zero_le _, Nat.zero_le _⟩ rfl (Nat.le_of_ble_eq_true rfl) (aftI (b' := b) ⟨Nat.le_refl _, Nat.le_refl _⟩ (fun rv N h => h) h)
    by_cases q16 : ((gi M 62 (v3).toNatClampNeg) &&& 63) = 14
    · refine x_tblIn (pc := 33) dLa_law_33 (by rw [q16]; decide) (by rw [q16]; decide) (off := 547) (by rw [q16]; rfl) (t := 580) rfl ?_
      have h := g2_14 q16
      clear g2_0 g2_1 g2_2 g2_3 g2_4 g2_5 g2_6 g2_7 g2_8 g2_9 g2_10 g2_11 g2_12 g2_13 g2_14 g2_15 g2_16 g2_17 g2_18 g2_19 g2_20 g2_21 g2_22 g2_23 g2_24 g2_25 g2_26 g2_27 g2_28 g2_29 g2_30 g2_31 g2_32 g2_33 g2_34 g2_35
      refine x_aload_n (pc := 580) dLa_law_580 rfl (q := 1) rfl ?_
      refine x_aload_n (pc := 581) dLa_law_581 rfl (q := 0) rfl ?_
      refine x_iload_n (pc := 582) dLa_law_582 rfl (q := 3) rfl ?_
      refine x_iconst (pc := 583) dLa_law_583 (v := 1) rfl ?_
      refine x_iadd (pc := 584) dLa_law_584 ?_
      obtain ⟨s521, h⟩ := h
      refine x_sld (pc := 585) dLa_law_585 s521 ?_
      refine x_aload_n (pc := 586) dLa_law_586 rfl (q := 0) rfl ?_
      refine x_iload_n (pc := 587) dLa_law_587 rfl (q := 3) rfl ?_
      refine x_iconst (pc := 588) dLa_law_588 (v := 2) rfl ?_
      refine x_iadd (pc := 589) dLa_law_589 ?_
      obtain ⟨s522, h⟩ := h
      refine x_sld (pc := 590) dLa_law_590 s522 ?_
      exact x_invV (pc := 591) dLa_law_591 (c := 10) (S := []) (As := [.int (gi M 62 (v3 + 1).toNatClampNeg), .int (gi M 62 (v3 + 2).toNatClampNeg)]) mlLa_76 hC_hangs rfl (by decide) rfl kv1 ⟨by decide, by decide⟩ ⟨Nat.zero_le _, Nat.zero_le _⟩ rfl (Nat.le_of_ble_eq_true rfl) (aftI (b' := b) ⟨Nat.le_refl _, Nat.le_refl _⟩ (fun rv N h => h) h)
    by_cases q17 : ((gi M 62 (v3).toNatClampNeg) &&& 63) = 15
    · refine x_tblIn (pc := 33) dLa_law_33 (by rw [q17]; decide) (by rw [q17]; decide) (off := 580) (by rw [q17]; rfl) (t := 613) rfl ?_
      have h := g2_15 q17
      clear g2_0 g2_1 g2_2 g2_3 g2_4 g2_5 g2_6 g2_7 g2_8 g2_9 g2_10 g2_11 g2_12 g2_13 g2_14 g2_15 g2_16 g2_17 g2_18 g2_19 g2_20 g2_21 g2_22 g2_23 g2_24 g2_25 g2_26 g2_27 g2_28 g2_29 g2_30 g2_31 g2_32 g2_33 g2_34 g2_35
      refine x_aload_n (pc := 613) dLa_law_613 rfl (q := 1) rfl ?_
      refine x_aload_n (pc := 614) dLa_law_614 rfl (q := 0) rfl ?_
      refine x_iload_n (pc := 615) dLa_law_615 rfl (q := 3) rfl ?_
      refine x_iconst (pc := 616) dLa_law_616 (v := 1) rfl ?_
      refine x_iadd (pc := 617) dLa_law_617 ?_
      obtain ⟨s523, h⟩ := h
      refine x_sld (pc := 618) dLa_law_618 s523 ?_
      refine x_aload_n (pc := 619) dLa_law_619 rfl (q := 0) rfl ?_
      refine x_iload_n (pc := 620) dLa_law_620 rfl (q := 3) rfl ?_
      refine x_iconst (pc := 621) dLa_law_621 (v := 2) rfl ?_
      refine x_iadd (pc := 622) dLa_law_622 ?_
      obtain ⟨s524, h⟩ := h
      refine x_sld (pc := 623) dLa_law_623 s524 ?_
      exact x_invV (pc := 624) dLa_law_624 (c := 10) (S := []) (As := [.int (gi M 62 (v3 + 1).toNatClampNeg), .int (gi M 62 (v3 + 2).toNatClampNeg)]) mlLa_80 hC_held rfl (by decide) rfl kv1 ⟨by decide, by decide⟩ ⟨Nat.zero_le _, Nat.zero_le _⟩ rfl (Nat.le_of_ble_eq_true rfl) (aftI (b' := b) ⟨Nat.le_refl _, Nat.le_refl _⟩ (fun rv N h => h) h)
    by_cases q18 : ((gi M 62 (v3).toNatClampNeg) &&& 63) = 16
    · refine x_tblIn (pc := 33) dLa_law_33 (by rw [q18]; decide) (by rw [q18]; decide) (off := 613) (by rw [q18]; rfl) (t := 646) rfl ?_
      have h := g2_16 q18
      clear g2_0 g2_1 g2_2 g2_3 g2_4 g2_5 g2_6 g2_7 g2_8 g2_9 g2_10 g2_11 g2_12 g2_13 g2_14 g2_15 g2_16 g2_17 g2_18 g2_19 g2_20 g2_21 g2_22 g2_23 g2_24 g2_25 g2_26 g2_27 g2_28 g2_29 g2_30 g2_31 g2_32 g2_33 g2_34 g2_35
      refine x_aload_n (pc := 646) dLa_law_646 rfl (q := 1) rfl ?_
      refine x_aload_n (pc := 647) dLa_law_647 rfl (q := 0) rfl ?_
      refine x_iload_n (pc := 648) dLa_law_648 rfl (q := 3) rfl ?_
      refine x_iconst (pc := 649) dLa_law_649 (v := 1) rfl ?_
      refine x_iadd (pc := 650) dLa_law_650 ?_
      obtain ⟨s525, h⟩ := h
      refine x_sld (pc := 651) dLa_law_651 s525 ?_
      exact x_invV (pc := 652) dLa_law_652 (c := 10) (S := []) (As := [.int (gi M 62 (v3 + 1).toNatClampNeg)]) mlLa_84 hC_cases rfl (by decide) rfl kv1 ⟨by decide, by decide⟩ ⟨Nat.zero_le _, Nat.zero_le _⟩ rfl (Nat.le_of_ble_eq_true rfl) (aftJ (b' := b) ⟨Nat.le_refl _, Nat.le_refl _⟩ (fun rv N h => h) h)
    by_cases q19 : ((gi M 62 (v3).toNatClampNeg) &&& 63) = 17
    · refine x_tblIn (pc := 33) dLa_law_33 (by rw [q19]; decide) (by rw [q19]; decide) (off := 636) (by rw [q19]; rfl) (t := 669) rfl ?_
      have h := g2_17 q19
      clear g2_0 g2_1 g2_2 g2_3 g2_4 g2_5 g2_6 g2_7 g2_8 g2_9 g2_10 g2_11 g2_12 g2_13 g2_14 g2_15 g2_16 g2_17 g2_18 g2_19 g2_20 g2_21 g2_22 g2_23 g2_24 g2_25 g2_26 g2_27 g2_28 g2_29 g2_30 g2_31 g2_32 g2_33 g2_34 g2_35
      refine x_aload_n (pc := 669) dLa_law_669 rfl (q := 1) rfl ?_
      refine x_aload_n (pc := 670) dLa_law_670 rfl (q := 0) rfl ?_
      refine x_iload_n (pc := 671) dLa_law_671 rfl (q := 3) rfl ?_
      refine x_iconst (pc := 672) dLa_law_672 (v := 1) rfl ?_
      refine x_iadd (pc := 673) dLa_law_673 ?_
      obtain ⟨s526, h⟩ := h
      refine x_sld (pc := 674) dLa_law_674 s526 ?_
      exact x_invV (pc := 675) dLa_law_675 (c := 10) (S := []) (As := [.int (gi M 62 (v3 + 1).toNatClampNeg)]) mlLa_89 hC_many rfl (by decide) rfl kv1 ⟨by decide, by decide⟩ ⟨Nat.zero_le _, Nat.zero_le _⟩ rfl (Nat.le_of_ble_eq_true rfl) (aftI (b' := b) ⟨Nat.le_refl _, Nat.le_refl _⟩ (fun rv N h => h) h)
    by_cases q20 : ((gi M 62 (v3).toNatClampNeg) &&& 63) = 18
    · refine x_tblIn (pc := 33) dLa_law_33 (by rw [q20]; decide) (by rw [q20]; decide) (off := 659) (by rw [q20]; rfl) (t := 692) rfl ?_
      have h := g2_18 q20
      clear g2_0 g2_1 g2_2 g2_3 g2_4 g2_5 g2_6 g2_7 g2_8 g2_9 g2_10 g2_11 g2_12 g2_13 g2_14 g2_15 g2_16 g2_17 g2_18 g2_19 g2_20 g2_21 g2_22 g2_23 g2_24 g2_25 g2_26 g2_27 g2_28 g2_29 g2_30 g2_31 g2_32 g2_33 g2_34 g2_35
      refine x_aload_n (pc := 692) dLa_law_692 rfl (q := 1) rfl ?_
      refine x_aload_n (pc := 693) dLa_law_693 rfl (q := 0) rfl ?_
      refine x_iload_n (pc := 694) dLa_law_694 rfl (q := 3) rfl ?_
      refine x_iconst (pc := 695) dLa_law_695 (v := 1) rfl ?_
      refine x_iadd (pc := 696) dLa_law_696 ?_
      obtain ⟨s527, h⟩ := h
      refine x_sld (pc := 697) dLa_law_697 s527 ?_
      refine x_aload_n (pc := 698) dLa_law_698 rfl (q := 0) rfl ?_
      refine x_iload_n (pc := 699) dLa_law_699 rfl (q := 3) rfl ?_
      refine x_iconst (pc := 700) dLa_law_700 (v := 2) rfl ?_
      refine x_iadd (pc := 701) dLa_law_701 ?_
      obtain ⟨s528, h⟩ := h
      refine x_sld (pc := 702) dLa_law_702 s528 ?_
      refine x_aload_n (pc := 703) dLa_law_703 rfl (q := 0) rfl ?_
      refine x_iload_n (pc := 704) dLa_law_704 rfl (q := 3) rfl ?_
      refine x_iconst (pc := 705) dLa_law_705 (v := 3) rfl ?_
      refine x_iadd (pc := 706) dLa_law_706 ?_
      obtain ⟨s529, h⟩ := h
      refine x_sld (pc := 707) dLa_law_707 s529 ?_
      refine x_aload_n (pc := 708) dLa_law_708 rfl (q := 0) rfl ?_
      refine x_iload_n (pc := 709) dLa_law_709 rfl (q := 3) rfl ?_
      refine x_iconst (pc := 710) dLa_law_710 (v := 4) rfl ?_
      refine x_iadd (pc := 711) dLa_law_711 ?_
      obtain ⟨s530, h⟩ := h
      refine x_sld (pc := 712) dLa_law_712 s530 ?_
      refine x_aload_n (pc := 713) dLa_law_713 rfl (q := 0) rfl ?_
      refine x_iload_n (pc := 714) dLa_law_714 rfl (q := 3) rfl ?_
      refine x_iconst (pc := 715) dLa_law_715 (v := 5) rfl ?_
      refine x_iadd (pc := 716) dLa_law_716 ?_
      obtain ⟨s531, h⟩ := h
      refine x_sld (pc := 717) dLa_law_717 s531 ?_
      exact x_invV (pc := 718) dLa_law_718 (c := 10) (S := []) (As := [.int (gi M 62 (v3 + 1).toNatClampNeg), .int (gi M 62 (v3 + 2).toNatClampNeg), .int (gi M 62 (v3 + 3).toNatClampNeg), .int (gi M 62 (v3 + 4).toNatClampNeg), .int (gi M 62 (v3 + 5).toNatClampNeg)]) mlLa_93 hC_reckon rfl (by decide) rfl kv1 ⟨by decide, by decide⟩ ⟨Nat.zero_le _, Nat.zero_le _⟩ rfl (Nat.le_of_ble_eq_true rfl) (aftI (b' := b) ⟨Nat.le_refl _, Nat.le_refl _⟩ (fun rv N h => h) h)
    by_cases q21 : ((gi M 62 (v3).toNatClampNeg) &&& 63) = 19
    · refine x_tblIn (pc := 33) dLa_law_33 (by rw [q21]; decide) (by rw [q21]; decide) (off := 722) (by rw [q21]; rfl) (t := 755) rfl ?_
      have h := g2_19 q21
      clear g2_0 g2_1 g2_2 g2_3 g2_4 g2_5 g2_6 g2_7 g2_8 g2_9 g2_10 g2_11 g2_12 g2_13 g2_14 g2_15 g2_16 g2_17 g2_18 g2_19 g2_20 g2_21 g2_22 g2_23 g2_24 g2_25 g2_26 g2_27 g2_28 g2_29 g2_30 g2_31 g2_32 g2_33 g2_34 g2_35
      refine x_aload_n (pc := 755) dLa_law_755 rfl (q := 1) rfl ?_
      refine x_aload_n (pc := 756) dLa_law_756 rfl (q := 0) rfl ?_
      refine x_iload_n (pc := 757) dLa_law_757 rfl (q := 3) rfl ?_
      refine x_iconst (pc := 758) dLa_law_758 (v := 1) rfl ?_
      refine x_iadd (pc := 759) dLa_law_759 ?_
      obtain ⟨s532, h⟩ := h
      refine x_sld (pc := 760) dLa_law_760 s532 ?_
      exact x_invV (pc := 761) dLa_law_761 (c := 10) (S := []) (As := [.int (gi M 62 (v3 + 1).toNatClampNeg)]) mlLa_98 hC_widest rfl (by decide) rfl kv1 ⟨by decide, by decide⟩ ⟨Nat.zero_le _, Nat.zero_le _⟩ rfl (Nat.le_of_ble_eq_true rfl) (aftI (b' := b) ⟨Nat.le_refl _, Nat.le_refl _⟩ (fun rv N h => h) h)
    by_cases q22 : ((gi M 62 (v3).toNatClampNeg) &&& 63) = 20
    · refine x_tblIn (pc := 33) dLa_law_33 (by rw [q22]; decide) (by rw [q22]; decide) (off := 745) (by rw [q22]; rfl) (t := 778) rfl ?_
      have h := g2_20 q22
      clear g2_0 g2_1 g2_2 g2_3 g2_4 g2_5 g2_6 g2_7 g2_8 g2_9 g2_10 g2_11 g2_12 g2_13 g2_14 g2_15 g2_16 g2_17 g2_18 g2_19 g2_20 g2_21 g2_22 g2_23 g2_24 g2_25 g2_26 g2_27 g2_28 g2_29 g2_30 g2_31 g2_32 g2_33 g2_34 g2_35
      refine x_aload_n (pc := 778) dLa_law_778 rfl (q := 1) rfl ?_
      refine x_aload_n (pc := 779) dLa_law_779 rfl (q := 0) rfl ?_
      refine x_iload_n (pc := 780) dLa_law_780 rfl (q := 3) rfl ?_
      refine x_iconst (pc := 781) dLa_law_781 (v := 1) rfl ?_
      refine x_iadd (pc := 782) dLa_law_782 ?_
      obtain ⟨s533, h⟩ := h
      refine x_sld (pc := 783) dLa_law_783 s533 ?_
      refine x_aload_n (pc := 784) dLa_law_784 rfl (q := 0) rfl ?_
      refine x_iload_n (pc := 785) dLa_law_785 rfl (q := 3) rfl ?_
      refine x_iconst (pc := 786) dLa_law_786 (v := 2) rfl ?_
      refine x_iadd (pc := 787) dLa_law_787 ?_
      obtain ⟨s534, h⟩ := h
      refine x_sld (pc := 788) dLa_law_788 s534 ?_
      refine x_aload_n (pc := 789) dLa_law_789 rfl (q := 0) rfl ?_
      refine x_iload_n (pc := 790) dLa_law_790 rfl (q := 3) rfl ?_
      refine x_iconst (pc := 791) dLa_law_791 (v := 3) rfl ?_
      refine x_iadd (pc := 792) dLa_law_792 ?_
      obtain ⟨s535, h⟩ := h
      refine x_sld (pc := 793) dLa_law_793 s535 ?_
      exact x_invV (pc := 794) dLa_law_794 (c := 10) (S := []) (As := [.int (gi M 62 (v3 + 1).toNatClampNeg), .int (gi M 62 (v3 + 2).toNatClampNeg), .int (gi M 62 (v3 + 3).toNatClampNeg)]) mlLa_102 hC_near rfl (by decide) rfl kv1 ⟨by decide, by decide⟩ ⟨Nat.zero_le _, Nat.zero_le _⟩ rfl (Nat.le_of_ble_eq_true rfl) (aftI (b' := b) ⟨Nat.le_refl _, Nat.le_refl _⟩ (fun rv N h => h) h)
    by_cases q23 : ((gi M 62 (v3).toNatClampNeg) &&& 63) = 21
    · refine x_tblIn (pc := 33) dLa_law_33 (by rw [q23]; decide) (by rw [q23]; decide) (off := 788) (by rw [q23]; rfl) (t := 821) rfl ?_
      have h := g2_21 q23
      clear g2_0 g2_1 g2_2 g2_3 g2_4 g2_5 g2_6 g2_7 g2_8 g2_9 g2_10 g2_11 g2_12 g2_13 g2_14 g2_15 g2_16 g2_17 g2_18 g2_19 g2_20 g2_21 g2_22 g2_23 g2_24 g2_25 g2_26 g2_27 g2_28 g2_29 g2_30 g2_31 g2_32 g2_33 g2_34 g2_35
      refine x_aload_n (pc := 821) dLa_law_821 rfl (q := 1) rfl ?_
      refine x_aload_n (pc := 822) dLa_law_822 rfl (q := 0) rfl ?_
      refine x_iload_n (pc := 823) dLa_law_823 rfl (q := 3) rfl ?_
      refine x_iconst (pc := 824) dLa_law_824 (v := 1) rfl ?_
      refine x_iadd (pc := 825) dLa_law_825 ?_
      obtain ⟨s536, h⟩ := h
      refine x_sld (pc := 826) dLa_law_826 s536 ?_
      exact x_invV (pc := 827) dLa_law_827 (c := 10) (S := []) (As := [.int (gi M 62 (v3 + 1).toNatClampNeg)]) mlLa_106 hC_bring rfl (by decide) rfl kv1 ⟨by decide, by decide⟩ ⟨Nat.zero_le _, Nat.zero_le _⟩ rfl (Nat.le_of_ble_eq_true rfl) (aftI (b' := b) ⟨Nat.le_refl _, Nat.le_refl _⟩ (fun rv N h => h) h)
    by_cases q24 : ((gi M 62 (v3).toNatClampNeg) &&& 63) = 22
    · refine x_tblIn (pc := 33) dLa_law_33 (by rw [q24]; decide) (by rw [q24]; decide) (off := 811) (by rw [q24]; rfl) (t := 844) rfl ?_
      have h := g2_22 q24
      clear g2_0 g2_1 g2_2 g2_3 g2_4 g2_5 g2_6 g2_7 g2_8 g2_9 g2_10 g2_11 g2_12 g2_13 g2_14 g2_15 g2_16 g2_17 g2_18 g2_19 g2_20 g2_21 g2_22 g2_23 g2_24 g2_25 g2_26 g2_27 g2_28 g2_29 g2_30 g2_31 g2_32 g2_33 g2_34 g2_35
      refine x_aload_n (pc := 844) dLa_law_844 rfl (q := 1) rfl ?_
      refine x_aload_n (pc := 845) dLa_law_845 rfl (q := 0) rfl ?_
      refine x_iload_n (pc := 846) dLa_law_846 rfl (q := 3) rfl ?_
      refine x_iconst (pc := 847) dLa_law_847 (v := 1) rfl ?_
      refine x_iadd (pc := 848) dLa_law_848 ?_
      obtain ⟨s537, h⟩ := h
      refine x_sld (pc := 849) dLa_law_849 s537 ?_
      refine x_aload_n (pc := 850) dLa_law_850 rfl (q := 0) rfl ?_
      refine x_iload_n (pc := 851) dLa_law_851 rfl (q := 3) rfl ?_
      refine x_iconst (pc := 852) dLa_law_852 (v := 2) rfl ?_
      refine x_iadd (pc := 853) dLa_law_853 ?_
      obtain ⟨s538, h⟩ := h
      refine x_sld (pc := 854) dLa_law_854 s538 ?_
      exact x_invV (pc := 855) dLa_law_855 (c := 10) (S := []) (As := [.int (gi M 62 (v3 + 1).toNatClampNeg), .int (gi M 62 (v3 + 2).toNatClampNeg)]) mlLa_110 hC_copies rfl (by decide) rfl kv1 ⟨by decide, by decide⟩ ⟨Nat.zero_le _, Nat.zero_le _⟩ rfl (Nat.le_of_ble_eq_true rfl) (aftI (b' := b) ⟨Nat.le_refl _, Nat.le_refl _⟩ (fun rv N h => h) h)
    by_cases q25 : ((gi M 62 (v3).toNatClampNeg) &&& 63) = 23
    · refine x_tblIn (pc := 33) dLa_law_33 (by rw [q25]; decide) (by rw [q25]; decide) (off := 844) (by rw [q25]; rfl) (t := 877) rfl ?_
      have h := g2_23 q25
      clear g2_0 g2_1 g2_2 g2_3 g2_4 g2_5 g2_6 g2_7 g2_8 g2_9 g2_10 g2_11 g2_12 g2_13 g2_14 g2_15 g2_16 g2_17 g2_18 g2_19 g2_20 g2_21 g2_22 g2_23 g2_24 g2_25 g2_26 g2_27 g2_28 g2_29 g2_30 g2_31 g2_32 g2_33 g2_34 g2_35
      refine x_aload_n (pc := 877) dLa_law_877 rfl (q := 1) rfl ?_
      refine x_aload_n (pc := 878) dLa_law_878 rfl (q := 0) rfl ?_
      refine x_iload_n (pc := 879) dLa_law_879 rfl (q := 3) rfl ?_
      refine x_iconst (pc := 880) dLa_law_880 (v := 1) rfl ?_
      refine x_iadd (pc := 881) dLa_law_881 ?_
      obtain ⟨s539, h⟩ := h
      refine x_sld (pc := 882) dLa_law_882 s539 ?_
      refine x_aload_n (pc := 883) dLa_law_883 rfl (q := 0) rfl ?_
      refine x_iload_n (pc := 884) dLa_law_884 rfl (q := 3) rfl ?_
      refine x_iconst (pc := 885) dLa_law_885 (v := 2) rfl ?_
      refine x_iadd (pc := 886) dLa_law_886 ?_
      obtain ⟨s540, h⟩ := h
      refine x_sld (pc := 887) dLa_law_887 s540 ?_
      refine x_aload_n (pc := 888) dLa_law_888 rfl (q := 0) rfl ?_
      refine x_iload_n (pc := 889) dLa_law_889 rfl (q := 3) rfl ?_
      refine x_iconst (pc := 890) dLa_law_890 (v := 3) rfl ?_
      refine x_iadd (pc := 891) dLa_law_891 ?_
      obtain ⟨s541, h⟩ := h
      refine x_sld (pc := 892) dLa_law_892 s541 ?_
      exact x_invV (pc := 893) dLa_law_893 (c := 10) (S := []) (As := [.int (gi M 62 (v3 + 1).toNatClampNeg), .int (gi M 62 (v3 + 2).toNatClampNeg), .int (gi M 62 (v3 + 3).toNatClampNeg)]) mlLa_114 hC_argue rfl (by decide) rfl kv1 ⟨by decide, by decide⟩ ⟨Nat.zero_le _, Nat.zero_le _⟩ rfl (Nat.le_of_ble_eq_true rfl) (aftI (b' := b) ⟨Nat.le_refl _, Nat.le_refl _⟩ (fun rv N h => h) h)
    by_cases q26 : ((gi M 62 (v3).toNatClampNeg) &&& 63) = 24
    · refine x_tblIn (pc := 33) dLa_law_33 (by rw [q26]; decide) (by rw [q26]; decide) (off := 887) (by rw [q26]; rfl) (t := 920) rfl ?_
      have h := g2_24 q26
      clear g2_0 g2_1 g2_2 g2_3 g2_4 g2_5 g2_6 g2_7 g2_8 g2_9 g2_10 g2_11 g2_12 g2_13 g2_14 g2_15 g2_16 g2_17 g2_18 g2_19 g2_20 g2_21 g2_22 g2_23 g2_24 g2_25 g2_26 g2_27 g2_28 g2_29 g2_30 g2_31 g2_32 g2_33 g2_34 g2_35
      refine x_aload_n (pc := 920) dLa_law_920 rfl (q := 1) rfl ?_
      refine x_aload_n (pc := 921) dLa_law_921 rfl (q := 0) rfl ?_
      refine x_iload_n (pc := 922) dLa_law_922 rfl (q := 3) rfl ?_
      refine x_iconst (pc := 923) dLa_law_923 (v := 1) rfl ?_
      refine x_iadd (pc := 924) dLa_law_924 ?_
      obtain ⟨s542, h⟩ := h
      refine x_sld (pc := 925) dLa_law_925 s542 ?_
      refine x_aload_n (pc := 926) dLa_law_926 rfl (q := 0) rfl ?_
      refine x_iload_n (pc := 927) dLa_law_927 rfl (q := 3) rfl ?_
      refine x_iconst (pc := 928) dLa_law_928 (v := 2) rfl ?_
      refine x_iadd (pc := 929) dLa_law_929 ?_
      obtain ⟨s543, h⟩ := h
      refine x_sld (pc := 930) dLa_law_930 s543 ?_
      refine x_aload_n (pc := 931) dLa_law_931 rfl (q := 0) rfl ?_
      refine x_iload_n (pc := 932) dLa_law_932 rfl (q := 3) rfl ?_
      refine x_iconst (pc := 933) dLa_law_933 (v := 3) rfl ?_
      refine x_iadd (pc := 934) dLa_law_934 ?_
      obtain ⟨s544, h⟩ := h
      refine x_sld (pc := 935) dLa_law_935 s544 ?_
      exact x_invV (pc := 936) dLa_law_936 (c := 10) (S := []) (As := [.int (gi M 62 (v3 + 1).toNatClampNeg), .int (gi M 62 (v3 + 2).toNatClampNeg), .int (gi M 62 (v3 + 3).toNatClampNeg)]) mlLa_118 hC_game rfl (by decide) rfl kv1 ⟨by decide, by decide⟩ ⟨Nat.zero_le _, Nat.zero_le _⟩ rfl (Nat.le_of_ble_eq_true rfl) (aftI (b' := b) ⟨Nat.le_refl _, Nat.le_refl _⟩ (fun rv N h => h) h)
    by_cases q27 : ((gi M 62 (v3).toNatClampNeg) &&& 63) = 25
    · refine x_tblIn (pc := 33) dLa_law_33 (by rw [q27]; decide) (by rw [q27]; decide) (off := 930) (by rw [q27]; rfl) (t := 963) rfl ?_
      have h := g2_25 q27
      clear g2_0 g2_1 g2_2 g2_3 g2_4 g2_5 g2_6 g2_7 g2_8 g2_9 g2_10 g2_11 g2_12 g2_13 g2_14 g2_15 g2_16 g2_17 g2_18 g2_19 g2_20 g2_21 g2_22 g2_23 g2_24 g2_25 g2_26 g2_27 g2_28 g2_29 g2_30 g2_31 g2_32 g2_33 g2_34 g2_35
      refine x_aload_n (pc := 963) dLa_law_963 rfl (q := 1) rfl ?_
      refine x_aload_n (pc := 964) dLa_law_964 rfl (q := 0) rfl ?_
      refine x_iload_n (pc := 965) dLa_law_965 rfl (q := 3) rfl ?_
      refine x_iconst (pc := 966) dLa_law_966 (v := 1) rfl ?_
      refine x_iadd (pc := 967) dLa_law_967 ?_
      obtain ⟨s545, h⟩ := h
      refine x_sld (pc := 968) dLa_law_968 s545 ?_
      exact x_invV (pc := 969) dLa_law_969 (c := 10) (S := []) (As := [.int (gi M 62 (v3 + 1).toNatClampNeg)]) mlLa_122 hC_turn rfl (by decide) rfl kv1 ⟨by decide, by decide⟩ ⟨Nat.zero_le _, Nat.zero_le _⟩ rfl (Nat.le_of_ble_eq_true rfl) (aftI (b' := b) ⟨Nat.le_refl _, Nat.le_refl _⟩ (fun rv N h => h) h)
    by_cases q28 : ((gi M 62 (v3).toNatClampNeg) &&& 63) = 26
    · refine x_tblIn (pc := 33) dLa_law_33 (by rw [q28]; decide) (by rw [q28]; decide) (off := 953) (by rw [q28]; rfl) (t := 986) rfl ?_
      have h := g2_26 q28
      clear g2_0 g2_1 g2_2 g2_3 g2_4 g2_5 g2_6 g2_7 g2_8 g2_9 g2_10 g2_11 g2_12 g2_13 g2_14 g2_15 g2_16 g2_17 g2_18 g2_19 g2_20 g2_21 g2_22 g2_23 g2_24 g2_25 g2_26 g2_27 g2_28 g2_29 g2_30 g2_31 g2_32 g2_33 g2_34 g2_35
      refine x_aload_n (pc := 986) dLa_law_986 rfl (q := 1) rfl ?_
      refine x_aload_n (pc := 987) dLa_law_987 rfl (q := 0) rfl ?_
      refine x_iload_n (pc := 988) dLa_law_988 rfl (q := 3) rfl ?_
      refine x_iconst (pc := 989) dLa_law_989 (v := 1) rfl ?_
      refine x_iadd (pc := 990) dLa_law_990 ?_
      obtain ⟨s546, h⟩ := h
      refine x_sld (pc := 991) dLa_law_991 s546 ?_
      refine x_aload_n (pc := 992) dLa_law_992 rfl (q := 0) rfl ?_
      refine x_iload_n (pc := 993) dLa_law_993 rfl (q := 3) rfl ?_
      refine x_iconst (pc := 994) dLa_law_994 (v := 2) rfl ?_
      refine x_iadd (pc := 995) dLa_law_995 ?_
      obtain ⟨s547, h⟩ := h
      refine x_sld (pc := 996) dLa_law_996 s547 ?_
      refine x_aload_n (pc := 997) dLa_law_997 rfl (q := 0) rfl ?_
      refine x_iload_n (pc := 998) dLa_law_998 rfl (q := 3) rfl ?_
      refine x_iconst (pc := 999) dLa_law_999 (v := 3) rfl ?_
      refine x_iadd (pc := 1000) dLa_law_1000 ?_
      obtain ⟨s548, h⟩ := h
      refine x_sld (pc := 1001) dLa_law_1001 s548 ?_
      exact x_invV (pc := 1002) dLa_law_1002 (c := 10) (S := []) (As := [.int (gi M 62 (v3 + 1).toNatClampNeg), .int (gi M 62 (v3 + 2).toNatClampNeg), .int (gi M 62 (v3 + 3).toNatClampNeg)]) mlLa_126 hC_turns rfl (by decide) rfl kv1 ⟨by decide, by decide⟩ ⟨Nat.zero_le _, Nat.zero_le _⟩ rfl (Nat.le_of_ble_eq_true rfl) (aftI (b' := b) ⟨Nat.le_refl _, Nat.le_refl _⟩ (fun rv N h => h) h)
    by_cases q29 : ((gi M 62 (v3).toNatClampNeg) &&& 63) = 27
    · refine x_tblIn (pc := 33) dLa_law_33 (by rw [q29]; decide) (by rw [q29]; decide) (off := 996) (by rw [q29]; rfl) (t := 1029) rfl ?_
      have h := g2_27 q29
      clear g2_0 g2_1 g2_2 g2_3 g2_4 g2_5 g2_6 g2_7 g2_8 g2_9 g2_10 g2_11 g2_12 g2_13 g2_14 g2_15 g2_16 g2_17 g2_18 g2_19 g2_20 g2_21 g2_22 g2_23 g2_24 g2_25 g2_26 g2_27 g2_28 g2_29 g2_30 g2_31 g2_32 g2_33 g2_34 g2_35
      refine x_aload_n (pc := 1029) dLa_law_1029 rfl (q := 1) rfl ?_
      exact x_invV (pc := 1030) dLa_law_1030 (c := 10) (S := []) (As := []) mlLa_130 hC_keep rfl (by decide) rfl kv1 ⟨by decide, by decide⟩ ⟨Nat.zero_le _, Nat.zero_le _⟩ rfl (Nat.le_of_ble_eq_true rfl) (aftI (b' := b) ⟨Nat.le_refl _, Nat.le_refl _⟩ (fun rv N h => h) h)
    by_cases q30 : ((gi M 62 (v3).toNatClampNeg) &&& 63) = 28
    · refine x_tblIn (pc := 33) dLa_law_33 (by rw [q30]; decide) (by rw [q30]; decide) (off := 1009) (by rw [q30]; rfl) (t := 1042) rfl ?_
      have h := g2_28 q30
      clear g2_0 g2_1 g2_2 g2_3 g2_4 g2_5 g2_6 g2_7 g2_8 g2_9 g2_10 g2_11 g2_12 g2_13 g2_14 g2_15 g2_16 g2_17 g2_18 g2_19 g2_20 g2_21 g2_22 g2_23 g2_24 g2_25 g2_26 g2_27 g2_28 g2_29 g2_30 g2_31 g2_32 g2_33 g2_34 g2_35
      refine x_aload_n (pc := 1042) dLa_law_1042 rfl (q := 1) rfl ?_
      exact x_invV (pc := 1043) dLa_law_1043 (c := 10) (S := []) (As := []) mlLa_134 hC_swap rfl (by decide) rfl kv1 ⟨by decide, by decide⟩ ⟨Nat.zero_le _, Nat.zero_le _⟩ rfl (Nat.le_of_ble_eq_true rfl) (aftI (b' := b) ⟨Nat.le_refl _, Nat.le_refl _⟩ (fun rv N h => h) h)
    by_cases q31 : ((gi M 62 (v3).toNatClampNeg) &&& 63) = 29
    · refine x_tblIn (pc := 33) dLa_law_33 (by rw [q31]; decide) (by rw [q31]; decide) (off := 1022) (by rw [q31]; rfl) (t := 1055) rfl ?_
      have h := g2_29 q31
      clear g2_0 g2_1 g2_2 g2_3 g2_4 g2_5 g2_6 g2_7 g2_8 g2_9 g2_10 g2_11 g2_12 g2_13 g2_14 g2_15 g2_16 g2_17 g2_18 g2_19 g2_20 g2_21 g2_22 g2_23 g2_24 g2_25 g2_26 g2_27 g2_28 g2_29 g2_30 g2_31 g2_32 g2_33 g2_34 g2_35
      refine x_aload_n (pc := 1055) dLa_law_1055 rfl (q := 1) rfl ?_
      refine x_aload_n (pc := 1056) dLa_law_1056 rfl (q := 0) rfl ?_
      refine x_iload_n (pc := 1057) dLa_law_1057 rfl (q := 3) rfl ?_
      refine x_iconst (pc := 1058) dLa_law_1058 (v := 1) rfl ?_
      refine x_iadd (pc := 1059) dLa_law_1059 ?_
      obtain ⟨s549, h⟩ := h
      refine x_sld (pc := 1060) dLa_law_1060 s549 ?_
      exact x_invV (pc := 1061) dLa_law_1061 (c := 10) (S := []) (As := [.int (gi M 62 (v3 + 1).toNatClampNeg)]) mlLa_138 hC_differ rfl (by decide) rfl kv1 ⟨by decide, by decide⟩ ⟨Nat.zero_le _, Nat.zero_le _⟩ rfl (Nat.le_of_ble_eq_true rfl) (aftI (b' := b) ⟨Nat.le_refl _, Nat.le_refl _⟩ (fun rv N h => h) h)
    by_cases q32 : ((gi M 62 (v3).toNatClampNeg) &&& 63) = 30
    · refine x_tblIn (pc := 33) dLa_law_33 (by rw [q32]; decide) (by rw [q32]; decide) (off := 1045) (by rw [q32]; rfl) (t := 1078) rfl ?_
      have h := g2_30 q32
      clear g2_0 g2_1 g2_2 g2_3 g2_4 g2_5 g2_6 g2_7 g2_8 g2_9 g2_10 g2_11 g2_12 g2_13 g2_14 g2_15 g2_16 g2_17 g2_18 g2_19 g2_20 g2_21 g2_22 g2_23 g2_24 g2_25 g2_26 g2_27 g2_28 g2_29 g2_30 g2_31 g2_32 g2_33 g2_34 g2_35
      refine x_aload_n (pc := 1078) dLa_law_1078 rfl (q := 1) rfl ?_
      refine x_aload_n (pc := 1079) dLa_law_1079 rfl (q := 0) rfl ?_
      refine x_iload_n (pc := 1080) dLa_law_1080 rfl (q := 3) rfl ?_
      refine x_iconst (pc := 1081) dLa_law_1081 (v := 1) rfl ?_
      refine x_iadd (pc := 1082) dLa_law_1082 ?_
      obtain ⟨s550, h⟩ := h
      refine x_sld (pc := 1083) dLa_law_1083 s550 ?_
      exact x_invV (pc := 1084) dLa_law_1084 (c := 10) (S := []) (As := [.int (gi M 62 (v3 + 1).toNatClampNeg)]) mlLa_142 hC_brief rfl (by decide) rfl kv1 ⟨by decide, by decide⟩ ⟨Nat.zero_le _, Nat.zero_le _⟩ rfl (Nat.le_of_ble_eq_true rfl) (aftI (b' := b) ⟨Nat.le_refl _, Nat.le_refl _⟩ (fun rv N h => h) h)
    by_cases q33 : ((gi M 62 (v3).toNatClampNeg) &&& 63) = 31
    · refine x_tblIn (pc := 33) dLa_law_33 (by rw [q33]; decide) (by rw [q33]; decide) (off := 1068) (by rw [q33]; rfl) (t := 1101) rfl ?_
      have h := g2_31 q33
      clear g2_0 g2_1 g2_2 g2_3 g2_4 g2_5 g2_6 g2_7 g2_8 g2_9 g2_10 g2_11 g2_12 g2_13 g2_14 g2_15 g2_16 g2_17 g2_18 g2_19 g2_20 g2_21 g2_22 g2_23 g2_24 g2_25 g2_26 g2_27 g2_28 g2_29 g2_30 g2_31 g2_32 g2_33 g2_34 g2_35
      refine x_aload_n (pc := 1101) dLa_law_1101 rfl (q := 1) rfl ?_
      refine x_aload_n (pc := 1102) dLa_law_1102 rfl (q := 0) rfl ?_
      refine x_iload_n (pc := 1103) dLa_law_1103 rfl (q := 3) rfl ?_
      refine x_iconst (pc := 1104) dLa_law_1104 (v := 1) rfl ?_
      refine x_iadd (pc := 1105) dLa_law_1105 ?_
      obtain ⟨s551, h⟩ := h
      refine x_sld (pc := 1106) dLa_law_1106 s551 ?_
      refine x_aload_n (pc := 1107) dLa_law_1107 rfl (q := 0) rfl ?_
      refine x_iload_n (pc := 1108) dLa_law_1108 rfl (q := 3) rfl ?_
      refine x_iconst (pc := 1109) dLa_law_1109 (v := 2) rfl ?_
      refine x_iadd (pc := 1110) dLa_law_1110 ?_
      obtain ⟨s552, h⟩ := h
      refine x_sld (pc := 1111) dLa_law_1111 s552 ?_
      refine x_aload_n (pc := 1112) dLa_law_1112 rfl (q := 0) rfl ?_
      refine x_iload_n (pc := 1113) dLa_law_1113 rfl (q := 3) rfl ?_
      refine x_iconst (pc := 1114) dLa_law_1114 (v := 3) rfl ?_
      refine x_iadd (pc := 1115) dLa_law_1115 ?_
      obtain ⟨s553, h⟩ := h
      refine x_sld (pc := 1116) dLa_law_1116 s553 ?_
      exact x_invV (pc := 1117) dLa_law_1117 (c := 10) (S := []) (As := [.int (gi M 62 (v3 + 1).toNatClampNeg), .int (gi M 62 (v3 + 2).toNatClampNeg), .int (gi M 62 (v3 + 3).toNatClampNeg)]) mlLa_146 hC_sheet rfl (by decide) rfl kv1 ⟨by decide, by decide⟩ ⟨Nat.zero_le _, Nat.zero_le _⟩ rfl (Nat.le_of_ble_eq_true rfl) (aftI (b' := b) ⟨Nat.le_refl _, Nat.le_refl _⟩ (fun rv N h => h) h)
    by_cases q34 : ((gi M 62 (v3).toNatClampNeg) &&& 63) = 32
    · refine x_tblIn (pc := 33) dLa_law_33 (by rw [q34]; decide) (by rw [q34]; decide) (off := 1111) (by rw [q34]; rfl) (t := 1144) rfl ?_
      have h := g2_32 q34
      clear g2_0 g2_1 g2_2 g2_3 g2_4 g2_5 g2_6 g2_7 g2_8 g2_9 g2_10 g2_11 g2_12 g2_13 g2_14 g2_15 g2_16 g2_17 g2_18 g2_19 g2_20 g2_21 g2_22 g2_23 g2_24 g2_25 g2_26 g2_27 g2_28 g2_29 g2_30 g2_31 g2_32 g2_33 g2_34 g2_35
      refine x_aload_n (pc := 1144) dLa_law_1144 rfl (q := 1) rfl ?_
      refine x_aload_n (pc := 1145) dLa_law_1145 rfl (q := 0) rfl ?_
      refine x_iload_n (pc := 1146) dLa_law_1146 rfl (q := 3) rfl ?_
      refine x_iconst (pc := 1147) dLa_law_1147 (v := 1) rfl ?_
      refine x_iadd (pc := 1148) dLa_law_1148 ?_
      obtain ⟨s554, h⟩ := h
      refine x_sld (pc := 1149) dLa_law_1149 s554 ?_
      refine x_aload_n (pc := 1150) dLa_law_1150 rfl (q := 0) rfl ?_
      refine x_iload_n (pc := 1151) dLa_law_1151 rfl (q := 3) rfl ?_
      refine x_iconst (pc := 1152) dLa_law_1152 (v := 2) rfl ?_
      refine x_iadd (pc := 1153) dLa_law_1153 ?_
      obtain ⟨s555, h⟩ := h
      refine x_sld (pc := 1154) dLa_law_1154 s555 ?_
      refine x_aload_n (pc := 1155) dLa_law_1155 rfl (q := 0) rfl ?_
      refine x_iload_n (pc := 1156) dLa_law_1156 rfl (q := 3) rfl ?_
      refine x_iconst (pc := 1157) dLa_law_1157 (v := 3) rfl ?_
      refine x_iadd (pc := 1158) dLa_law_1158 ?_
      obtain ⟨s556, h⟩ := h
      refine x_sld (pc := 1159) dLa_law_1159 s556 ?_
      exact x_invV (pc := 1160) dLa_law_1160 (c := 10) (S := []) (As := [.int (gi M 62 (v3 + 1).toNatClampNeg), .int (gi M 62 (v3 + 2).toNatClampNeg), .int (gi M 62 (v3 + 3).toNatClampNeg)]) mlLa_150 hC_lay rfl (by decide) rfl kv1 ⟨by decide, by decide⟩ ⟨Nat.zero_le _, Nat.zero_le _⟩ rfl (Nat.le_of_ble_eq_true rfl) (aftI (b' := b) ⟨Nat.le_refl _, Nat.le_refl _⟩ (fun rv N h => h) h)
    by_cases q35 : ((gi M 62 (v3).toNatClampNeg) &&& 63) = 33
    · refine x_tblIn (pc := 33) dLa_law_33 (by rw [q35]; decide) (by rw [q35]; decide) (off := 1154) (by rw [q35]; rfl) (t := 1187) rfl ?_
      have h := g2_33 q35
      clear g2_0 g2_1 g2_2 g2_3 g2_4 g2_5 g2_6 g2_7 g2_8 g2_9 g2_10 g2_11 g2_12 g2_13 g2_14 g2_15 g2_16 g2_17 g2_18 g2_19 g2_20 g2_21 g2_22 g2_23 g2_24 g2_25 g2_26 g2_27 g2_28 g2_29 g2_30 g2_31 g2_32 g2_33 g2_34 g2_35
      refine x_aload_n (pc := 1187) dLa_law_1187 rfl (q := 1) rfl ?_
      refine x_aload_n (pc := 1188) dLa_law_1188 rfl (q := 0) rfl ?_
      refine x_iload_n (pc := 1189) dLa_law_1189 rfl (q := 3) rfl ?_
      refine x_iconst (pc := 1190) dLa_law_1190 (v := 1) rfl ?_
      refine x_iadd (pc := 1191) dLa_law_1191 ?_
      obtain ⟨s557, h⟩ := h
      refine x_sld (pc := 1192) dLa_law_1192 s557 ?_
      refine x_aload_n (pc := 1193) dLa_law_1193 rfl (q := 0) rfl ?_
      refine x_iload_n (pc := 1194) dLa_law_1194 rfl (q := 3) rfl ?_
      refine x_iconst (pc := 1195) dLa_law_1195 (v := 2) rfl ?_
      refine x_iadd (pc := 1196) dLa_law_1196 ?_
      obtain ⟨s558, h⟩ := h
      refine x_sld (pc := 1197) dLa_law_1197 s558 ?_
      refine x_aload_n (pc := 1198) dLa_law_1198 rfl (q := 0) rfl ?_
      refine x_iload_n (pc := 1199) dLa_law_1199 rfl (q := 3) rfl ?_
      refine x_iconst (pc := 1200) dLa_law_1200 (v := 3) rfl ?_
      refine x_iadd (pc := 1201) dLa_law_1201 ?_
      obtain ⟨s559, h⟩ := h
      refine x_sld (pc := 1202) dLa_law_1202 s559 ?_
      refine x_aload_n (pc := 1203) dLa_law_1203 rfl (q := 0) rfl ?_
      refine x_iload_n (pc := 1204) dLa_law_1204 rfl (q := 3) rfl ?_
      refine x_iconst (pc := 1205) dLa_law_1205 (v := 4) rfl ?_
      refine x_iadd (pc := 1206) dLa_law_1206 ?_
      obtain ⟨s560, h⟩ := h
      refine x_sld (pc := 1207) dLa_law_1207 s560 ?_
      refine x_aload_n (pc := 1208) dLa_law_1208 rfl (q := 0) rfl ?_
      refine x_iload_n (pc := 1209) dLa_law_1209 rfl (q := 3) rfl ?_
      refine x_iconst (pc := 1210) dLa_law_1210 (v := 5) rfl ?_
      refine x_iadd (pc := 1211) dLa_law_1211 ?_
      obtain ⟨s561, h⟩ := h
      refine x_sld (pc := 1212) dLa_law_1212 s561 ?_
      exact x_invV (pc := 1213) dLa_law_1213 (c := 10) (S := []) (As := [.int (gi M 62 (v3 + 1).toNatClampNeg), .int (gi M 62 (v3 + 2).toNatClampNeg), .int (gi M 62 (v3 + 3).toNatClampNeg), .int (gi M 62 (v3 + 4).toNatClampNeg), .int (gi M 62 (v3 + 5).toNatClampNeg)]) mlLa_154 hC_read rfl (by decide) rfl kv1 ⟨by decide, by decide⟩ ⟨Nat.zero_le _, Nat.zero_le _⟩ rfl (Nat.le_of_ble_eq_true rfl) (aftI (b' := b) ⟨Nat.le_refl _, Nat.le_refl _⟩ (fun rv N h => h) h)
    by_cases q36 : ((gi M 62 (v3).toNatClampNeg) &&& 63) = 34
    · refine x_tblIn (pc := 33) dLa_law_33 (by rw [q36]; decide) (by rw [q36]; decide) (off := 1217) (by rw [q36]; rfl) (t := 1250) rfl ?_
      have h := g2_34 q36
      clear g2_0 g2_1 g2_2 g2_3 g2_4 g2_5 g2_6 g2_7 g2_8 g2_9 g2_10 g2_11 g2_12 g2_13 g2_14 g2_15 g2_16 g2_17 g2_18 g2_19 g2_20 g2_21 g2_22 g2_23 g2_24 g2_25 g2_26 g2_27 g2_28 g2_29 g2_30 g2_31 g2_32 g2_33 g2_34 g2_35
      refine x_aload_n (pc := 1250) dLa_law_1250 rfl (q := 1) rfl ?_
      refine x_aload_n (pc := 1251) dLa_law_1251 rfl (q := 0) rfl ?_
      refine x_iload_n (pc := 1252) dLa_law_1252 rfl (q := 3) rfl ?_
      refine x_iconst (pc := 1253) dLa_law_1253 (v := 1) rfl ?_
      refine x_iadd (pc := 1254) dLa_law_1254 ?_
      obtain ⟨s562, h⟩ := h
      refine x_sld (pc := 1255) dLa_law_1255 s562 ?_
      exact x_invV (pc := 1256) dLa_law_1256 (c := 10) (S := []) (As := [.int (gi M 62 (v3 + 1).toNatClampNeg)]) mlLa_158 hC_count rfl (by decide) rfl kv1 ⟨by decide, by decide⟩ ⟨Nat.zero_le _, Nat.zero_le _⟩ rfl (Nat.le_of_ble_eq_true rfl) (aftI (b' := b) ⟨Nat.le_refl _, Nat.le_refl _⟩ (fun rv N h => h) h)
    have h := g2_35 ⟨q2, q3, q4, q5, q6, q7, q8, q9, q10, q11, q12, q13, q14, q15, q16, q17, q18, q19, q20, q21, q22, q23, q24, q25, q26, q27, q28, q29, q30, q31, q32, q33, q34, q35, q36⟩
    clear g2_0 g2_1 g2_2 g2_3 g2_4 g2_5 g2_6 g2_7 g2_8 g2_9 g2_10 g2_11 g2_12 g2_13 g2_14 g2_15 g2_16 g2_17 g2_18 g2_19 g2_20 g2_21 g2_22 g2_23 g2_24 g2_25 g2_26 g2_27 g2_28 g2_29 g2_30 g2_31 g2_32 g2_33 g2_34 g2_35
    have hout : ((gi M 62 (v3).toNatClampNeg) &&& 63).toInt < 0 ∨ 34 < ((gi M 62 (v3).toNatClampNeg) &&& 63).toInt := tblout (fun (k : Int) h1 h2 => by
      rcases (show k = 0 ∨ k = 1 ∨ k = 2 ∨ k = 3 ∨ k = 4 ∨ k = 5 ∨ k = 6 ∨ k = 7 ∨ k = 8 ∨ k = 9 ∨ k = 10 ∨ k = 11 ∨ k = 12 ∨ k = 13 ∨ k = 14 ∨ k = 15 ∨ k = 16 ∨ k = 17 ∨ k = 18 ∨ k = 19 ∨ k = 20 ∨ k = 21 ∨ k = 22 ∨ k = 23 ∨ k = 24 ∨ k = 25 ∨ k = 26 ∨ k = 27 ∨ k = 28 ∨ k = 29 ∨ k = 30 ∨ k = 31 ∨ k = 32 ∨ k = 33 ∨ k = 34 by omega) with rfl | rfl | rfl | rfl | rfl | rfl | rfl | rfl | rfl | rfl | rfl | rfl | rfl | rfl | rfl | rfl | rfl | rfl | rfl | rfl | rfl | rfl | rfl | rfl | rfl | rfl | rfl | rfl | rfl | rfl | rfl | rfl | rfl | rfl | rfl
      · exact q2
      · exact q3
      · exact q4
      · exact q5
      · exact q6
      · exact q7
      · exact q8
      · exact q9
      · exact q10
      · exact q11
      · exact q12
      · exact q13
      · exact q14
      · exact q15
      · exact q16
      · exact q17
      · exact q18
      · exact q19
      · exact q20
      · exact q21
      · exact q22
      · exact q23
      · exact q24
      · exact q25
      · exact q26
      · exact q27
      · exact q28
      · exact q29
      · exact q30
      · exact q31
      · exact q32
      · exact q33
      · exact q34
      · exact q35
      · exact q36)
    refine x_tblOut (pc := 33) dLa_law_33 hout (t := 1273) rfl ?_
    refine x_iinc (pc := 1273) dLa_law_1273 (q := 3) rfl (v := v3 + 6) rfl (by decide) (L' := [(3, .int (v3 + 6)), (0, .ref 62), (1, .ref v1), (2, .ref v2)]) rfl ?_
    refine x_goto (pc := 1276) dLa_law_1276 (t := 18) rfl ?_
    exact x_loc [1, 2, 3, 0] rfl h

theorem vLa_law_212 {M : Mm} {b : Nat × Nat} {K : Int32 → Mm → Prop} {v1 : Nat} {v2 : Nat} {v3 : Int32} {w0 : Int32} (kv2 : v2 % 64 = 11) 
    (h : vp_in (v3 + 1) M.1.2 ∧ (vp_in (v3 + 2) M.1.2 ∧ (CI mM_feed [.ref v2, .long ((((gi M 62 (v3 + 1).toNatClampNeg).toInt64) <<< (((32 : Int32)).toInt64 &&& 63)) ||| (((gi M 62 (v3 + 2).toNatClampNeg).toInt64) &&& 4294967295))] M (fun rv N => X mLa_law 237 [(0, .ref 62), (1, .ref v1), (2, .ref v2), (3, .int v3)] [.int rv] N b (QI K))))) : X mLa_law 212 [(0, .ref 62), (1, .ref v1), (2, .ref v2), (3, .int v3)] [.int w0] M b (QI K) := by
  refine x_wf (fun hw => ?_)
  refine x_pop (pc := 212) dLa_law_212 rfl ?_
  refine x_aload_n (pc := 213) dLa_law_213 rfl (q := 2) rfl ?_
  refine x_aload_n (pc := 214) dLa_law_214 rfl (q := 0) rfl ?_
  refine x_iload_n (pc := 215) dLa_law_215 rfl (q := 3) rfl ?_
  refine x_iconst (pc := 216) dLa_law_216 (v := 1) rfl ?_
  refine x_iadd (pc := 217) dLa_law_217 ?_
  obtain ⟨s501, h⟩ := h
  refine x_sld (pc := 218) dLa_law_218 s501 ?_
  refine x_i2l (pc := 219) dLa_law_219 ?_
  refine x_bipush (pc := 220) dLa_law_220 (v := 32) rfl ?_
  refine x_lshl (pc := 222) dLa_law_222 ?_
  refine x_aload_n (pc := 223) dLa_law_223 rfl (q := 0) rfl ?_
  refine x_iload_n (pc := 224) dLa_law_224 rfl (q := 3) rfl ?_
  refine x_iconst (pc := 225) dLa_law_225 (v := 2) rfl ?_
  refine x_iadd (pc := 226) dLa_law_226 ?_
  obtain ⟨s502, h⟩ := h
  refine x_sld (pc := 227) dLa_law_227 s502 ?_
  refine x_i2l (pc := 228) dLa_law_228 ?_
  refine x_ldc2 (pc := 229) dLa_law_229 klLa_13 ?_
  refine x_land (pc := 232) dLa_law_232 ?_
  refine x_lor (pc := 233) dLa_law_233 ?_
  exact x_invV (pc := 234) dLa_law_234 (c := 11) (S := []) (As := [.long ((((gi M 62 (v3 + 1).toNatClampNeg).toInt64) <<< (((32 : Int32)).toInt64 &&& 63)) ||| (((gi M 62 (v3 + 2).toNatClampNeg).toInt64) &&& 4294967295))]) mlLa_19 hM_feed rfl (by decide) rfl kv2 ⟨by decide, by decide⟩ ⟨Nat.zero_le _, Nat.zero_le _⟩ rfl (Nat.le_of_ble_eq_true rfl) (aftI (b' := b) ⟨Nat.le_refl _, Nat.le_refl _⟩ (fun rv N h => h) h)

theorem vLa_law_237 {M : Mm} {b : Nat × Nat} {K : Int32 → Mm → Prop} {v1 : Nat} {v2 : Nat} {v3 : Int32} {w0 : Int32}  
    (h : X mLa_law 18 [(0, .ref 62), (1, .ref v1), (2, .ref v2), (3, .int (v3 + 6))] [] M b (QI K)) : X mLa_law 237 [(0, .ref 62), (1, .ref v1), (2, .ref v2), (3, .int v3)] [.int w0] M b (QI K) := by
  refine x_wf (fun hw => ?_)
  refine x_pop (pc := 237) dLa_law_237 rfl ?_
  refine x_goto (pc := 238) dLa_law_238 (t := 1273) rfl ?_
  refine x_iinc (pc := 1273) dLa_law_1273 (q := 3) rfl (v := v3 + 6) rfl (by decide) (L' := [(3, .int (v3 + 6)), (0, .ref 62), (1, .ref v1), (2, .ref v2)]) rfl ?_
  refine x_goto (pc := 1276) dLa_law_1276 (t := 18) rfl ?_
  exact x_loc [1, 2, 3, 0] rfl h

theorem vLa_law_250 {M : Mm} {b : Nat × Nat} {K : Int32 → Mm → Prop} {v1 : Nat} {v2 : Nat} {v3 : Int32} {w0 : Int32} (kv2 : v2 % 64 = 11) 
    (h : vp_in (v3 + 1) M.1.2 ∧ (CI mM_end [.ref v2, .int (gi M 62 (v3 + 1).toNatClampNeg)] M (fun rv N => X mLa_law 260 [(0, .ref 62), (1, .ref v1), (2, .ref v2), (3, .int v3)] [.int rv] N b (QI K)))) : X mLa_law 250 [(0, .ref 62), (1, .ref v1), (2, .ref v2), (3, .int v3)] [.int w0] M b (QI K) := by
  refine x_wf (fun hw => ?_)
  refine x_pop (pc := 250) dLa_law_250 rfl ?_
  refine x_aload_n (pc := 251) dLa_law_251 rfl (q := 2) rfl ?_
  refine x_aload_n (pc := 252) dLa_law_252 rfl (q := 0) rfl ?_
  refine x_iload_n (pc := 253) dLa_law_253 rfl (q := 3) rfl ?_
  refine x_iconst (pc := 254) dLa_law_254 (v := 1) rfl ?_
  refine x_iadd (pc := 255) dLa_law_255 ?_
  obtain ⟨s501, h⟩ := h
  refine x_sld (pc := 256) dLa_law_256 s501 ?_
  exact x_invV (pc := 257) dLa_law_257 (c := 11) (S := []) (As := [.int (gi M 62 (v3 + 1).toNatClampNeg)]) mlLa_24 hM_end rfl (by decide) rfl kv2 ⟨by decide, by decide⟩ ⟨Nat.zero_le _, Nat.zero_le _⟩ rfl (Nat.le_of_ble_eq_true rfl) (aftI (b' := b) ⟨Nat.le_refl _, Nat.le_refl _⟩ (fun rv N h => h) h)

theorem vLa_law_260 {M : Mm} {b : Nat × Nat} {K : Int32 → Mm → Prop} {v1 : Nat} {v2 : Nat} {v3 : Int32} {w0 : Int32}  
    (h : X mLa_law 18 [(0, .ref 62), (1, .ref v1), (2, .ref v2), (3, .int (v3 + 6))] [] M b (QI K)) : X mLa_law 260 [(0, .ref 62), (1, .ref v1), (2, .ref v2), (3, .int v3)] [.int w0] M b (QI K) := by
  refine x_wf (fun hw => ?_)
  refine x_pop (pc := 260) dLa_law_260 rfl ?_
  refine x_goto (pc := 261) dLa_law_261 (t := 1273) rfl ?_
  refine x_iinc (pc := 1273) dLa_law_1273 (q := 3) rfl (v := v3 + 6) rfl (by decide) (L' := [(3, .int (v3 + 6)), (0, .ref 62), (1, .ref v1), (2, .ref v2)]) rfl ?_
  refine x_goto (pc := 1276) dLa_law_1276 (t := 18) rfl ?_
  exact x_loc [1, 2, 3, 0] rfl h

theorem vLa_law_268 {M : Mm} {b : Nat × Nat} {K : Int32 → Mm → Prop} {v1 : Nat} {v2 : Nat} {v3 : Int32} {w0 : Int32} (kv2 : v2 % 64 = 11) 
    (h : CI mM_library [.ref v2] M (fun rv N => X mLa_law 273 [(0, .ref 62), (1, .ref v1), (2, .ref v2), (3, .int v3)] [.int rv] N b (QI K))) : X mLa_law 268 [(0, .ref 62), (1, .ref v1), (2, .ref v2), (3, .int v3)] [.int w0] M b (QI K) := by
  refine x_wf (fun hw => ?_)
  refine x_pop (pc := 268) dLa_law_268 rfl ?_
  refine x_aload_n (pc := 269) dLa_law_269 rfl (q := 2) rfl ?_
  exact x_invV (pc := 270) dLa_law_270 (c := 11) (S := []) (As := []) mlLa_29 hM_library rfl (by decide) rfl kv2 ⟨by decide, by decide⟩ ⟨Nat.zero_le _, Nat.zero_le _⟩ rfl (Nat.le_of_ble_eq_true rfl) (aftI (b' := b) ⟨Nat.le_refl _, Nat.le_refl _⟩ (fun rv N h => h) h)

theorem vLa_law_273 {M : Mm} {b : Nat × Nat} {K : Int32 → Mm → Prop} {v1 : Nat} {v2 : Nat} {v3 : Int32} {w0 : Int32}  
    (h : X mLa_law 18 [(0, .ref 62), (1, .ref v1), (2, .ref v2), (3, .int (v3 + 6))] [] M b (QI K)) : X mLa_law 273 [(0, .ref 62), (1, .ref v1), (2, .ref v2), (3, .int v3)] [.int w0] M b (QI K) := by
  refine x_wf (fun hw => ?_)
  refine x_pop (pc := 273) dLa_law_273 rfl ?_
  refine x_goto (pc := 274) dLa_law_274 (t := 1273) rfl ?_
  refine x_iinc (pc := 1273) dLa_law_1273 (q := 3) rfl (v := v3 + 6) rfl (by decide) (L' := [(3, .int (v3 + 6)), (0, .ref 62), (1, .ref v1), (2, .ref v2)]) rfl ?_
  refine x_goto (pc := 1276) dLa_law_1276 (t := 18) rfl ?_
  exact x_loc [1, 2, 3, 0] rfl h

theorem vLa_law_281 {M : Mm} {b : Nat × Nat} {K : Int32 → Mm → Prop} {v1 : Nat} {v2 : Nat} {v3 : Int32} {w0 : Int32} (kv2 : v2 % 64 = 11) 
    (h : CI mM_rule [.ref v2] M (fun rv N => X mLa_law 286 [(0, .ref 62), (1, .ref v1), (2, .ref v2), (3, .int v3)] [.int rv] N b (QI K))) : X mLa_law 281 [(0, .ref 62), (1, .ref v1), (2, .ref v2), (3, .int v3)] [.int w0] M b (QI K) := by
  refine x_wf (fun hw => ?_)
  refine x_pop (pc := 281) dLa_law_281 rfl ?_
  refine x_aload_n (pc := 282) dLa_law_282 rfl (q := 2) rfl ?_
  exact x_invV (pc := 283) dLa_law_283 (c := 11) (S := []) (As := []) mlLa_33 hM_rule rfl (by decide) rfl kv2 ⟨by decide, by decide⟩ ⟨Nat.zero_le _, Nat.zero_le _⟩ rfl (Nat.le_of_ble_eq_true rfl) (aftI (b' := b) ⟨Nat.le_refl _, Nat.le_refl _⟩ (fun rv N h => h) h)

theorem vLa_law_286 {M : Mm} {b : Nat × Nat} {K : Int32 → Mm → Prop} {v1 : Nat} {v2 : Nat} {v3 : Int32} {w0 : Int32}  
    (h : X mLa_law 18 [(0, .ref 62), (1, .ref v1), (2, .ref v2), (3, .int (v3 + 6))] [] M b (QI K)) : X mLa_law 286 [(0, .ref 62), (1, .ref v1), (2, .ref v2), (3, .int v3)] [.int w0] M b (QI K) := by
  refine x_wf (fun hw => ?_)
  refine x_pop (pc := 286) dLa_law_286 rfl ?_
  refine x_goto (pc := 287) dLa_law_287 (t := 1273) rfl ?_
  refine x_iinc (pc := 1273) dLa_law_1273 (q := 3) rfl (v := v3 + 6) rfl (by decide) (L' := [(3, .int (v3 + 6)), (0, .ref 62), (1, .ref v1), (2, .ref v2)]) rfl ?_
  refine x_goto (pc := 1276) dLa_law_1276 (t := 18) rfl ?_
  exact x_loc [1, 2, 3, 0] rfl h

theorem vLa_law_294 {M : Mm} {b : Nat × Nat} {K : Int32 → Mm → Prop} {v1 : Nat} {v2 : Nat} {v3 : Int32} {w0 : Int32} (kv2 : v2 % 64 = 11) 
    (h : CI mM_fault [.ref v2] M (fun rv N => X mLa_law 299 [(0, .ref 62), (1, .ref v1), (2, .ref v2), (3, .int v3)] [.int rv] N b (QI K))) : X mLa_law 294 [(0, .ref 62), (1, .ref v1), (2, .ref v2), (3, .int v3)] [.int w0] M b (QI K) := by
  refine x_wf (fun hw => ?_)
  refine x_pop (pc := 294) dLa_law_294 rfl ?_
  refine x_aload_n (pc := 295) dLa_law_295 rfl (q := 2) rfl ?_
  exact x_invV (pc := 296) dLa_law_296 (c := 11) (S := []) (As := []) mlLa_37 hM_fault rfl (by decide) rfl kv2 ⟨by decide, by decide⟩ ⟨Nat.zero_le _, Nat.zero_le _⟩ rfl (Nat.le_of_ble_eq_true rfl) (aftI (b' := b) ⟨Nat.le_refl _, Nat.le_refl _⟩ (fun rv N h => h) h)

theorem vLa_law_299 {M : Mm} {b : Nat × Nat} {K : Int32 → Mm → Prop} {v1 : Nat} {v2 : Nat} {v3 : Int32} {w0 : Int32}  
    (h : X mLa_law 18 [(0, .ref 62), (1, .ref v1), (2, .ref v2), (3, .int (v3 + 6))] [] M b (QI K)) : X mLa_law 299 [(0, .ref 62), (1, .ref v1), (2, .ref v2), (3, .int v3)] [.int w0] M b (QI K) := by
  refine x_wf (fun hw => ?_)
  refine x_pop (pc := 299) dLa_law_299 rfl ?_
  refine x_goto (pc := 300) dLa_law_300 (t := 1273) rfl ?_
  refine x_iinc (pc := 1273) dLa_law_1273 (q := 3) rfl (v := v3 + 6) rfl (by decide) (L' := [(3, .int (v3 + 6)), (0, .ref 62), (1, .ref v1), (2, .ref v2)]) rfl ?_
  refine x_goto (pc := 1276) dLa_law_1276 (t := 18) rfl ?_
  exact x_loc [1, 2, 3, 0] rfl h

theorem vLa_law_312 {M : Mm} {b : Nat × Nat} {K : Int32 → Mm → Prop} {v1 : Nat} {v2 : Nat} {v3 : Int32} {w0 : Int32} (kv2 : v2 % 64 = 11) 
    (h : vp_in (v3 + 1) M.1.2 ∧ (CI mM_weighs [.ref v2, .int (gi M 62 (v3 + 1).toNatClampNeg)] M (fun rv N => X mLa_law 322 [(0, .ref 62), (1, .ref v1), (2, .ref v2), (3, .int v3)] [.int rv] N b (QI K)))) : X mLa_law 312 [(0, .ref 62), (1, .ref v1), (2, .ref v2), (3, .int v3)] [.int w0] M b (QI K) := by
  refine x_wf (fun hw => ?_)
  refine x_pop (pc := 312) dLa_law_312 rfl ?_
  refine x_aload_n (pc := 313) dLa_law_313 rfl (q := 2) rfl ?_
  refine x_aload_n (pc := 314) dLa_law_314 rfl (q := 0) rfl ?_
  refine x_iload_n (pc := 315) dLa_law_315 rfl (q := 3) rfl ?_
  refine x_iconst (pc := 316) dLa_law_316 (v := 1) rfl ?_
  refine x_iadd (pc := 317) dLa_law_317 ?_
  obtain ⟨s501, h⟩ := h
  refine x_sld (pc := 318) dLa_law_318 s501 ?_
  exact x_invV (pc := 319) dLa_law_319 (c := 11) (S := []) (As := [.int (gi M 62 (v3 + 1).toNatClampNeg)]) mlLa_41 hM_weighs rfl (by decide) rfl kv2 ⟨by decide, by decide⟩ ⟨Nat.zero_le _, Nat.zero_le _⟩ rfl (Nat.le_of_ble_eq_true rfl) (aftI (b' := b) ⟨Nat.le_refl _, Nat.le_refl _⟩ (fun rv N h => h) h)

theorem vLa_law_322 {M : Mm} {b : Nat × Nat} {K : Int32 → Mm → Prop} {v1 : Nat} {v2 : Nat} {v3 : Int32} {w0 : Int32}  
    (h : X mLa_law 18 [(0, .ref 62), (1, .ref v1), (2, .ref v2), (3, .int (v3 + 6))] [] M b (QI K)) : X mLa_law 322 [(0, .ref 62), (1, .ref v1), (2, .ref v2), (3, .int v3)] [.int w0] M b (QI K) := by
  refine x_wf (fun hw => ?_)
  refine x_pop (pc := 322) dLa_law_322 rfl ?_
  refine x_goto (pc := 323) dLa_law_323 (t := 1273) rfl ?_
  refine x_iinc (pc := 1273) dLa_law_1273 (q := 3) rfl (v := v3 + 6) rfl (by decide) (L' := [(3, .int (v3 + 6)), (0, .ref 62), (1, .ref v1), (2, .ref v2)]) rfl ?_
  refine x_goto (pc := 1276) dLa_law_1276 (t := 18) rfl ?_
  exact x_loc [1, 2, 3, 0] rfl h

theorem vLa_law_340 {M : Mm} {b : Nat × Nat} {K : Int32 → Mm → Prop} {v1 : Nat} {v2 : Nat} {v3 : Int32} {w0 : Int32} (kv2 : v2 % 64 = 11) 
    (h : vp_in (v3 + 1) M.1.2 ∧ (vp_in (v3 + 2) M.1.2 ∧ (CI mM_word [.ref v2, .int (gi M 62 (v3 + 1).toNatClampNeg), .int (gi M 62 (v3 + 2).toNatClampNeg)] M (fun rv N => X mLa_law 355 [(0, .ref 62), (1, .ref v1), (2, .ref v2), (3, .int v3)] [.int rv] N b (QI K))))) : X mLa_law 340 [(0, .ref 62), (1, .ref v1), (2, .ref v2), (3, .int v3)] [.int w0] M b (QI K) := by
  refine x_wf (fun hw => ?_)
  refine x_pop (pc := 340) dLa_law_340 rfl ?_
  refine x_aload_n (pc := 341) dLa_law_341 rfl (q := 2) rfl ?_
  refine x_aload_n (pc := 342) dLa_law_342 rfl (q := 0) rfl ?_
  refine x_iload_n (pc := 343) dLa_law_343 rfl (q := 3) rfl ?_
  refine x_iconst (pc := 344) dLa_law_344 (v := 1) rfl ?_
  refine x_iadd (pc := 345) dLa_law_345 ?_
  obtain ⟨s501, h⟩ := h
  refine x_sld (pc := 346) dLa_law_346 s501 ?_
  refine x_aload_n (pc := 347) dLa_law_347 rfl (q := 0) rfl ?_
  refine x_iload_n (pc := 348) dLa_law_348 rfl (q := 3) rfl ?_
  refine x_iconst (pc := 349) dLa_law_349 (v := 2) rfl ?_
  refine x_iadd (pc := 350) dLa_law_350 ?_
  obtain ⟨s502, h⟩ := h
  refine x_sld (pc := 351) dLa_law_351 s502 ?_
  exact x_invV (pc := 352) dLa_law_352 (c := 11) (S := []) (As := [.int (gi M 62 (v3 + 1).toNatClampNeg), .int (gi M 62 (v3 + 2).toNatClampNeg)]) mlLa_46 hM_word rfl (by decide) rfl kv2 ⟨by decide, by decide⟩ ⟨Nat.zero_le _, Nat.zero_le _⟩ rfl (Nat.le_of_ble_eq_true rfl) (aftI (b' := b) ⟨Nat.le_refl _, Nat.le_refl _⟩ (fun rv N h => h) h)

theorem vLa_law_355 {M : Mm} {b : Nat × Nat} {K : Int32 → Mm → Prop} {v1 : Nat} {v2 : Nat} {v3 : Int32} {w0 : Int32}  
    (h : X mLa_law 18 [(0, .ref 62), (1, .ref v1), (2, .ref v2), (3, .int (v3 + 6))] [] M b (QI K)) : X mLa_law 355 [(0, .ref 62), (1, .ref v1), (2, .ref v2), (3, .int v3)] [.int w0] M b (QI K) := by
  refine x_wf (fun hw => ?_)
  refine x_pop (pc := 355) dLa_law_355 rfl ?_
  refine x_goto (pc := 356) dLa_law_356 (t := 1273) rfl ?_
  refine x_iinc (pc := 1273) dLa_law_1273 (q := 3) rfl (v := v3 + 6) rfl (by decide) (L' := [(3, .int (v3 + 6)), (0, .ref 62), (1, .ref v1), (2, .ref v2)]) rfl ?_
  refine x_goto (pc := 1276) dLa_law_1276 (t := 18) rfl ?_
  exact x_loc [1, 2, 3, 0] rfl h

theorem vLa_law_373 {M : Mm} {b : Nat × Nat} {K : Int32 → Mm → Prop} {v1 : Nat} {v2 : Nat} {v3 : Int32} {w0 : Int32} (kv2 : v2 % 64 = 11) 
    (h : vp_in (v3 + 1) M.1.2 ∧ (vp_in (v3 + 2) M.1.2 ∧ (CI mM_says [.ref v2, .int (gi M 62 (v3 + 1).toNatClampNeg), .int (gi M 62 (v3 + 2).toNatClampNeg)] M (fun rv N => X mLa_law 388 [(0, .ref 62), (1, .ref v1), (2, .ref v2), (3, .int v3)] [.int rv] N b (QI K))))) : X mLa_law 373 [(0, .ref 62), (1, .ref v1), (2, .ref v2), (3, .int v3)] [.int w0] M b (QI K) := by
  refine x_wf (fun hw => ?_)
  refine x_pop (pc := 373) dLa_law_373 rfl ?_
  refine x_aload_n (pc := 374) dLa_law_374 rfl (q := 2) rfl ?_
  refine x_aload_n (pc := 375) dLa_law_375 rfl (q := 0) rfl ?_
  refine x_iload_n (pc := 376) dLa_law_376 rfl (q := 3) rfl ?_
  refine x_iconst (pc := 377) dLa_law_377 (v := 1) rfl ?_
  refine x_iadd (pc := 378) dLa_law_378 ?_
  obtain ⟨s501, h⟩ := h
  refine x_sld (pc := 379) dLa_law_379 s501 ?_
  refine x_aload_n (pc := 380) dLa_law_380 rfl (q := 0) rfl ?_
  refine x_iload_n (pc := 381) dLa_law_381 rfl (q := 3) rfl ?_
  refine x_iconst (pc := 382) dLa_law_382 (v := 2) rfl ?_
  refine x_iadd (pc := 383) dLa_law_383 ?_
  obtain ⟨s502, h⟩ := h
  refine x_sld (pc := 384) dLa_law_384 s502 ?_
  exact x_invV (pc := 385) dLa_law_385 (c := 11) (S := []) (As := [.int (gi M 62 (v3 + 1).toNatClampNeg), .int (gi M 62 (v3 + 2).toNatClampNeg)]) mlLa_50 hM_says rfl (by decide) rfl kv2 ⟨by decide, by decide⟩ ⟨Nat.zero_le _, Nat.zero_le _⟩ rfl (Nat.le_of_ble_eq_true rfl) (aftI (b' := b) ⟨Nat.le_refl _, Nat.le_refl _⟩ (fun rv N h => h) h)

theorem vLa_law_388 {M : Mm} {b : Nat × Nat} {K : Int32 → Mm → Prop} {v1 : Nat} {v2 : Nat} {v3 : Int32} {w0 : Int32}  
    (h : X mLa_law 18 [(0, .ref 62), (1, .ref v1), (2, .ref v2), (3, .int (v3 + 6))] [] M b (QI K)) : X mLa_law 388 [(0, .ref 62), (1, .ref v1), (2, .ref v2), (3, .int v3)] [.int w0] M b (QI K) := by
  refine x_wf (fun hw => ?_)
  refine x_pop (pc := 388) dLa_law_388 rfl ?_
  refine x_goto (pc := 389) dLa_law_389 (t := 1273) rfl ?_
  refine x_iinc (pc := 1273) dLa_law_1273 (q := 3) rfl (v := v3 + 6) rfl (by decide) (L' := [(3, .int (v3 + 6)), (0, .ref 62), (1, .ref v1), (2, .ref v2)]) rfl ?_
  refine x_goto (pc := 1276) dLa_law_1276 (t := 18) rfl ?_
  exact x_loc [1, 2, 3, 0] rfl h

theorem vLa_law_401 {M : Mm} {b : Nat × Nat} {K : Int32 → Mm → Prop} {v1 : Nat} {v2 : Nat} {v3 : Int32} {w0 : Int32} (kv2 : v2 % 64 = 11) 
    (h : vp_in (v3 + 1) M.1.2 ∧ (CI mM_words [.ref v2, .int (gi M 62 (v3 + 1).toNatClampNeg)] M (fun rv N => X mLa_law 411 [(0, .ref 62), (1, .ref v1), (2, .ref v2), (3, .int v3)] [.int rv] N b (QI K)))) : X mLa_law 401 [(0, .ref 62), (1, .ref v1), (2, .ref v2), (3, .int v3)] [.int w0] M b (QI K) := by
  refine x_wf (fun hw => ?_)
  refine x_pop (pc := 401) dLa_law_401 rfl ?_
  refine x_aload_n (pc := 402) dLa_law_402 rfl (q := 2) rfl ?_
  refine x_aload_n (pc := 403) dLa_law_403 rfl (q := 0) rfl ?_
  refine x_iload_n (pc := 404) dLa_law_404 rfl (q := 3) rfl ?_
  refine x_iconst (pc := 405) dLa_law_405 (v := 1) rfl ?_
  refine x_iadd (pc := 406) dLa_law_406 ?_
  obtain ⟨s501, h⟩ := h
  refine x_sld (pc := 407) dLa_law_407 s501 ?_
  exact x_invV (pc := 408) dLa_law_408 (c := 11) (S := []) (As := [.int (gi M 62 (v3 + 1).toNatClampNeg)]) mlLa_54 hM_words rfl (by decide) rfl kv2 ⟨by decide, by decide⟩ ⟨Nat.zero_le _, Nat.zero_le _⟩ rfl (Nat.le_of_ble_eq_true rfl) (aftI (b' := b) ⟨Nat.le_refl _, Nat.le_refl _⟩ (fun rv N h => h) h)

theorem vLa_law_411 {M : Mm} {b : Nat × Nat} {K : Int32 → Mm → Prop} {v1 : Nat} {v2 : Nat} {v3 : Int32} {w0 : Int32}  
    (h : X mLa_law 18 [(0, .ref 62), (1, .ref v1), (2, .ref v2), (3, .int (v3 + 6))] [] M b (QI K)) : X mLa_law 411 [(0, .ref 62), (1, .ref v1), (2, .ref v2), (3, .int v3)] [.int w0] M b (QI K) := by
  refine x_wf (fun hw => ?_)
  refine x_pop (pc := 411) dLa_law_411 rfl ?_
  refine x_goto (pc := 412) dLa_law_412 (t := 1273) rfl ?_
  refine x_iinc (pc := 1273) dLa_law_1273 (q := 3) rfl (v := v3 + 6) rfl (by decide) (L' := [(3, .int (v3 + 6)), (0, .ref 62), (1, .ref v1), (2, .ref v2)]) rfl ?_
  refine x_goto (pc := 1276) dLa_law_1276 (t := 18) rfl ?_
  exact x_loc [1, 2, 3, 0] rfl h

theorem vLa_law_429 {M : Mm} {b : Nat × Nat} {K : Int32 → Mm → Prop} {v1 : Nat} {v2 : Nat} {v3 : Int32} {w0 : Int32} (kv2 : v2 % 64 = 11) 
    (h : vp_in (v3 + 1) M.1.2 ∧ (vp_in (v3 + 2) M.1.2 ∧ (CI mM_meets [.ref v2, .int (gi M 62 (v3 + 1).toNatClampNeg), .int (gi M 62 (v3 + 2).toNatClampNeg)] M (fun rv N => X mLa_law 444 [(0, .ref 62), (1, .ref v1), (2, .ref v2), (3, .int v3)] [.int rv] N b (QI K))))) : X mLa_law 429 [(0, .ref 62), (1, .ref v1), (2, .ref v2), (3, .int v3)] [.int w0] M b (QI K) := by
  refine x_wf (fun hw => ?_)
  refine x_pop (pc := 429) dLa_law_429 rfl ?_
  refine x_aload_n (pc := 430) dLa_law_430 rfl (q := 2) rfl ?_
  refine x_aload_n (pc := 431) dLa_law_431 rfl (q := 0) rfl ?_
  refine x_iload_n (pc := 432) dLa_law_432 rfl (q := 3) rfl ?_
  refine x_iconst (pc := 433) dLa_law_433 (v := 1) rfl ?_
  refine x_iadd (pc := 434) dLa_law_434 ?_
  obtain ⟨s501, h⟩ := h
  refine x_sld (pc := 435) dLa_law_435 s501 ?_
  refine x_aload_n (pc := 436) dLa_law_436 rfl (q := 0) rfl ?_
  refine x_iload_n (pc := 437) dLa_law_437 rfl (q := 3) rfl ?_
  refine x_iconst (pc := 438) dLa_law_438 (v := 2) rfl ?_
  refine x_iadd (pc := 439) dLa_law_439 ?_
  obtain ⟨s502, h⟩ := h
  refine x_sld (pc := 440) dLa_law_440 s502 ?_
  exact x_invV (pc := 441) dLa_law_441 (c := 11) (S := []) (As := [.int (gi M 62 (v3 + 1).toNatClampNeg), .int (gi M 62 (v3 + 2).toNatClampNeg)]) mlLa_58 hM_meets rfl (by decide) rfl kv2 ⟨by decide, by decide⟩ ⟨Nat.zero_le _, Nat.zero_le _⟩ rfl (Nat.le_of_ble_eq_true rfl) (aftI (b' := b) ⟨Nat.le_refl _, Nat.le_refl _⟩ (fun rv N h => h) h)

theorem vLa_law_444 {M : Mm} {b : Nat × Nat} {K : Int32 → Mm → Prop} {v1 : Nat} {v2 : Nat} {v3 : Int32} {w0 : Int32}  
    (h : X mLa_law 18 [(0, .ref 62), (1, .ref v1), (2, .ref v2), (3, .int (v3 + 6))] [] M b (QI K)) : X mLa_law 444 [(0, .ref 62), (1, .ref v1), (2, .ref v2), (3, .int v3)] [.int w0] M b (QI K) := by
  refine x_wf (fun hw => ?_)
  refine x_pop (pc := 444) dLa_law_444 rfl ?_
  refine x_goto (pc := 445) dLa_law_445 (t := 1273) rfl ?_
  refine x_iinc (pc := 1273) dLa_law_1273 (q := 3) rfl (v := v3 + 6) rfl (by decide) (L' := [(3, .int (v3 + 6)), (0, .ref 62), (1, .ref v1), (2, .ref v2)]) rfl ?_
  refine x_goto (pc := 1276) dLa_law_1276 (t := 18) rfl ?_
  exact x_loc [1, 2, 3, 0] rfl h

theorem vLa_law_457 {M : Mm} {b : Nat × Nat} {K : Int32 → Mm → Prop} {v1 : Nat} {v2 : Nat} {v3 : Int32} {w0 : Int32} (kv2 : v2 % 64 = 11) 
    (h : vp_in (v3 + 1) M.1.2 ∧ (CI mM_steps [.ref v2, .int (gi M 62 (v3 + 1).toNatClampNeg)] M (fun rv N => X mLa_law 467 [(0, .ref 62), (1, .ref v1), (2, .ref v2), (3, .int v3)] [.int rv] N b (QI K)))) : X mLa_law 457 [(0, .ref 62), (1, .ref v1), (2, .ref v2), (3, .int v3)] [.int w0] M b (QI K) := by
  refine x_wf (fun hw => ?_)
  refine x_pop (pc := 457) dLa_law_457 rfl ?_
  refine x_aload_n (pc := 458) dLa_law_458 rfl (q := 2) rfl ?_
  refine x_aload_n (pc := 459) dLa_law_459 rfl (q := 0) rfl ?_
  refine x_iload_n (pc := 460) dLa_law_460 rfl (q := 3) rfl ?_
  refine x_iconst (pc := 461) dLa_law_461 (v := 1) rfl ?_
  refine x_iadd (pc := 462) dLa_law_462 ?_
  obtain ⟨s501, h⟩ := h
  refine x_sld (pc := 463) dLa_law_463 s501 ?_
  exact x_invV (pc := 464) dLa_law_464 (c := 11) (S := []) (As := [.int (gi M 62 (v3 + 1).toNatClampNeg)]) mlLa_62 hM_steps rfl (by decide) rfl kv2 ⟨by decide, by decide⟩ ⟨Nat.zero_le _, Nat.zero_le _⟩ rfl (Nat.le_of_ble_eq_true rfl) (aftI (b' := b) ⟨Nat.le_refl _, Nat.le_refl _⟩ (fun rv N h => h) h)

theorem vLa_law_467 {M : Mm} {b : Nat × Nat} {K : Int32 → Mm → Prop} {v1 : Nat} {v2 : Nat} {v3 : Int32} {w0 : Int32}  
    (h : X mLa_law 18 [(0, .ref 62), (1, .ref v1), (2, .ref v2), (3, .int (v3 + 6))] [] M b (QI K)) : X mLa_law 467 [(0, .ref 62), (1, .ref v1), (2, .ref v2), (3, .int v3)] [.int w0] M b (QI K) := by
  refine x_wf (fun hw => ?_)
  refine x_pop (pc := 467) dLa_law_467 rfl ?_
  refine x_goto (pc := 468) dLa_law_468 (t := 1273) rfl ?_
  refine x_iinc (pc := 1273) dLa_law_1273 (q := 3) rfl (v := v3 + 6) rfl (by decide) (L' := [(3, .int (v3 + 6)), (0, .ref 62), (1, .ref v1), (2, .ref v2)]) rfl ?_
  refine x_goto (pc := 1276) dLa_law_1276 (t := 18) rfl ?_
  exact x_loc [1, 2, 3, 0] rfl h

theorem vLa_law_485 {M : Mm} {b : Nat × Nat} {K : Int32 → Mm → Prop} {v1 : Nat} {v2 : Nat} {v3 : Int32} {w0 : Int32} (kv2 : v2 % 64 = 11) 
    (h : vp_in (v3 + 1) M.1.2 ∧ (vp_in (v3 + 2) M.1.2 ∧ (CI mM_each [.ref v2, .int (gi M 62 (v3 + 1).toNatClampNeg), .int (gi M 62 (v3 + 2).toNatClampNeg)] M (fun rv N => X mLa_law 500 [(0, .ref 62), (1, .ref v1), (2, .ref v2), (3, .int v3)] [.int rv] N b (QI K))))) : X mLa_law 485 [(0, .ref 62), (1, .ref v1), (2, .ref v2), (3, .int v3)] [.int w0] M b (QI K) := by
  refine x_wf (fun hw => ?_)
  refine x_pop (pc := 485) dLa_law_485 rfl ?_
  refine x_aload_n (pc := 486) dLa_law_486 rfl (q := 2) rfl ?_
  refine x_aload_n (pc := 487) dLa_law_487 rfl (q := 0) rfl ?_
  refine x_iload_n (pc := 488) dLa_law_488 rfl (q := 3) rfl ?_
  refine x_iconst (pc := 489) dLa_law_489 (v := 1) rfl ?_
  refine x_iadd (pc := 490) dLa_law_490 ?_
  obtain ⟨s501, h⟩ := h
  refine x_sld (pc := 491) dLa_law_491 s501 ?_
  refine x_aload_n (pc := 492) dLa_law_492 rfl (q := 0) rfl ?_
  refine x_iload_n (pc := 493) dLa_law_493 rfl (q := 3) rfl ?_
  refine x_iconst (pc := 494) dLa_law_494 (v := 2) rfl ?_
  refine x_iadd (pc := 495) dLa_law_495 ?_
  obtain ⟨s502, h⟩ := h
  refine x_sld (pc := 496) dLa_law_496 s502 ?_
  exact x_invV (pc := 497) dLa_law_497 (c := 11) (S := []) (As := [.int (gi M 62 (v3 + 1).toNatClampNeg), .int (gi M 62 (v3 + 2).toNatClampNeg)]) mlLa_66 hM_each rfl (by decide) rfl kv2 ⟨by decide, by decide⟩ ⟨Nat.zero_le _, Nat.zero_le _⟩ rfl (Nat.le_of_ble_eq_true rfl) (aftI (b' := b) ⟨Nat.le_refl _, Nat.le_refl _⟩ (fun rv N h => h) h)

theorem vLa_law_500 {M : Mm} {b : Nat × Nat} {K : Int32 → Mm → Prop} {v1 : Nat} {v2 : Nat} {v3 : Int32} {w0 : Int32}  
    (h : X mLa_law 18 [(0, .ref 62), (1, .ref v1), (2, .ref v2), (3, .int (v3 + 6))] [] M b (QI K)) : X mLa_law 500 [(0, .ref 62), (1, .ref v1), (2, .ref v2), (3, .int v3)] [.int w0] M b (QI K) := by
  refine x_wf (fun hw => ?_)
  refine x_pop (pc := 500) dLa_law_500 rfl ?_
  refine x_goto (pc := 501) dLa_law_501 (t := 1273) rfl ?_
  refine x_iinc (pc := 1273) dLa_law_1273 (q := 3) rfl (v := v3 + 6) rfl (by decide) (L' := [(3, .int (v3 + 6)), (0, .ref 62), (1, .ref v1), (2, .ref v2)]) rfl ?_
  refine x_goto (pc := 1276) dLa_law_1276 (t := 18) rfl ?_
  exact x_loc [1, 2, 3, 0] rfl h

theorem vLa_law_518 {M : Mm} {b : Nat × Nat} {K : Int32 → Mm → Prop} {v1 : Nat} {v2 : Nat} {v3 : Int32} {w0 : Int32} (kv2 : v2 % 64 = 11) 
    (h : vp_in (v3 + 1) M.1.2 ∧ (vp_in (v3 + 2) M.1.2 ∧ (CI mM_clash [.ref v2, .int (gi M 62 (v3 + 1).toNatClampNeg), .int (gi M 62 (v3 + 2).toNatClampNeg)] M (fun rv N => X mLa_law 533 [(0, .ref 62), (1, .ref v1), (2, .ref v2), (3, .int v3)] [.int rv] N b (QI K))))) : X mLa_law 518 [(0, .ref 62), (1, .ref v1), (2, .ref v2), (3, .int v3)] [.int w0] M b (QI K) := by
  refine x_wf (fun hw => ?_)
  refine x_pop (pc := 518) dLa_law_518 rfl ?_
  refine x_aload_n (pc := 519) dLa_law_519 rfl (q := 2) rfl ?_
  refine x_aload_n (pc := 520) dLa_law_520 rfl (q := 0) rfl ?_
  refine x_iload_n (pc := 521) dLa_law_521 rfl (q := 3) rfl ?_
  refine x_iconst (pc := 522) dLa_law_522 (v := 1) rfl ?_
  refine x_iadd (pc := 523) dLa_law_523 ?_
  obtain ⟨s501, h⟩ := h
  refine x_sld (pc := 524) dLa_law_524 s501 ?_
  refine x_aload_n (pc := 525) dLa_law_525 rfl (q := 0) rfl ?_
  refine x_iload_n (pc := 526) dLa_law_526 rfl (q := 3) rfl ?_
  refine x_iconst (pc := 527) dLa_law_527 (v := 2) rfl ?_
  refine x_iadd (pc := 528) dLa_law_528 ?_
  obtain ⟨s502, h⟩ := h
  refine x_sld (pc := 529) dLa_law_529 s502 ?_
  exact x_invV (pc := 530) dLa_law_530 (c := 11) (S := []) (As := [.int (gi M 62 (v3 + 1).toNatClampNeg), .int (gi M 62 (v3 + 2).toNatClampNeg)]) mlLa_70 hM_clash rfl (by decide) rfl kv2 ⟨by decide, by decide⟩ ⟨Nat.zero_le _, Nat.zero_le _⟩ rfl (Nat.le_of_ble_eq_true rfl) (aftI (b' := b) ⟨Nat.le_refl _, Nat.le_refl _⟩ (fun rv N h => h) h)

theorem vLa_law_533 {M : Mm} {b : Nat × Nat} {K : Int32 → Mm → Prop} {v1 : Nat} {v2 : Nat} {v3 : Int32} {w0 : Int32}  
    (h : X mLa_law 18 [(0, .ref 62), (1, .ref v1), (2, .ref v2), (3, .int (v3 + 6))] [] M b (QI K)) : X mLa_law 533 [(0, .ref 62), (1, .ref v1), (2, .ref v2), (3, .int v3)] [.int w0] M b (QI K) := by
  refine x_wf (fun hw => ?_)
  refine x_pop (pc := 533) dLa_law_533 rfl ?_
  refine x_goto (pc := 534) dLa_law_534 (t := 1273) rfl ?_
  refine x_iinc (pc := 1273) dLa_law_1273 (q := 3) rfl (v := v3 + 6) rfl (by decide) (L' := [(3, .int (v3 + 6)), (0, .ref 62), (1, .ref v1), (2, .ref v2)]) rfl ?_
  refine x_goto (pc := 1276) dLa_law_1276 (t := 18) rfl ?_
  exact x_loc [1, 2, 3, 0] rfl h

theorem vLa_law_556 {M : Mm} {b : Nat × Nat} {K : Int32 → Mm → Prop} {v1 : Nat} {v2 : Nat} {v3 : Int32} {w0 : Int32} (kv2 : v2 % 64 = 11) 
    (h : vp_in (v3 + 1) M.1.2 ∧ (vp_in (v3 + 2) M.1.2 ∧ (vp_in (v3 + 3) M.1.2 ∧ (CI mM_sides [.ref v2, .int (gi M 62 (v3 + 1).toNatClampNeg), .int (gi M 62 (v3 + 2).toNatClampNeg), .int (gi M 62 (v3 + 3).toNatClampNeg)] M (fun rv N => X mLa_law 576 [(0, .ref 62), (1, .ref v1), (2, .ref v2), (3, .int v3)] [.int rv] N b (QI K)))))) : X mLa_law 556 [(0, .ref 62), (1, .ref v1), (2, .ref v2), (3, .int v3)] [.int w0] M b (QI K) := by
  refine x_wf (fun hw => ?_)
  refine x_pop (pc := 556) dLa_law_556 rfl ?_
  refine x_aload_n (pc := 557) dLa_law_557 rfl (q := 2) rfl ?_
  refine x_aload_n (pc := 558) dLa_law_558 rfl (q := 0) rfl ?_
  refine x_iload_n (pc := 559) dLa_law_559 rfl (q := 3) rfl ?_
  refine x_iconst (pc := 560) dLa_law_560 (v := 1) rfl ?_
  refine x_iadd (pc := 561) dLa_law_561 ?_
  obtain ⟨s501, h⟩ := h
  refine x_sld (pc := 562) dLa_law_562 s501 ?_
  refine x_aload_n (pc := 563) dLa_law_563 rfl (q := 0) rfl ?_
  refine x_iload_n (pc := 564) dLa_law_564 rfl (q := 3) rfl ?_
  refine x_iconst (pc := 565) dLa_law_565 (v := 2) rfl ?_
  refine x_iadd (pc := 566) dLa_law_566 ?_
  obtain ⟨s502, h⟩ := h
  refine x_sld (pc := 567) dLa_law_567 s502 ?_
  refine x_aload_n (pc := 568) dLa_law_568 rfl (q := 0) rfl ?_
  refine x_iload_n (pc := 569) dLa_law_569 rfl (q := 3) rfl ?_
  refine x_iconst (pc := 570) dLa_law_570 (v := 3) rfl ?_
  refine x_iadd (pc := 571) dLa_law_571 ?_
  obtain ⟨s503, h⟩ := h
  refine x_sld (pc := 572) dLa_law_572 s503 ?_
  exact x_invV (pc := 573) dLa_law_573 (c := 11) (S := []) (As := [.int (gi M 62 (v3 + 1).toNatClampNeg), .int (gi M 62 (v3 + 2).toNatClampNeg), .int (gi M 62 (v3 + 3).toNatClampNeg)]) mlLa_75 hM_sides rfl (by decide) rfl kv2 ⟨by decide, by decide⟩ ⟨Nat.zero_le _, Nat.zero_le _⟩ rfl (Nat.le_of_ble_eq_true rfl) (aftI (b' := b) ⟨Nat.le_refl _, Nat.le_refl _⟩ (fun rv N h => h) h)

theorem vLa_law_576 {M : Mm} {b : Nat × Nat} {K : Int32 → Mm → Prop} {v1 : Nat} {v2 : Nat} {v3 : Int32} {w0 : Int32}  
    (h : X mLa_law 18 [(0, .ref 62), (1, .ref v1), (2, .ref v2), (3, .int (v3 + 6))] [] M b (QI K)) : X mLa_law 576 [(0, .ref 62), (1, .ref v1), (2, .ref v2), (3, .int v3)] [.int w0] M b (QI K) := by
  refine x_wf (fun hw => ?_)
  refine x_pop (pc := 576) dLa_law_576 rfl ?_
  refine x_goto (pc := 577) dLa_law_577 (t := 1273) rfl ?_
  refine x_iinc (pc := 1273) dLa_law_1273 (q := 3) rfl (v := v3 + 6) rfl (by decide) (L' := [(3, .int (v3 + 6)), (0, .ref 62), (1, .ref v1), (2, .ref v2)]) rfl ?_
  refine x_goto (pc := 1276) dLa_law_1276 (t := 18) rfl ?_
  exact x_loc [1, 2, 3, 0] rfl h

theorem vLa_law_594 {M : Mm} {b : Nat × Nat} {K : Int32 → Mm → Prop} {v1 : Nat} {v2 : Nat} {v3 : Int32} {w0 : Int32} (kv2 : v2 % 64 = 11) 
    (h : vp_in (v3 + 1) M.1.2 ∧ (vp_in (v3 + 2) M.1.2 ∧ (CI mM_hangs [.ref v2, .int (gi M 62 (v3 + 1).toNatClampNeg), .int (gi M 62 (v3 + 2).toNatClampNeg)] M (fun rv N => X mLa_law 609 [(0, .ref 62), (1, .ref v1), (2, .ref v2), (3, .int v3)] [.int rv] N b (QI K))))) : X mLa_law 594 [(0, .ref 62), (1, .ref v1), (2, .ref v2), (3, .int v3)] [.int w0] M b (QI K) := by
  refine x_wf (fun hw => ?_)
  refine x_pop (pc := 594) dLa_law_594 rfl ?_
  refine x_aload_n (pc := 595) dLa_law_595 rfl (q := 2) rfl ?_
  refine x_aload_n (pc := 596) dLa_law_596 rfl (q := 0) rfl ?_
  refine x_iload_n (pc := 597) dLa_law_597 rfl (q := 3) rfl ?_
  refine x_iconst (pc := 598) dLa_law_598 (v := 1) rfl ?_
  refine x_iadd (pc := 599) dLa_law_599 ?_
  obtain ⟨s501, h⟩ := h
  refine x_sld (pc := 600) dLa_law_600 s501 ?_
  refine x_aload_n (pc := 601) dLa_law_601 rfl (q := 0) rfl ?_
  refine x_iload_n (pc := 602) dLa_law_602 rfl (q := 3) rfl ?_
  refine x_iconst (pc := 603) dLa_law_603 (v := 2) rfl ?_
  refine x_iadd (pc := 604) dLa_law_604 ?_
  obtain ⟨s502, h⟩ := h
  refine x_sld (pc := 605) dLa_law_605 s502 ?_
  exact x_invV (pc := 606) dLa_law_606 (c := 11) (S := []) (As := [.int (gi M 62 (v3 + 1).toNatClampNeg), .int (gi M 62 (v3 + 2).toNatClampNeg)]) mlLa_79 hM_hangs rfl (by decide) rfl kv2 ⟨by decide, by decide⟩ ⟨Nat.zero_le _, Nat.zero_le _⟩ rfl (Nat.le_of_ble_eq_true rfl) (aftI (b' := b) ⟨Nat.le_refl _, Nat.le_refl _⟩ (fun rv N h => h) h)

theorem vLa_law_609 {M : Mm} {b : Nat × Nat} {K : Int32 → Mm → Prop} {v1 : Nat} {v2 : Nat} {v3 : Int32} {w0 : Int32}  
    (h : X mLa_law 18 [(0, .ref 62), (1, .ref v1), (2, .ref v2), (3, .int (v3 + 6))] [] M b (QI K)) : X mLa_law 609 [(0, .ref 62), (1, .ref v1), (2, .ref v2), (3, .int v3)] [.int w0] M b (QI K) := by
  refine x_wf (fun hw => ?_)
  refine x_pop (pc := 609) dLa_law_609 rfl ?_
  refine x_goto (pc := 610) dLa_law_610 (t := 1273) rfl ?_
  refine x_iinc (pc := 1273) dLa_law_1273 (q := 3) rfl (v := v3 + 6) rfl (by decide) (L' := [(3, .int (v3 + 6)), (0, .ref 62), (1, .ref v1), (2, .ref v2)]) rfl ?_
  refine x_goto (pc := 1276) dLa_law_1276 (t := 18) rfl ?_
  exact x_loc [1, 2, 3, 0] rfl h

theorem vLa_law_627 {M : Mm} {b : Nat × Nat} {K : Int32 → Mm → Prop} {v1 : Nat} {v2 : Nat} {v3 : Int32} {w0 : Int32} (kv2 : v2 % 64 = 11) 
    (h : vp_in (v3 + 1) M.1.2 ∧ (vp_in (v3 + 2) M.1.2 ∧ (CI mM_held [.ref v2, .int (gi M 62 (v3 + 1).toNatClampNeg), .int (gi M 62 (v3 + 2).toNatClampNeg)] M (fun rv N => X mLa_law 642 [(0, .ref 62), (1, .ref v1), (2, .ref v2), (3, .int v3)] [.int rv] N b (QI K))))) : X mLa_law 627 [(0, .ref 62), (1, .ref v1), (2, .ref v2), (3, .int v3)] [.int w0] M b (QI K) := by
  refine x_wf (fun hw => ?_)
  refine x_pop (pc := 627) dLa_law_627 rfl ?_
  refine x_aload_n (pc := 628) dLa_law_628 rfl (q := 2) rfl ?_
  refine x_aload_n (pc := 629) dLa_law_629 rfl (q := 0) rfl ?_
  refine x_iload_n (pc := 630) dLa_law_630 rfl (q := 3) rfl ?_
  refine x_iconst (pc := 631) dLa_law_631 (v := 1) rfl ?_
  refine x_iadd (pc := 632) dLa_law_632 ?_
  obtain ⟨s501, h⟩ := h
  refine x_sld (pc := 633) dLa_law_633 s501 ?_
  refine x_aload_n (pc := 634) dLa_law_634 rfl (q := 0) rfl ?_
  refine x_iload_n (pc := 635) dLa_law_635 rfl (q := 3) rfl ?_
  refine x_iconst (pc := 636) dLa_law_636 (v := 2) rfl ?_
  refine x_iadd (pc := 637) dLa_law_637 ?_
  obtain ⟨s502, h⟩ := h
  refine x_sld (pc := 638) dLa_law_638 s502 ?_
  exact x_invV (pc := 639) dLa_law_639 (c := 11) (S := []) (As := [.int (gi M 62 (v3 + 1).toNatClampNeg), .int (gi M 62 (v3 + 2).toNatClampNeg)]) mlLa_83 hM_held rfl (by decide) rfl kv2 ⟨by decide, by decide⟩ ⟨Nat.zero_le _, Nat.zero_le _⟩ rfl (Nat.le_of_ble_eq_true rfl) (aftI (b' := b) ⟨Nat.le_refl _, Nat.le_refl _⟩ (fun rv N h => h) h)

theorem vLa_law_642 {M : Mm} {b : Nat × Nat} {K : Int32 → Mm → Prop} {v1 : Nat} {v2 : Nat} {v3 : Int32} {w0 : Int32}  
    (h : X mLa_law 18 [(0, .ref 62), (1, .ref v1), (2, .ref v2), (3, .int (v3 + 6))] [] M b (QI K)) : X mLa_law 642 [(0, .ref 62), (1, .ref v1), (2, .ref v2), (3, .int v3)] [.int w0] M b (QI K) := by
  refine x_wf (fun hw => ?_)
  refine x_pop (pc := 642) dLa_law_642 rfl ?_
  refine x_goto (pc := 643) dLa_law_643 (t := 1273) rfl ?_
  refine x_iinc (pc := 1273) dLa_law_1273 (q := 3) rfl (v := v3 + 6) rfl (by decide) (L' := [(3, .int (v3 + 6)), (0, .ref 62), (1, .ref v1), (2, .ref v2)]) rfl ?_
  refine x_goto (pc := 1276) dLa_law_1276 (t := 18) rfl ?_
  exact x_loc [1, 2, 3, 0] rfl h

theorem vLa_law_655 {M : Mm} {b : Nat × Nat} {K : Int32 → Mm → Prop} {v1 : Nat} {v2 : Nat} {v3 : Int32} {w0 : Int64} (kv2 : v2 % 64 = 11) 
    (h : vp_in (v3 + 1) M.1.2 ∧ (CJ mM_cases [.ref v2, .int (gi M 62 (v3 + 1).toNatClampNeg)] M (fun rv N => X mLa_law 665 [(0, .ref 62), (1, .ref v1), (2, .ref v2), (3, .int v3)] [.long rv] N b (QI K)))) : X mLa_law 655 [(0, .ref 62), (1, .ref v1), (2, .ref v2), (3, .int v3)] [.long w0] M b (QI K) := by
  refine x_wf (fun hw => ?_)
  refine x_pop2 (pc := 655) dLa_law_655 rfl ?_
  refine x_aload_n (pc := 656) dLa_law_656 rfl (q := 2) rfl ?_
  refine x_aload_n (pc := 657) dLa_law_657 rfl (q := 0) rfl ?_
  refine x_iload_n (pc := 658) dLa_law_658 rfl (q := 3) rfl ?_
  refine x_iconst (pc := 659) dLa_law_659 (v := 1) rfl ?_
  refine x_iadd (pc := 660) dLa_law_660 ?_
  obtain ⟨s501, h⟩ := h
  refine x_sld (pc := 661) dLa_law_661 s501 ?_
  exact x_invV (pc := 662) dLa_law_662 (c := 11) (S := []) (As := [.int (gi M 62 (v3 + 1).toNatClampNeg)]) mlLa_88 hM_cases rfl (by decide) rfl kv2 ⟨by decide, by decide⟩ ⟨Nat.zero_le _, Nat.zero_le _⟩ rfl (Nat.le_of_ble_eq_true rfl) (aftJ (b' := b) ⟨Nat.le_refl _, Nat.le_refl _⟩ (fun rv N h => h) h)

theorem vLa_law_665 {M : Mm} {b : Nat × Nat} {K : Int32 → Mm → Prop} {v1 : Nat} {v2 : Nat} {v3 : Int32} {w0 : Int64}  
    (h : X mLa_law 18 [(0, .ref 62), (1, .ref v1), (2, .ref v2), (3, .int (v3 + 6))] [] M b (QI K)) : X mLa_law 665 [(0, .ref 62), (1, .ref v1), (2, .ref v2), (3, .int v3)] [.long w0] M b (QI K) := by
  refine x_wf (fun hw => ?_)
  refine x_pop2 (pc := 665) dLa_law_665 rfl ?_
  refine x_goto (pc := 666) dLa_law_666 (t := 1273) rfl ?_
  refine x_iinc (pc := 1273) dLa_law_1273 (q := 3) rfl (v := v3 + 6) rfl (by decide) (L' := [(3, .int (v3 + 6)), (0, .ref 62), (1, .ref v1), (2, .ref v2)]) rfl ?_
  refine x_goto (pc := 1276) dLa_law_1276 (t := 18) rfl ?_
  exact x_loc [1, 2, 3, 0] rfl h

theorem vLa_law_678 {M : Mm} {b : Nat × Nat} {K : Int32 → Mm → Prop} {v1 : Nat} {v2 : Nat} {v3 : Int32} {w0 : Int32} (kv2 : v2 % 64 = 11) 
    (h : vp_in (v3 + 1) M.1.2 ∧ (CI mM_many [.ref v2, .int (gi M 62 (v3 + 1).toNatClampNeg)] M (fun rv N => X mLa_law 688 [(0, .ref 62), (1, .ref v1), (2, .ref v2), (3, .int v3)] [.int rv] N b (QI K)))) : X mLa_law 678 [(0, .ref 62), (1, .ref v1), (2, .ref v2), (3, .int v3)] [.int w0] M b (QI K) := by
  refine x_wf (fun hw => ?_)
  refine x_pop (pc := 678) dLa_law_678 rfl ?_
  refine x_aload_n (pc := 679) dLa_law_679 rfl (q := 2) rfl ?_
  refine x_aload_n (pc := 680) dLa_law_680 rfl (q := 0) rfl ?_
  refine x_iload_n (pc := 681) dLa_law_681 rfl (q := 3) rfl ?_
  refine x_iconst (pc := 682) dLa_law_682 (v := 1) rfl ?_
  refine x_iadd (pc := 683) dLa_law_683 ?_
  obtain ⟨s501, h⟩ := h
  refine x_sld (pc := 684) dLa_law_684 s501 ?_
  exact x_invV (pc := 685) dLa_law_685 (c := 11) (S := []) (As := [.int (gi M 62 (v3 + 1).toNatClampNeg)]) mlLa_92 hM_many rfl (by decide) rfl kv2 ⟨by decide, by decide⟩ ⟨Nat.zero_le _, Nat.zero_le _⟩ rfl (Nat.le_of_ble_eq_true rfl) (aftI (b' := b) ⟨Nat.le_refl _, Nat.le_refl _⟩ (fun rv N h => h) h)

theorem vLa_law_688 {M : Mm} {b : Nat × Nat} {K : Int32 → Mm → Prop} {v1 : Nat} {v2 : Nat} {v3 : Int32} {w0 : Int32}  
    (h : X mLa_law 18 [(0, .ref 62), (1, .ref v1), (2, .ref v2), (3, .int (v3 + 6))] [] M b (QI K)) : X mLa_law 688 [(0, .ref 62), (1, .ref v1), (2, .ref v2), (3, .int v3)] [.int w0] M b (QI K) := by
  refine x_wf (fun hw => ?_)
  refine x_pop (pc := 688) dLa_law_688 rfl ?_
  refine x_goto (pc := 689) dLa_law_689 (t := 1273) rfl ?_
  refine x_iinc (pc := 1273) dLa_law_1273 (q := 3) rfl (v := v3 + 6) rfl (by decide) (L' := [(3, .int (v3 + 6)), (0, .ref 62), (1, .ref v1), (2, .ref v2)]) rfl ?_
  refine x_goto (pc := 1276) dLa_law_1276 (t := 18) rfl ?_
  exact x_loc [1, 2, 3, 0] rfl h

theorem vLa_law_721 {M : Mm} {b : Nat × Nat} {K : Int32 → Mm → Prop} {v1 : Nat} {v2 : Nat} {v3 : Int32} {w0 : Int32} (kv2 : v2 % 64 = 11) 
    (h : vp_in (v3 + 1) M.1.2 ∧ (vp_in (v3 + 2) M.1.2 ∧ (vp_in (v3 + 3) M.1.2 ∧ (vp_in (v3 + 4) M.1.2 ∧ (vp_in (v3 + 5) M.1.2 ∧ (CI mM_reckon [.ref v2, .int (gi M 62 (v3 + 1).toNatClampNeg), .int (gi M 62 (v3 + 2).toNatClampNeg), .int (gi M 62 (v3 + 3).toNatClampNeg), .int (gi M 62 (v3 + 4).toNatClampNeg), .int (gi M 62 (v3 + 5).toNatClampNeg)] M (fun rv N => X mLa_law 751 [(0, .ref 62), (1, .ref v1), (2, .ref v2), (3, .int v3)] [.int rv] N b (QI K)))))))) : X mLa_law 721 [(0, .ref 62), (1, .ref v1), (2, .ref v2), (3, .int v3)] [.int w0] M b (QI K) := by
  refine x_wf (fun hw => ?_)
  refine x_pop (pc := 721) dLa_law_721 rfl ?_
  refine x_aload_n (pc := 722) dLa_law_722 rfl (q := 2) rfl ?_
  refine x_aload_n (pc := 723) dLa_law_723 rfl (q := 0) rfl ?_
  refine x_iload_n (pc := 724) dLa_law_724 rfl (q := 3) rfl ?_
  refine x_iconst (pc := 725) dLa_law_725 (v := 1) rfl ?_
  refine x_iadd (pc := 726) dLa_law_726 ?_
  obtain ⟨s501, h⟩ := h
  refine x_sld (pc := 727) dLa_law_727 s501 ?_
  refine x_aload_n (pc := 728) dLa_law_728 rfl (q := 0) rfl ?_
  refine x_iload_n (pc := 729) dLa_law_729 rfl (q := 3) rfl ?_
  refine x_iconst (pc := 730) dLa_law_730 (v := 2) rfl ?_
  refine x_iadd (pc := 731) dLa_law_731 ?_
  obtain ⟨s502, h⟩ := h
  refine x_sld (pc := 732) dLa_law_732 s502 ?_
  refine x_aload_n (pc := 733) dLa_law_733 rfl (q := 0) rfl ?_
  refine x_iload_n (pc := 734) dLa_law_734 rfl (q := 3) rfl ?_
  refine x_iconst (pc := 735) dLa_law_735 (v := 3) rfl ?_
  refine x_iadd (pc := 736) dLa_law_736 ?_
  obtain ⟨s503, h⟩ := h
  refine x_sld (pc := 737) dLa_law_737 s503 ?_
  refine x_aload_n (pc := 738) dLa_law_738 rfl (q := 0) rfl ?_
  refine x_iload_n (pc := 739) dLa_law_739 rfl (q := 3) rfl ?_
  refine x_iconst (pc := 740) dLa_law_740 (v := 4) rfl ?_
  refine x_iadd (pc := 741) dLa_law_741 ?_
  obtain ⟨s504, h⟩ := h
  refine x_sld (pc := 742) dLa_law_742 s504 ?_
  refine x_aload_n (pc := 743) dLa_law_743 rfl (q := 0) rfl ?_
  refine x_iload_n (pc := 744) dLa_law_744 rfl (q := 3) rfl ?_
  refine x_iconst (pc := 745) dLa_law_745 (v := 5) rfl ?_
  refine x_iadd (pc := 746) dLa_law_746 ?_
  obtain ⟨s505, h⟩ := h
  refine x_sld (pc := 747) dLa_law_747 s505 ?_
  exact x_invV (pc := 748) dLa_law_748 (c := 11) (S := []) (As := [.int (gi M 62 (v3 + 1).toNatClampNeg), .int (gi M 62 (v3 + 2).toNatClampNeg), .int (gi M 62 (v3 + 3).toNatClampNeg), .int (gi M 62 (v3 + 4).toNatClampNeg), .int (gi M 62 (v3 + 5).toNatClampNeg)]) mlLa_97 hM_reckon rfl (by decide) rfl kv2 ⟨by decide, by decide⟩ ⟨Nat.zero_le _, Nat.zero_le _⟩ rfl (Nat.le_of_ble_eq_true rfl) (aftI (b' := b) ⟨Nat.le_refl _, Nat.le_refl _⟩ (fun rv N h => h) h)

theorem vLa_law_751 {M : Mm} {b : Nat × Nat} {K : Int32 → Mm → Prop} {v1 : Nat} {v2 : Nat} {v3 : Int32} {w0 : Int32}  
    (h : X mLa_law 18 [(0, .ref 62), (1, .ref v1), (2, .ref v2), (3, .int (v3 + 6))] [] M b (QI K)) : X mLa_law 751 [(0, .ref 62), (1, .ref v1), (2, .ref v2), (3, .int v3)] [.int w0] M b (QI K) := by
  refine x_wf (fun hw => ?_)
  refine x_pop (pc := 751) dLa_law_751 rfl ?_
  refine x_goto (pc := 752) dLa_law_752 (t := 1273) rfl ?_
  refine x_iinc (pc := 1273) dLa_law_1273 (q := 3) rfl (v := v3 + 6) rfl (by decide) (L' := [(3, .int (v3 + 6)), (0, .ref 62), (1, .ref v1), (2, .ref v2)]) rfl ?_
  refine x_goto (pc := 1276) dLa_law_1276 (t := 18) rfl ?_
  exact x_loc [1, 2, 3, 0] rfl h

theorem vLa_law_764 {M : Mm} {b : Nat × Nat} {K : Int32 → Mm → Prop} {v1 : Nat} {v2 : Nat} {v3 : Int32} {w0 : Int32} (kv2 : v2 % 64 = 11) 
    (h : vp_in (v3 + 1) M.1.2 ∧ (CI mM_widest [.ref v2, .int (gi M 62 (v3 + 1).toNatClampNeg)] M (fun rv N => X mLa_law 774 [(0, .ref 62), (1, .ref v1), (2, .ref v2), (3, .int v3)] [.int rv] N b (QI K)))) : X mLa_law 764 [(0, .ref 62), (1, .ref v1), (2, .ref v2), (3, .int v3)] [.int w0] M b (QI K) := by
  refine x_wf (fun hw => ?_)
  refine x_pop (pc := 764) dLa_law_764 rfl ?_
  refine x_aload_n (pc := 765) dLa_law_765 rfl (q := 2) rfl ?_
  refine x_aload_n (pc := 766) dLa_law_766 rfl (q := 0) rfl ?_
  refine x_iload_n (pc := 767) dLa_law_767 rfl (q := 3) rfl ?_
  refine x_iconst (pc := 768) dLa_law_768 (v := 1) rfl ?_
  refine x_iadd (pc := 769) dLa_law_769 ?_
  obtain ⟨s501, h⟩ := h
  refine x_sld (pc := 770) dLa_law_770 s501 ?_
  exact x_invV (pc := 771) dLa_law_771 (c := 11) (S := []) (As := [.int (gi M 62 (v3 + 1).toNatClampNeg)]) mlLa_101 hM_widest rfl (by decide) rfl kv2 ⟨by decide, by decide⟩ ⟨Nat.zero_le _, Nat.zero_le _⟩ rfl (Nat.le_of_ble_eq_true rfl) (aftI (b' := b) ⟨Nat.le_refl _, Nat.le_refl _⟩ (fun rv N h => h) h)

theorem vLa_law_774 {M : Mm} {b : Nat × Nat} {K : Int32 → Mm → Prop} {v1 : Nat} {v2 : Nat} {v3 : Int32} {w0 : Int32}  
    (h : X mLa_law 18 [(0, .ref 62), (1, .ref v1), (2, .ref v2), (3, .int (v3 + 6))] [] M b (QI K)) : X mLa_law 774 [(0, .ref 62), (1, .ref v1), (2, .ref v2), (3, .int v3)] [.int w0] M b (QI K) := by
  refine x_wf (fun hw => ?_)
  refine x_pop (pc := 774) dLa_law_774 rfl ?_
  refine x_goto (pc := 775) dLa_law_775 (t := 1273) rfl ?_
  refine x_iinc (pc := 1273) dLa_law_1273 (q := 3) rfl (v := v3 + 6) rfl (by decide) (L' := [(3, .int (v3 + 6)), (0, .ref 62), (1, .ref v1), (2, .ref v2)]) rfl ?_
  refine x_goto (pc := 1276) dLa_law_1276 (t := 18) rfl ?_
  exact x_loc [1, 2, 3, 0] rfl h

theorem vLa_law_797 {M : Mm} {b : Nat × Nat} {K : Int32 → Mm → Prop} {v1 : Nat} {v2 : Nat} {v3 : Int32} {w0 : Int32} (kv2 : v2 % 64 = 11) 
    (h : vp_in (v3 + 1) M.1.2 ∧ (vp_in (v3 + 2) M.1.2 ∧ (vp_in (v3 + 3) M.1.2 ∧ (CI mM_near [.ref v2, .int (gi M 62 (v3 + 1).toNatClampNeg), .int (gi M 62 (v3 + 2).toNatClampNeg), .int (gi M 62 (v3 + 3).toNatClampNeg)] M (fun rv N => X mLa_law 817 [(0, .ref 62), (1, .ref v1), (2, .ref v2), (3, .int v3)] [.int rv] N b (QI K)))))) : X mLa_law 797 [(0, .ref 62), (1, .ref v1), (2, .ref v2), (3, .int v3)] [.int w0] M b (QI K) := by
  refine x_wf (fun hw => ?_)
  refine x_pop (pc := 797) dLa_law_797 rfl ?_
  refine x_aload_n (pc := 798) dLa_law_798 rfl (q := 2) rfl ?_
  refine x_aload_n (pc := 799) dLa_law_799 rfl (q := 0) rfl ?_
  refine x_iload_n (pc := 800) dLa_law_800 rfl (q := 3) rfl ?_
  refine x_iconst (pc := 801) dLa_law_801 (v := 1) rfl ?_
  refine x_iadd (pc := 802) dLa_law_802 ?_
  obtain ⟨s501, h⟩ := h
  refine x_sld (pc := 803) dLa_law_803 s501 ?_
  refine x_aload_n (pc := 804) dLa_law_804 rfl (q := 0) rfl ?_
  refine x_iload_n (pc := 805) dLa_law_805 rfl (q := 3) rfl ?_
  refine x_iconst (pc := 806) dLa_law_806 (v := 2) rfl ?_
  refine x_iadd (pc := 807) dLa_law_807 ?_
  obtain ⟨s502, h⟩ := h
  refine x_sld (pc := 808) dLa_law_808 s502 ?_
  refine x_aload_n (pc := 809) dLa_law_809 rfl (q := 0) rfl ?_
  refine x_iload_n (pc := 810) dLa_law_810 rfl (q := 3) rfl ?_
  refine x_iconst (pc := 811) dLa_law_811 (v := 3) rfl ?_
  refine x_iadd (pc := 812) dLa_law_812 ?_
  obtain ⟨s503, h⟩ := h
  refine x_sld (pc := 813) dLa_law_813 s503 ?_
  exact x_invV (pc := 814) dLa_law_814 (c := 11) (S := []) (As := [.int (gi M 62 (v3 + 1).toNatClampNeg), .int (gi M 62 (v3 + 2).toNatClampNeg), .int (gi M 62 (v3 + 3).toNatClampNeg)]) mlLa_105 hM_near rfl (by decide) rfl kv2 ⟨by decide, by decide⟩ ⟨Nat.zero_le _, Nat.zero_le _⟩ rfl (Nat.le_of_ble_eq_true rfl) (aftI (b' := b) ⟨Nat.le_refl _, Nat.le_refl _⟩ (fun rv N h => h) h)

theorem vLa_law_817 {M : Mm} {b : Nat × Nat} {K : Int32 → Mm → Prop} {v1 : Nat} {v2 : Nat} {v3 : Int32} {w0 : Int32}  
    (h : X mLa_law 18 [(0, .ref 62), (1, .ref v1), (2, .ref v2), (3, .int (v3 + 6))] [] M b (QI K)) : X mLa_law 817 [(0, .ref 62), (1, .ref v1), (2, .ref v2), (3, .int v3)] [.int w0] M b (QI K) := by
  refine x_wf (fun hw => ?_)
  refine x_pop (pc := 817) dLa_law_817 rfl ?_
  refine x_goto (pc := 818) dLa_law_818 (t := 1273) rfl ?_
  refine x_iinc (pc := 1273) dLa_law_1273 (q := 3) rfl (v := v3 + 6) rfl (by decide) (L' := [(3, .int (v3 + 6)), (0, .ref 62), (1, .ref v1), (2, .ref v2)]) rfl ?_
  refine x_goto (pc := 1276) dLa_law_1276 (t := 18) rfl ?_
  exact x_loc [1, 2, 3, 0] rfl h

theorem vLa_law_830 {M : Mm} {b : Nat × Nat} {K : Int32 → Mm → Prop} {v1 : Nat} {v2 : Nat} {v3 : Int32} {w0 : Int32} (kv2 : v2 % 64 = 11) 
    (h : vp_in (v3 + 1) M.1.2 ∧ (CI mM_bring [.ref v2, .int (gi M 62 (v3 + 1).toNatClampNeg)] M (fun rv N => X mLa_law 840 [(0, .ref 62), (1, .ref v1), (2, .ref v2), (3, .int v3)] [.int rv] N b (QI K)))) : X mLa_law 830 [(0, .ref 62), (1, .ref v1), (2, .ref v2), (3, .int v3)] [.int w0] M b (QI K) := by
  refine x_wf (fun hw => ?_)
  refine x_pop (pc := 830) dLa_law_830 rfl ?_
  refine x_aload_n (pc := 831) dLa_law_831 rfl (q := 2) rfl ?_
  refine x_aload_n (pc := 832) dLa_law_832 rfl (q := 0) rfl ?_
  refine x_iload_n (pc := 833) dLa_law_833 rfl (q := 3) rfl ?_
  refine x_iconst (pc := 834) dLa_law_834 (v := 1) rfl ?_
  refine x_iadd (pc := 835) dLa_law_835 ?_
  obtain ⟨s501, h⟩ := h
  refine x_sld (pc := 836) dLa_law_836 s501 ?_
  exact x_invV (pc := 837) dLa_law_837 (c := 11) (S := []) (As := [.int (gi M 62 (v3 + 1).toNatClampNeg)]) mlLa_109 hM_bring rfl (by decide) rfl kv2 ⟨by decide, by decide⟩ ⟨Nat.zero_le _, Nat.zero_le _⟩ rfl (Nat.le_of_ble_eq_true rfl) (aftI (b' := b) ⟨Nat.le_refl _, Nat.le_refl _⟩ (fun rv N h => h) h)

theorem vLa_law_840 {M : Mm} {b : Nat × Nat} {K : Int32 → Mm → Prop} {v1 : Nat} {v2 : Nat} {v3 : Int32} {w0 : Int32}  
    (h : X mLa_law 18 [(0, .ref 62), (1, .ref v1), (2, .ref v2), (3, .int (v3 + 6))] [] M b (QI K)) : X mLa_law 840 [(0, .ref 62), (1, .ref v1), (2, .ref v2), (3, .int v3)] [.int w0] M b (QI K) := by
  refine x_wf (fun hw => ?_)
  refine x_pop (pc := 840) dLa_law_840 rfl ?_
  refine x_goto (pc := 841) dLa_law_841 (t := 1273) rfl ?_
  refine x_iinc (pc := 1273) dLa_law_1273 (q := 3) rfl (v := v3 + 6) rfl (by decide) (L' := [(3, .int (v3 + 6)), (0, .ref 62), (1, .ref v1), (2, .ref v2)]) rfl ?_
  refine x_goto (pc := 1276) dLa_law_1276 (t := 18) rfl ?_
  exact x_loc [1, 2, 3, 0] rfl h

theorem vLa_law_858 {M : Mm} {b : Nat × Nat} {K : Int32 → Mm → Prop} {v1 : Nat} {v2 : Nat} {v3 : Int32} {w0 : Int32} (kv2 : v2 % 64 = 11) 
    (h : vp_in (v3 + 1) M.1.2 ∧ (vp_in (v3 + 2) M.1.2 ∧ (CI mM_copies [.ref v2, .int (gi M 62 (v3 + 1).toNatClampNeg), .int (gi M 62 (v3 + 2).toNatClampNeg)] M (fun rv N => X mLa_law 873 [(0, .ref 62), (1, .ref v1), (2, .ref v2), (3, .int v3)] [.int rv] N b (QI K))))) : X mLa_law 858 [(0, .ref 62), (1, .ref v1), (2, .ref v2), (3, .int v3)] [.int w0] M b (QI K) := by
  refine x_wf (fun hw => ?_)
  refine x_pop (pc := 858) dLa_law_858 rfl ?_
  refine x_aload_n (pc := 859) dLa_law_859 rfl (q := 2) rfl ?_
  refine x_aload_n (pc := 860) dLa_law_860 rfl (q := 0) rfl ?_
  refine x_iload_n (pc := 861) dLa_law_861 rfl (q := 3) rfl ?_
  refine x_iconst (pc := 862) dLa_law_862 (v := 1) rfl ?_
  refine x_iadd (pc := 863) dLa_law_863 ?_
  obtain ⟨s501, h⟩ := h
  refine x_sld (pc := 864) dLa_law_864 s501 ?_
  refine x_aload_n (pc := 865) dLa_law_865 rfl (q := 0) rfl ?_
  refine x_iload_n (pc := 866) dLa_law_866 rfl (q := 3) rfl ?_
  refine x_iconst (pc := 867) dLa_law_867 (v := 2) rfl ?_
  refine x_iadd (pc := 868) dLa_law_868 ?_
  obtain ⟨s502, h⟩ := h
  refine x_sld (pc := 869) dLa_law_869 s502 ?_
  exact x_invV (pc := 870) dLa_law_870 (c := 11) (S := []) (As := [.int (gi M 62 (v3 + 1).toNatClampNeg), .int (gi M 62 (v3 + 2).toNatClampNeg)]) mlLa_113 hM_copies rfl (by decide) rfl kv2 ⟨by decide, by decide⟩ ⟨Nat.zero_le _, Nat.zero_le _⟩ rfl (Nat.le_of_ble_eq_true rfl) (aftI (b' := b) ⟨Nat.le_refl _, Nat.le_refl _⟩ (fun rv N h => h) h)

theorem vLa_law_873 {M : Mm} {b : Nat × Nat} {K : Int32 → Mm → Prop} {v1 : Nat} {v2 : Nat} {v3 : Int32} {w0 : Int32}  
    (h : X mLa_law 18 [(0, .ref 62), (1, .ref v1), (2, .ref v2), (3, .int (v3 + 6))] [] M b (QI K)) : X mLa_law 873 [(0, .ref 62), (1, .ref v1), (2, .ref v2), (3, .int v3)] [.int w0] M b (QI K) := by
  refine x_wf (fun hw => ?_)
  refine x_pop (pc := 873) dLa_law_873 rfl ?_
  refine x_goto (pc := 874) dLa_law_874 (t := 1273) rfl ?_
  refine x_iinc (pc := 1273) dLa_law_1273 (q := 3) rfl (v := v3 + 6) rfl (by decide) (L' := [(3, .int (v3 + 6)), (0, .ref 62), (1, .ref v1), (2, .ref v2)]) rfl ?_
  refine x_goto (pc := 1276) dLa_law_1276 (t := 18) rfl ?_
  exact x_loc [1, 2, 3, 0] rfl h

theorem vLa_law_896 {M : Mm} {b : Nat × Nat} {K : Int32 → Mm → Prop} {v1 : Nat} {v2 : Nat} {v3 : Int32} {w0 : Int32} (kv2 : v2 % 64 = 11) 
    (h : vp_in (v3 + 1) M.1.2 ∧ (vp_in (v3 + 2) M.1.2 ∧ (vp_in (v3 + 3) M.1.2 ∧ (CI mM_argue [.ref v2, .int (gi M 62 (v3 + 1).toNatClampNeg), .int (gi M 62 (v3 + 2).toNatClampNeg), .int (gi M 62 (v3 + 3).toNatClampNeg)] M (fun rv N => X mLa_law 916 [(0, .ref 62), (1, .ref v1), (2, .ref v2), (3, .int v3)] [.int rv] N b (QI K)))))) : X mLa_law 896 [(0, .ref 62), (1, .ref v1), (2, .ref v2), (3, .int v3)] [.int w0] M b (QI K) := by
  refine x_wf (fun hw => ?_)
  refine x_pop (pc := 896) dLa_law_896 rfl ?_
  refine x_aload_n (pc := 897) dLa_law_897 rfl (q := 2) rfl ?_
  refine x_aload_n (pc := 898) dLa_law_898 rfl (q := 0) rfl ?_
  refine x_iload_n (pc := 899) dLa_law_899 rfl (q := 3) rfl ?_
  refine x_iconst (pc := 900) dLa_law_900 (v := 1) rfl ?_
  refine x_iadd (pc := 901) dLa_law_901 ?_
  obtain ⟨s501, h⟩ := h
  refine x_sld (pc := 902) dLa_law_902 s501 ?_
  refine x_aload_n (pc := 903) dLa_law_903 rfl (q := 0) rfl ?_
  refine x_iload_n (pc := 904) dLa_law_904 rfl (q := 3) rfl ?_
  refine x_iconst (pc := 905) dLa_law_905 (v := 2) rfl ?_
  refine x_iadd (pc := 906) dLa_law_906 ?_
  obtain ⟨s502, h⟩ := h
  refine x_sld (pc := 907) dLa_law_907 s502 ?_
  refine x_aload_n (pc := 908) dLa_law_908 rfl (q := 0) rfl ?_
  refine x_iload_n (pc := 909) dLa_law_909 rfl (q := 3) rfl ?_
  refine x_iconst (pc := 910) dLa_law_910 (v := 3) rfl ?_
  refine x_iadd (pc := 911) dLa_law_911 ?_
  obtain ⟨s503, h⟩ := h
  refine x_sld (pc := 912) dLa_law_912 s503 ?_
  exact x_invV (pc := 913) dLa_law_913 (c := 11) (S := []) (As := [.int (gi M 62 (v3 + 1).toNatClampNeg), .int (gi M 62 (v3 + 2).toNatClampNeg), .int (gi M 62 (v3 + 3).toNatClampNeg)]) mlLa_117 hM_argue rfl (by decide) rfl kv2 ⟨by decide, by decide⟩ ⟨Nat.zero_le _, Nat.zero_le _⟩ rfl (Nat.le_of_ble_eq_true rfl) (aftI (b' := b) ⟨Nat.le_refl _, Nat.le_refl _⟩ (fun rv N h => h) h)

theorem vLa_law_916 {M : Mm} {b : Nat × Nat} {K : Int32 → Mm → Prop} {v1 : Nat} {v2 : Nat} {v3 : Int32} {w0 : Int32}  
    (h : X mLa_law 18 [(0, .ref 62), (1, .ref v1), (2, .ref v2), (3, .int (v3 + 6))] [] M b (QI K)) : X mLa_law 916 [(0, .ref 62), (1, .ref v1), (2, .ref v2), (3, .int v3)] [.int w0] M b (QI K) := by
  refine x_wf (fun hw => ?_)
  refine x_pop (pc := 916) dLa_law_916 rfl ?_
  refine x_goto (pc := 917) dLa_law_917 (t := 1273) rfl ?_
  refine x_iinc (pc := 1273) dLa_law_1273 (q := 3) rfl (v := v3 + 6) rfl (by decide) (L' := [(3, .int (v3 + 6)), (0, .ref 62), (1, .ref v1), (2, .ref v2)]) rfl ?_
  refine x_goto (pc := 1276) dLa_law_1276 (t := 18) rfl ?_
  exact x_loc [1, 2, 3, 0] rfl h

theorem vLa_law_939 {M : Mm} {b : Nat × Nat} {K : Int32 → Mm → Prop} {v1 : Nat} {v2 : Nat} {v3 : Int32} {w0 : Int32} (kv2 : v2 % 64 = 11) 
    (h : vp_in (v3 + 1) M.1.2 ∧ (vp_in (v3 + 2) M.1.2 ∧ (vp_in (v3 + 3) M.1.2 ∧ (CI mM_game [.ref v2, .int (gi M 62 (v3 + 1).toNatClampNeg), .int (gi M 62 (v3 + 2).toNatClampNeg), .int (gi M 62 (v3 + 3).toNatClampNeg)] M (fun rv N => X mLa_law 959 [(0, .ref 62), (1, .ref v1), (2, .ref v2), (3, .int v3)] [.int rv] N b (QI K)))))) : X mLa_law 939 [(0, .ref 62), (1, .ref v1), (2, .ref v2), (3, .int v3)] [.int w0] M b (QI K) := by
  refine x_wf (fun hw => ?_)
  refine x_pop (pc := 939) dLa_law_939 rfl ?_
  refine x_aload_n (pc := 940) dLa_law_940 rfl (q := 2) rfl ?_
  refine x_aload_n (pc := 941) dLa_law_941 rfl (q := 0) rfl ?_
  refine x_iload_n (pc := 942) dLa_law_942 rfl (q := 3) rfl ?_
  refine x_iconst (pc := 943) dLa_law_943 (v := 1) rfl ?_
  refine x_iadd (pc := 944) dLa_law_944 ?_
  obtain ⟨s501, h⟩ := h
  refine x_sld (pc := 945) dLa_law_945 s501 ?_
  refine x_aload_n (pc := 946) dLa_law_946 rfl (q := 0) rfl ?_
  refine x_iload_n (pc := 947) dLa_law_947 rfl (q := 3) rfl ?_
  refine x_iconst (pc := 948) dLa_law_948 (v := 2) rfl ?_
  refine x_iadd (pc := 949) dLa_law_949 ?_
  obtain ⟨s502, h⟩ := h
  refine x_sld (pc := 950) dLa_law_950 s502 ?_
  refine x_aload_n (pc := 951) dLa_law_951 rfl (q := 0) rfl ?_
  refine x_iload_n (pc := 952) dLa_law_952 rfl (q := 3) rfl ?_
  refine x_iconst (pc := 953) dLa_law_953 (v := 3) rfl ?_
  refine x_iadd (pc := 954) dLa_law_954 ?_
  obtain ⟨s503, h⟩ := h
  refine x_sld (pc := 955) dLa_law_955 s503 ?_
  exact x_invV (pc := 956) dLa_law_956 (c := 11) (S := []) (As := [.int (gi M 62 (v3 + 1).toNatClampNeg), .int (gi M 62 (v3 + 2).toNatClampNeg), .int (gi M 62 (v3 + 3).toNatClampNeg)]) mlLa_121 hM_game rfl (by decide) rfl kv2 ⟨by decide, by decide⟩ ⟨Nat.zero_le _, Nat.zero_le _⟩ rfl (Nat.le_of_ble_eq_true rfl) (aftI (b' := b) ⟨Nat.le_refl _, Nat.le_refl _⟩ (fun rv N h => h) h)

theorem vLa_law_959 {M : Mm} {b : Nat × Nat} {K : Int32 → Mm → Prop} {v1 : Nat} {v2 : Nat} {v3 : Int32} {w0 : Int32}  
    (h : X mLa_law 18 [(0, .ref 62), (1, .ref v1), (2, .ref v2), (3, .int (v3 + 6))] [] M b (QI K)) : X mLa_law 959 [(0, .ref 62), (1, .ref v1), (2, .ref v2), (3, .int v3)] [.int w0] M b (QI K) := by
  refine x_wf (fun hw => ?_)
  refine x_pop (pc := 959) dLa_law_959 rfl ?_
  refine x_goto (pc := 960) dLa_law_960 (t := 1273) rfl ?_
  refine x_iinc (pc := 1273) dLa_law_1273 (q := 3) rfl (v := v3 + 6) rfl (by decide) (L' := [(3, .int (v3 + 6)), (0, .ref 62), (1, .ref v1), (2, .ref v2)]) rfl ?_
  refine x_goto (pc := 1276) dLa_law_1276 (t := 18) rfl ?_
  exact x_loc [1, 2, 3, 0] rfl h

theorem vLa_law_972 {M : Mm} {b : Nat × Nat} {K : Int32 → Mm → Prop} {v1 : Nat} {v2 : Nat} {v3 : Int32} {w0 : Int32} (kv2 : v2 % 64 = 11) 
    (h : vp_in (v3 + 1) M.1.2 ∧ (CI mM_turn [.ref v2, .int (gi M 62 (v3 + 1).toNatClampNeg)] M (fun rv N => X mLa_law 981 [(0, .ref 62), (1, .ref v1), (2, .ref v2), (3, .int v3)] [.int rv, .int w0] N b (QI K)))) : X mLa_law 972 [(0, .ref 62), (1, .ref v1), (2, .ref v2), (3, .int v3)] [.int w0] M b (QI K) := by
  refine x_wf (fun hw => ?_)
  refine x_aload_n (pc := 972) dLa_law_972 rfl (q := 2) rfl ?_
  refine x_aload_n (pc := 973) dLa_law_973 rfl (q := 0) rfl ?_
  refine x_iload_n (pc := 974) dLa_law_974 rfl (q := 3) rfl ?_
  refine x_iconst (pc := 975) dLa_law_975 (v := 1) rfl ?_
  refine x_iadd (pc := 976) dLa_law_976 ?_
  obtain ⟨s501, h⟩ := h
  refine x_sld (pc := 977) dLa_law_977 s501 ?_
  exact x_invV (pc := 978) dLa_law_978 (c := 11) (S := [.int w0]) (As := [.int (gi M 62 (v3 + 1).toNatClampNeg)]) mlLa_125 hM_turn rfl (by decide) rfl kv2 ⟨by decide, by decide⟩ ⟨Nat.zero_le _, Nat.zero_le _⟩ rfl (Nat.le_of_ble_eq_true rfl) (aftI (b' := b) ⟨Nat.le_refl _, Nat.le_refl _⟩ (fun rv N h => h) h)

theorem vLa_law_981 {M : Mm} {b : Nat × Nat} {K : Int32 → Mm → Prop} {v1 : Nat} {v2 : Nat} {v3 : Int32} {w0 : Int32} {w1 : Int32}  
    (h : (w1 = w0 → (X mLa_law 18 [(0, .ref 62), (1, .ref v1), (2, .ref v2), (3, .int (v3 + 6))] [] M b (QI K))) ∧ (¬ w1 = w0 → (K 0 M))) : X mLa_law 981 [(0, .ref 62), (1, .ref v1), (2, .ref v2), (3, .int v3)] [.int w0, .int w1] M b (QI K) := by
  refine x_wf (fun hw => ?_)
  obtain ⟨g1_0, g1_1⟩ := h
  refine x_icmp_eq (pc := 981) dLa_law_981 (t := 1273) rfl (fun q1 => ?_) (fun q1 => ?_)
  · have h := g1_0 q1
    refine x_iinc (pc := 1273) dLa_law_1273 (q := 3) rfl (v := v3 + 6) rfl (by decide) (L' := [(3, .int (v3 + 6)), (0, .ref 62), (1, .ref v1), (2, .ref v2)]) rfl ?_
    refine x_goto (pc := 1276) dLa_law_1276 (t := 18) rfl ?_
    exact x_loc [1, 2, 3, 0] rfl h
  · refine x_iconst (pc := 984) dLa_law_984 (v := 0) rfl ?_
    have h := g1_1 q1
    exact x_retQI (pc := 985) dLa_law_985 rfl (by (repeat' split) <;> rfl) h

theorem vLa_law_1005 {M : Mm} {b : Nat × Nat} {K : Int32 → Mm → Prop} {v1 : Nat} {v2 : Nat} {v3 : Int32} {w0 : Int32} (kv2 : v2 % 64 = 11) 
    (h : vp_in (v3 + 1) M.1.2 ∧ (vp_in (v3 + 2) M.1.2 ∧ (vp_in (v3 + 3) M.1.2 ∧ (CI mM_turns [.ref v2, .int (gi M 62 (v3 + 1).toNatClampNeg), .int (gi M 62 (v3 + 2).toNatClampNeg), .int (gi M 62 (v3 + 3).toNatClampNeg)] M (fun rv N => X mLa_law 1025 [(0, .ref 62), (1, .ref v1), (2, .ref v2), (3, .int v3)] [.int rv] N b (QI K)))))) : X mLa_law 1005 [(0, .ref 62), (1, .ref v1), (2, .ref v2), (3, .int v3)] [.int w0] M b (QI K) := by
  refine x_wf (fun hw => ?_)
  refine x_pop (pc := 1005) dLa_law_1005 rfl ?_
  refine x_aload_n (pc := 1006) dLa_law_1006 rfl (q := 2) rfl ?_
  refine x_aload_n (pc := 1007) dLa_law_1007 rfl (q := 0) rfl ?_
  refine x_iload_n (pc := 1008) dLa_law_1008 rfl (q := 3) rfl ?_
  refine x_iconst (pc := 1009) dLa_law_1009 (v := 1) rfl ?_
  refine x_iadd (pc := 1010) dLa_law_1010 ?_
  obtain ⟨s501, h⟩ := h
  refine x_sld (pc := 1011) dLa_law_1011 s501 ?_
  refine x_aload_n (pc := 1012) dLa_law_1012 rfl (q := 0) rfl ?_
  refine x_iload_n (pc := 1013) dLa_law_1013 rfl (q := 3) rfl ?_
  refine x_iconst (pc := 1014) dLa_law_1014 (v := 2) rfl ?_
  refine x_iadd (pc := 1015) dLa_law_1015 ?_
  obtain ⟨s502, h⟩ := h
  refine x_sld (pc := 1016) dLa_law_1016 s502 ?_
  refine x_aload_n (pc := 1017) dLa_law_1017 rfl (q := 0) rfl ?_
  refine x_iload_n (pc := 1018) dLa_law_1018 rfl (q := 3) rfl ?_
  refine x_iconst (pc := 1019) dLa_law_1019 (v := 3) rfl ?_
  refine x_iadd (pc := 1020) dLa_law_1020 ?_
  obtain ⟨s503, h⟩ := h
  refine x_sld (pc := 1021) dLa_law_1021 s503 ?_
  exact x_invV (pc := 1022) dLa_law_1022 (c := 11) (S := []) (As := [.int (gi M 62 (v3 + 1).toNatClampNeg), .int (gi M 62 (v3 + 2).toNatClampNeg), .int (gi M 62 (v3 + 3).toNatClampNeg)]) mlLa_129 hM_turns rfl (by decide) rfl kv2 ⟨by decide, by decide⟩ ⟨Nat.zero_le _, Nat.zero_le _⟩ rfl (Nat.le_of_ble_eq_true rfl) (aftI (b' := b) ⟨Nat.le_refl _, Nat.le_refl _⟩ (fun rv N h => h) h)

theorem vLa_law_1025 {M : Mm} {b : Nat × Nat} {K : Int32 → Mm → Prop} {v1 : Nat} {v2 : Nat} {v3 : Int32} {w0 : Int32}  
    (h : X mLa_law 18 [(0, .ref 62), (1, .ref v1), (2, .ref v2), (3, .int (v3 + 6))] [] M b (QI K)) : X mLa_law 1025 [(0, .ref 62), (1, .ref v1), (2, .ref v2), (3, .int v3)] [.int w0] M b (QI K) := by
  refine x_wf (fun hw => ?_)
  refine x_pop (pc := 1025) dLa_law_1025 rfl ?_
  refine x_goto (pc := 1026) dLa_law_1026 (t := 1273) rfl ?_
  refine x_iinc (pc := 1273) dLa_law_1273 (q := 3) rfl (v := v3 + 6) rfl (by decide) (L' := [(3, .int (v3 + 6)), (0, .ref 62), (1, .ref v1), (2, .ref v2)]) rfl ?_
  refine x_goto (pc := 1276) dLa_law_1276 (t := 18) rfl ?_
  exact x_loc [1, 2, 3, 0] rfl h

theorem vLa_law_1033 {M : Mm} {b : Nat × Nat} {K : Int32 → Mm → Prop} {v1 : Nat} {v2 : Nat} {v3 : Int32} {w0 : Int32} (kv2 : v2 % 64 = 11) 
    (h : CI mM_keep [.ref v2] M (fun rv N => X mLa_law 1038 [(0, .ref 62), (1, .ref v1), (2, .ref v2), (3, .int v3)] [.int rv] N b (QI K))) : X mLa_law 1033 [(0, .ref 62), (1, .ref v1), (2, .ref v2), (3, .int v3)] [.int w0] M b (QI K) := by
  refine x_wf (fun hw => ?_)
  refine x_pop (pc := 1033) dLa_law_1033 rfl ?_
  refine x_aload_n (pc := 1034) dLa_law_1034 rfl (q := 2) rfl ?_
  exact x_invV (pc := 1035) dLa_law_1035 (c := 11) (S := []) (As := []) mlLa_133 hM_keep rfl (by decide) rfl kv2 ⟨by decide, by decide⟩ ⟨Nat.zero_le _, Nat.zero_le _⟩ rfl (Nat.le_of_ble_eq_true rfl) (aftI (b' := b) ⟨Nat.le_refl _, Nat.le_refl _⟩ (fun rv N h => h) h)

theorem vLa_law_1038 {M : Mm} {b : Nat × Nat} {K : Int32 → Mm → Prop} {v1 : Nat} {v2 : Nat} {v3 : Int32} {w0 : Int32}  
    (h : X mLa_law 18 [(0, .ref 62), (1, .ref v1), (2, .ref v2), (3, .int (v3 + 6))] [] M b (QI K)) : X mLa_law 1038 [(0, .ref 62), (1, .ref v1), (2, .ref v2), (3, .int v3)] [.int w0] M b (QI K) := by
  refine x_wf (fun hw => ?_)
  refine x_pop (pc := 1038) dLa_law_1038 rfl ?_
  refine x_goto (pc := 1039) dLa_law_1039 (t := 1273) rfl ?_
  refine x_iinc (pc := 1273) dLa_law_1273 (q := 3) rfl (v := v3 + 6) rfl (by decide) (L' := [(3, .int (v3 + 6)), (0, .ref 62), (1, .ref v1), (2, .ref v2)]) rfl ?_
  refine x_goto (pc := 1276) dLa_law_1276 (t := 18) rfl ?_
  exact x_loc [1, 2, 3, 0] rfl h

theorem vLa_law_1046 {M : Mm} {b : Nat × Nat} {K : Int32 → Mm → Prop} {v1 : Nat} {v2 : Nat} {v3 : Int32} {w0 : Int32} (kv2 : v2 % 64 = 11) 
    (h : CI mM_swap [.ref v2] M (fun rv N => X mLa_law 1051 [(0, .ref 62), (1, .ref v1), (2, .ref v2), (3, .int v3)] [.int rv] N b (QI K))) : X mLa_law 1046 [(0, .ref 62), (1, .ref v1), (2, .ref v2), (3, .int v3)] [.int w0] M b (QI K) := by
  refine x_wf (fun hw => ?_)
  refine x_pop (pc := 1046) dLa_law_1046 rfl ?_
  refine x_aload_n (pc := 1047) dLa_law_1047 rfl (q := 2) rfl ?_
  exact x_invV (pc := 1048) dLa_law_1048 (c := 11) (S := []) (As := []) mlLa_137 hM_swap rfl (by decide) rfl kv2 ⟨by decide, by decide⟩ ⟨Nat.zero_le _, Nat.zero_le _⟩ rfl (Nat.le_of_ble_eq_true rfl) (aftI (b' := b) ⟨Nat.le_refl _, Nat.le_refl _⟩ (fun rv N h => h) h)

theorem vLa_law_1051 {M : Mm} {b : Nat × Nat} {K : Int32 → Mm → Prop} {v1 : Nat} {v2 : Nat} {v3 : Int32} {w0 : Int32}  
    (h : X mLa_law 18 [(0, .ref 62), (1, .ref v1), (2, .ref v2), (3, .int (v3 + 6))] [] M b (QI K)) : X mLa_law 1051 [(0, .ref 62), (1, .ref v1), (2, .ref v2), (3, .int v3)] [.int w0] M b (QI K) := by
  refine x_wf (fun hw => ?_)
  refine x_pop (pc := 1051) dLa_law_1051 rfl ?_
  refine x_goto (pc := 1052) dLa_law_1052 (t := 1273) rfl ?_
  refine x_iinc (pc := 1273) dLa_law_1273 (q := 3) rfl (v := v3 + 6) rfl (by decide) (L' := [(3, .int (v3 + 6)), (0, .ref 62), (1, .ref v1), (2, .ref v2)]) rfl ?_
  refine x_goto (pc := 1276) dLa_law_1276 (t := 18) rfl ?_
  exact x_loc [1, 2, 3, 0] rfl h

theorem vLa_law_1064 {M : Mm} {b : Nat × Nat} {K : Int32 → Mm → Prop} {v1 : Nat} {v2 : Nat} {v3 : Int32} {w0 : Int32} (kv2 : v2 % 64 = 11) 
    (h : vp_in (v3 + 1) M.1.2 ∧ (CI mM_differ [.ref v2, .int (gi M 62 (v3 + 1).toNatClampNeg)] M (fun rv N => X mLa_law 1074 [(0, .ref 62), (1, .ref v1), (2, .ref v2), (3, .int v3)] [.int rv] N b (QI K)))) : X mLa_law 1064 [(0, .ref 62), (1, .ref v1), (2, .ref v2), (3, .int v3)] [.int w0] M b (QI K) := by
  refine x_wf (fun hw => ?_)
  refine x_pop (pc := 1064) dLa_law_1064 rfl ?_
  refine x_aload_n (pc := 1065) dLa_law_1065 rfl (q := 2) rfl ?_
  refine x_aload_n (pc := 1066) dLa_law_1066 rfl (q := 0) rfl ?_
  refine x_iload_n (pc := 1067) dLa_law_1067 rfl (q := 3) rfl ?_
  refine x_iconst (pc := 1068) dLa_law_1068 (v := 1) rfl ?_
  refine x_iadd (pc := 1069) dLa_law_1069 ?_
  obtain ⟨s501, h⟩ := h
  refine x_sld (pc := 1070) dLa_law_1070 s501 ?_
  exact x_invV (pc := 1071) dLa_law_1071 (c := 11) (S := []) (As := [.int (gi M 62 (v3 + 1).toNatClampNeg)]) mlLa_141 hM_differ rfl (by decide) rfl kv2 ⟨by decide, by decide⟩ ⟨Nat.zero_le _, Nat.zero_le _⟩ rfl (Nat.le_of_ble_eq_true rfl) (aftI (b' := b) ⟨Nat.le_refl _, Nat.le_refl _⟩ (fun rv N h => h) h)

theorem vLa_law_1074 {M : Mm} {b : Nat × Nat} {K : Int32 → Mm → Prop} {v1 : Nat} {v2 : Nat} {v3 : Int32} {w0 : Int32}  
    (h : X mLa_law 18 [(0, .ref 62), (1, .ref v1), (2, .ref v2), (3, .int (v3 + 6))] [] M b (QI K)) : X mLa_law 1074 [(0, .ref 62), (1, .ref v1), (2, .ref v2), (3, .int v3)] [.int w0] M b (QI K) := by
  refine x_wf (fun hw => ?_)
  refine x_pop (pc := 1074) dLa_law_1074 rfl ?_
  refine x_goto (pc := 1075) dLa_law_1075 (t := 1273) rfl ?_
  refine x_iinc (pc := 1273) dLa_law_1273 (q := 3) rfl (v := v3 + 6) rfl (by decide) (L' := [(3, .int (v3 + 6)), (0, .ref 62), (1, .ref v1), (2, .ref v2)]) rfl ?_
  refine x_goto (pc := 1276) dLa_law_1276 (t := 18) rfl ?_
  exact x_loc [1, 2, 3, 0] rfl h

theorem vLa_law_1087 {M : Mm} {b : Nat × Nat} {K : Int32 → Mm → Prop} {v1 : Nat} {v2 : Nat} {v3 : Int32} {w0 : Int32} (kv2 : v2 % 64 = 11) 
    (h : vp_in (v3 + 1) M.1.2 ∧ (CI mM_brief [.ref v2, .int (gi M 62 (v3 + 1).toNatClampNeg)] M (fun rv N => X mLa_law 1097 [(0, .ref 62), (1, .ref v1), (2, .ref v2), (3, .int v3)] [.int rv] N b (QI K)))) : X mLa_law 1087 [(0, .ref 62), (1, .ref v1), (2, .ref v2), (3, .int v3)] [.int w0] M b (QI K) := by
  refine x_wf (fun hw => ?_)
  refine x_pop (pc := 1087) dLa_law_1087 rfl ?_
  refine x_aload_n (pc := 1088) dLa_law_1088 rfl (q := 2) rfl ?_
  refine x_aload_n (pc := 1089) dLa_law_1089 rfl (q := 0) rfl ?_
  refine x_iload_n (pc := 1090) dLa_law_1090 rfl (q := 3) rfl ?_
  refine x_iconst (pc := 1091) dLa_law_1091 (v := 1) rfl ?_
  refine x_iadd (pc := 1092) dLa_law_1092 ?_
  obtain ⟨s501, h⟩ := h
  refine x_sld (pc := 1093) dLa_law_1093 s501 ?_
  exact x_invV (pc := 1094) dLa_law_1094 (c := 11) (S := []) (As := [.int (gi M 62 (v3 + 1).toNatClampNeg)]) mlLa_145 hM_brief rfl (by decide) rfl kv2 ⟨by decide, by decide⟩ ⟨Nat.zero_le _, Nat.zero_le _⟩ rfl (Nat.le_of_ble_eq_true rfl) (aftI (b' := b) ⟨Nat.le_refl _, Nat.le_refl _⟩ (fun rv N h => h) h)

theorem vLa_law_1097 {M : Mm} {b : Nat × Nat} {K : Int32 → Mm → Prop} {v1 : Nat} {v2 : Nat} {v3 : Int32} {w0 : Int32}  
    (h : X mLa_law 18 [(0, .ref 62), (1, .ref v1), (2, .ref v2), (3, .int (v3 + 6))] [] M b (QI K)) : X mLa_law 1097 [(0, .ref 62), (1, .ref v1), (2, .ref v2), (3, .int v3)] [.int w0] M b (QI K) := by
  refine x_wf (fun hw => ?_)
  refine x_pop (pc := 1097) dLa_law_1097 rfl ?_
  refine x_goto (pc := 1098) dLa_law_1098 (t := 1273) rfl ?_
  refine x_iinc (pc := 1273) dLa_law_1273 (q := 3) rfl (v := v3 + 6) rfl (by decide) (L' := [(3, .int (v3 + 6)), (0, .ref 62), (1, .ref v1), (2, .ref v2)]) rfl ?_
  refine x_goto (pc := 1276) dLa_law_1276 (t := 18) rfl ?_
  exact x_loc [1, 2, 3, 0] rfl h

theorem vLa_law_1120 {M : Mm} {b : Nat × Nat} {K : Int32 → Mm → Prop} {v1 : Nat} {v2 : Nat} {v3 : Int32} {w0 : Int32} (kv2 : v2 % 64 = 11) 
    (h : vp_in (v3 + 1) M.1.2 ∧ (vp_in (v3 + 2) M.1.2 ∧ (vp_in (v3 + 3) M.1.2 ∧ (CI mM_sheet [.ref v2, .int (gi M 62 (v3 + 1).toNatClampNeg), .int (gi M 62 (v3 + 2).toNatClampNeg), .int (gi M 62 (v3 + 3).toNatClampNeg)] M (fun rv N => X mLa_law 1140 [(0, .ref 62), (1, .ref v1), (2, .ref v2), (3, .int v3)] [.int rv] N b (QI K)))))) : X mLa_law 1120 [(0, .ref 62), (1, .ref v1), (2, .ref v2), (3, .int v3)] [.int w0] M b (QI K) := by
  refine x_wf (fun hw => ?_)
  refine x_pop (pc := 1120) dLa_law_1120 rfl ?_
  refine x_aload_n (pc := 1121) dLa_law_1121 rfl (q := 2) rfl ?_
  refine x_aload_n (pc := 1122) dLa_law_1122 rfl (q := 0) rfl ?_
  refine x_iload_n (pc := 1123) dLa_law_1123 rfl (q := 3) rfl ?_
  refine x_iconst (pc := 1124) dLa_law_1124 (v := 1) rfl ?_
  refine x_iadd (pc := 1125) dLa_law_1125 ?_
  obtain ⟨s501, h⟩ := h
  refine x_sld (pc := 1126) dLa_law_1126 s501 ?_
  refine x_aload_n (pc := 1127) dLa_law_1127 rfl (q := 0) rfl ?_
  refine x_iload_n (pc := 1128) dLa_law_1128 rfl (q := 3) rfl ?_
  refine x_iconst (pc := 1129) dLa_law_1129 (v := 2) rfl ?_
  refine x_iadd (pc := 1130) dLa_law_1130 ?_
  obtain ⟨s502, h⟩ := h
  refine x_sld (pc := 1131) dLa_law_1131 s502 ?_
  refine x_aload_n (pc := 1132) dLa_law_1132 rfl (q := 0) rfl ?_
  refine x_iload_n (pc := 1133) dLa_law_1133 rfl (q := 3) rfl ?_
  refine x_iconst (pc := 1134) dLa_law_1134 (v := 3) rfl ?_
  refine x_iadd (pc := 1135) dLa_law_1135 ?_
  obtain ⟨s503, h⟩ := h
  refine x_sld (pc := 1136) dLa_law_1136 s503 ?_
  exact x_invV (pc := 1137) dLa_law_1137 (c := 11) (S := []) (As := [.int (gi M 62 (v3 + 1).toNatClampNeg), .int (gi M 62 (v3 + 2).toNatClampNeg), .int (gi M 62 (v3 + 3).toNatClampNeg)]) mlLa_149 hM_sheet rfl (by decide) rfl kv2 ⟨by decide, by decide⟩ ⟨Nat.zero_le _, Nat.zero_le _⟩ rfl (Nat.le_of_ble_eq_true rfl) (aftI (b' := b) ⟨Nat.le_refl _, Nat.le_refl _⟩ (fun rv N h => h) h)

theorem vLa_law_1140 {M : Mm} {b : Nat × Nat} {K : Int32 → Mm → Prop} {v1 : Nat} {v2 : Nat} {v3 : Int32} {w0 : Int32}  
    (h : X mLa_law 18 [(0, .ref 62), (1, .ref v1), (2, .ref v2), (3, .int (v3 + 6))] [] M b (QI K)) : X mLa_law 1140 [(0, .ref 62), (1, .ref v1), (2, .ref v2), (3, .int v3)] [.int w0] M b (QI K) := by
  refine x_wf (fun hw => ?_)
  refine x_pop (pc := 1140) dLa_law_1140 rfl ?_
  refine x_goto (pc := 1141) dLa_law_1141 (t := 1273) rfl ?_
  refine x_iinc (pc := 1273) dLa_law_1273 (q := 3) rfl (v := v3 + 6) rfl (by decide) (L' := [(3, .int (v3 + 6)), (0, .ref 62), (1, .ref v1), (2, .ref v2)]) rfl ?_
  refine x_goto (pc := 1276) dLa_law_1276 (t := 18) rfl ?_
  exact x_loc [1, 2, 3, 0] rfl h

theorem vLa_law_1163 {M : Mm} {b : Nat × Nat} {K : Int32 → Mm → Prop} {v1 : Nat} {v2 : Nat} {v3 : Int32} {w0 : Int32} (kv2 : v2 % 64 = 11) 
    (h : vp_in (v3 + 1) M.1.2 ∧ (vp_in (v3 + 2) M.1.2 ∧ (vp_in (v3 + 3) M.1.2 ∧ (CI mM_lay [.ref v2, .int (gi M 62 (v3 + 1).toNatClampNeg), .int (gi M 62 (v3 + 2).toNatClampNeg), .int (gi M 62 (v3 + 3).toNatClampNeg)] M (fun rv N => X mLa_law 1183 [(0, .ref 62), (1, .ref v1), (2, .ref v2), (3, .int v3)] [.int rv] N b (QI K)))))) : X mLa_law 1163 [(0, .ref 62), (1, .ref v1), (2, .ref v2), (3, .int v3)] [.int w0] M b (QI K) := by
  refine x_wf (fun hw => ?_)
  refine x_pop (pc := 1163) dLa_law_1163 rfl ?_
  refine x_aload_n (pc := 1164) dLa_law_1164 rfl (q := 2) rfl ?_
  refine x_aload_n (pc := 1165) dLa_law_1165 rfl (q := 0) rfl ?_
  refine x_iload_n (pc := 1166) dLa_law_1166 rfl (q := 3) rfl ?_
  refine x_iconst (pc := 1167) dLa_law_1167 (v := 1) rfl ?_
  refine x_iadd (pc := 1168) dLa_law_1168 ?_
  obtain ⟨s501, h⟩ := h
  refine x_sld (pc := 1169) dLa_law_1169 s501 ?_
  refine x_aload_n (pc := 1170) dLa_law_1170 rfl (q := 0) rfl ?_
  refine x_iload_n (pc := 1171) dLa_law_1171 rfl (q := 3) rfl ?_
  refine x_iconst (pc := 1172) dLa_law_1172 (v := 2) rfl ?_
  refine x_iadd (pc := 1173) dLa_law_1173 ?_
  obtain ⟨s502, h⟩ := h
  refine x_sld (pc := 1174) dLa_law_1174 s502 ?_
  refine x_aload_n (pc := 1175) dLa_law_1175 rfl (q := 0) rfl ?_
  refine x_iload_n (pc := 1176) dLa_law_1176 rfl (q := 3) rfl ?_
  refine x_iconst (pc := 1177) dLa_law_1177 (v := 3) rfl ?_
  refine x_iadd (pc := 1178) dLa_law_1178 ?_
  obtain ⟨s503, h⟩ := h
  refine x_sld (pc := 1179) dLa_law_1179 s503 ?_
  exact x_invV (pc := 1180) dLa_law_1180 (c := 11) (S := []) (As := [.int (gi M 62 (v3 + 1).toNatClampNeg), .int (gi M 62 (v3 + 2).toNatClampNeg), .int (gi M 62 (v3 + 3).toNatClampNeg)]) mlLa_153 hM_lay rfl (by decide) rfl kv2 ⟨by decide, by decide⟩ ⟨Nat.zero_le _, Nat.zero_le _⟩ rfl (Nat.le_of_ble_eq_true rfl) (aftI (b' := b) ⟨Nat.le_refl _, Nat.le_refl _⟩ (fun rv N h => h) h)

theorem vLa_law_1183 {M : Mm} {b : Nat × Nat} {K : Int32 → Mm → Prop} {v1 : Nat} {v2 : Nat} {v3 : Int32} {w0 : Int32}  
    (h : X mLa_law 18 [(0, .ref 62), (1, .ref v1), (2, .ref v2), (3, .int (v3 + 6))] [] M b (QI K)) : X mLa_law 1183 [(0, .ref 62), (1, .ref v1), (2, .ref v2), (3, .int v3)] [.int w0] M b (QI K) := by
  refine x_wf (fun hw => ?_)
  refine x_pop (pc := 1183) dLa_law_1183 rfl ?_
  refine x_goto (pc := 1184) dLa_law_1184 (t := 1273) rfl ?_
  refine x_iinc (pc := 1273) dLa_law_1273 (q := 3) rfl (v := v3 + 6) rfl (by decide) (L' := [(3, .int (v3 + 6)), (0, .ref 62), (1, .ref v1), (2, .ref v2)]) rfl ?_
  refine x_goto (pc := 1276) dLa_law_1276 (t := 18) rfl ?_
  exact x_loc [1, 2, 3, 0] rfl h

theorem vLa_law_1216 {M : Mm} {b : Nat × Nat} {K : Int32 → Mm → Prop} {v1 : Nat} {v2 : Nat} {v3 : Int32} {w0 : Int32} (kv2 : v2 % 64 = 11) 
    (h : vp_in (v3 + 1) M.1.2 ∧ (vp_in (v3 + 2) M.1.2 ∧ (vp_in (v3 + 3) M.1.2 ∧ (vp_in (v3 + 4) M.1.2 ∧ (vp_in (v3 + 5) M.1.2 ∧ (CI mM_read [.ref v2, .int (gi M 62 (v3 + 1).toNatClampNeg), .int (gi M 62 (v3 + 2).toNatClampNeg), .int (gi M 62 (v3 + 3).toNatClampNeg), .int (gi M 62 (v3 + 4).toNatClampNeg), .int (gi M 62 (v3 + 5).toNatClampNeg)] M (fun rv N => X mLa_law 1246 [(0, .ref 62), (1, .ref v1), (2, .ref v2), (3, .int v3)] [.int rv] N b (QI K)))))))) : X mLa_law 1216 [(0, .ref 62), (1, .ref v1), (2, .ref v2), (3, .int v3)] [.int w0] M b (QI K) := by
  refine x_wf (fun hw => ?_)
  refine x_pop (pc := 1216) dLa_law_1216 rfl ?_
  refine x_aload_n (pc := 1217) dLa_law_1217 rfl (q := 2) rfl ?_
  refine x_aload_n (pc := 1218) dLa_law_1218 rfl (q := 0) rfl ?_
  refine x_iload_n (pc := 1219) dLa_law_1219 rfl (q := 3) rfl ?_
  refine x_iconst (pc := 1220) dLa_law_1220 (v := 1) rfl ?_
  refine x_iadd (pc := 1221) dLa_law_1221 ?_
  obtain ⟨s501, h⟩ := h
  refine x_sld (pc := 1222) dLa_law_1222 s501 ?_
  refine x_aload_n (pc := 1223) dLa_law_1223 rfl (q := 0) rfl ?_
  refine x_iload_n (pc := 1224) dLa_law_1224 rfl (q := 3) rfl ?_
  refine x_iconst (pc := 1225) dLa_law_1225 (v := 2) rfl ?_
  refine x_iadd (pc := 1226) dLa_law_1226 ?_
  obtain ⟨s502, h⟩ := h
  refine x_sld (pc := 1227) dLa_law_1227 s502 ?_
  refine x_aload_n (pc := 1228) dLa_law_1228 rfl (q := 0) rfl ?_
  refine x_iload_n (pc := 1229) dLa_law_1229 rfl (q := 3) rfl ?_
  refine x_iconst (pc := 1230) dLa_law_1230 (v := 3) rfl ?_
  refine x_iadd (pc := 1231) dLa_law_1231 ?_
  obtain ⟨s503, h⟩ := h
  refine x_sld (pc := 1232) dLa_law_1232 s503 ?_
  refine x_aload_n (pc := 1233) dLa_law_1233 rfl (q := 0) rfl ?_
  refine x_iload_n (pc := 1234) dLa_law_1234 rfl (q := 3) rfl ?_
  refine x_iconst (pc := 1235) dLa_law_1235 (v := 4) rfl ?_
  refine x_iadd (pc := 1236) dLa_law_1236 ?_
  obtain ⟨s504, h⟩ := h
  refine x_sld (pc := 1237) dLa_law_1237 s504 ?_
  refine x_aload_n (pc := 1238) dLa_law_1238 rfl (q := 0) rfl ?_
  refine x_iload_n (pc := 1239) dLa_law_1239 rfl (q := 3) rfl ?_
  refine x_iconst (pc := 1240) dLa_law_1240 (v := 5) rfl ?_
  refine x_iadd (pc := 1241) dLa_law_1241 ?_
  obtain ⟨s505, h⟩ := h
  refine x_sld (pc := 1242) dLa_law_1242 s505 ?_
  exact x_invV (pc := 1243) dLa_law_1243 (c := 11) (S := []) (As := [.int (gi M 62 (v3 + 1).toNatClampNeg), .int (gi M 62 (v3 + 2).toNatClampNeg), .int (gi M 62 (v3 + 3).toNatClampNeg), .int (gi M 62 (v3 + 4).toNatClampNeg), .int (gi M 62 (v3 + 5).toNatClampNeg)]) mlLa_157 hM_read rfl (by decide) rfl kv2 ⟨by decide, by decide⟩ ⟨Nat.zero_le _, Nat.zero_le _⟩ rfl (Nat.le_of_ble_eq_true rfl) (aftI (b' := b) ⟨Nat.le_refl _, Nat.le_refl _⟩ (fun rv N h => h) h)

theorem vLa_law_1246 {M : Mm} {b : Nat × Nat} {K : Int32 → Mm → Prop} {v1 : Nat} {v2 : Nat} {v3 : Int32} {w0 : Int32}  
    (h : X mLa_law 18 [(0, .ref 62), (1, .ref v1), (2, .ref v2), (3, .int (v3 + 6))] [] M b (QI K)) : X mLa_law 1246 [(0, .ref 62), (1, .ref v1), (2, .ref v2), (3, .int v3)] [.int w0] M b (QI K) := by
  refine x_wf (fun hw => ?_)
  refine x_pop (pc := 1246) dLa_law_1246 rfl ?_
  refine x_goto (pc := 1247) dLa_law_1247 (t := 1273) rfl ?_
  refine x_iinc (pc := 1273) dLa_law_1273 (q := 3) rfl (v := v3 + 6) rfl (by decide) (L' := [(3, .int (v3 + 6)), (0, .ref 62), (1, .ref v1), (2, .ref v2)]) rfl ?_
  refine x_goto (pc := 1276) dLa_law_1276 (t := 18) rfl ?_
  exact x_loc [1, 2, 3, 0] rfl h

theorem vLa_law_1259 {M : Mm} {b : Nat × Nat} {K : Int32 → Mm → Prop} {v1 : Nat} {v2 : Nat} {v3 : Int32} {w0 : Int32} (kv2 : v2 % 64 = 11) 
    (h : vp_in (v3 + 1) M.1.2 ∧ (CI mM_count [.ref v2, .int (gi M 62 (v3 + 1).toNatClampNeg)] M (fun rv N => X mLa_law 1269 [(0, .ref 62), (1, .ref v1), (2, .ref v2), (3, .int v3)] [.int rv] N b (QI K)))) : X mLa_law 1259 [(0, .ref 62), (1, .ref v1), (2, .ref v2), (3, .int v3)] [.int w0] M b (QI K) := by
  refine x_wf (fun hw => ?_)
  refine x_pop (pc := 1259) dLa_law_1259 rfl ?_
  refine x_aload_n (pc := 1260) dLa_law_1260 rfl (q := 2) rfl ?_
  refine x_aload_n (pc := 1261) dLa_law_1261 rfl (q := 0) rfl ?_
  refine x_iload_n (pc := 1262) dLa_law_1262 rfl (q := 3) rfl ?_
  refine x_iconst (pc := 1263) dLa_law_1263 (v := 1) rfl ?_
  refine x_iadd (pc := 1264) dLa_law_1264 ?_
  obtain ⟨s501, h⟩ := h
  refine x_sld (pc := 1265) dLa_law_1265 s501 ?_
  exact x_invV (pc := 1266) dLa_law_1266 (c := 11) (S := []) (As := [.int (gi M 62 (v3 + 1).toNatClampNeg)]) mlLa_161 hM_count rfl (by decide) rfl kv2 ⟨by decide, by decide⟩ ⟨Nat.zero_le _, Nat.zero_le _⟩ rfl (Nat.le_of_ble_eq_true rfl) (aftI (b' := b) ⟨Nat.le_refl _, Nat.le_refl _⟩ (fun rv N h => h) h)

theorem vLa_law_1269 {M : Mm} {b : Nat × Nat} {K : Int32 → Mm → Prop} {v1 : Nat} {v2 : Nat} {v3 : Int32} {w0 : Int32}  
    (h : X mLa_law 18 [(0, .ref 62), (1, .ref v1), (2, .ref v2), (3, .int (v3 + 6))] [] M b (QI K)) : X mLa_law 1269 [(0, .ref 62), (1, .ref v1), (2, .ref v2), (3, .int v3)] [.int w0] M b (QI K) := by
  refine x_wf (fun hw => ?_)
  refine x_pop (pc := 1269) dLa_law_1269 rfl ?_
  refine x_goto (pc := 1270) dLa_law_1270 (t := 1273) rfl ?_
  refine x_iinc (pc := 1273) dLa_law_1273 (q := 3) rfl (v := v3 + 6) rfl (by decide) (L' := [(3, .int (v3 + 6)), (0, .ref 62), (1, .ref v1), (2, .ref v2)]) rfl ?_
  refine x_goto (pc := 1276) dLa_law_1276 (t := 18) rfl ?_
  exact x_loc [1, 2, 3, 0] rfl h

