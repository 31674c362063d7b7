theorem dJr_fill_0 : decode (mB mJr_fill) 0 = .ok (.iconst 0, 1) := op3 (by decide +kernel)
theorem dJr_fill_1 : decode (mB mJr_fill) 1 = .ok (.istore_n 2, 1) := op61 (by decide +kernel)
theorem dJr_fill_2 : decode (mB mJr_fill) 2 = .ok (.aload_n 0, 1) := op42 (by decide +kernel)
theorem dJr_fill_3 : decode (mB mJr_fill) 3 = .ok (.arraylength, 1) := op190 (by decide +kernel)
theorem dJr_fill_4 : decode (mB mJr_fill) 4 = .ok (.istore_n 3, 1) := op62 (by decide +kernel)
theorem dJr_fill_5 : decode (mB mJr_fill) 5 = .ok (.iload_n 2, 1) := op28 (by decide +kernel)
theorem dJr_fill_6 : decode (mB mJr_fill) 6 = .ok (.iload_n 3, 1) := op29 (by decide +kernel)
theorem dJr_fill_7 : decode (mB mJr_fill) 7 = .ok (.if_icmp .ge 13, 3) := op162 0 13 (by decide +kernel)
theorem dJr_fill_10 : decode (mB mJr_fill) 10 = .ok (.aload_n 0, 1) := op42 (by decide +kernel)
theorem dJr_fill_11 : decode (mB mJr_fill) 11 = .ok (.iload_n 2, 1) := op28 (by decide +kernel)
theorem dJr_fill_12 : decode (mB mJr_fill) 12 = .ok (.iload_n 1, 1) := op27 (by decide +kernel)
theorem dJr_fill_13 : decode (mB mJr_fill) 13 = .ok (.iastore, 1) := op79 (by decide +kernel)
theorem dJr_fill_14 : decode (mB mJr_fill) 14 = .ok (.iinc 2 1, 3) := op132 2 1 (by decide +kernel)
theorem dJr_fill_17 : decode (mB mJr_fill) 17 = .ok (.goto (-12), 3) := op167 255 244 (by decide +kernel)
theorem dJr_fill_20 : decode (mB mJr_fill) 20 = .ok (.return_, 1) := op177 (by decide +kernel)

theorem vJr_fill_0 {M : Mm} {b : Nat × Nat} {K : Mm → Prop} {v0 : Nat} {v1 : Int32}  {kk nn : Nat} (kv0 : v0 % 64 = kk) (hak : AK kk 0 nn) 
    (h : X mJr_fill 5 [(0, .ref v0), (1, .int v1), (2, .int 0), (3, .int (Int32.ofNat nn))] [] M b (QV K)) : X mJr_fill 0 [(0, .ref v0), (1, .int v1)] [] M b (QV K) := by
  refine x_wf (fun hw => ?_)
  refine x_iconst (pc := 0) dJr_fill_0 (v := 0) rfl ?_
  refine x_istore_n (pc := 1) dJr_fill_1 rfl (by decide) (L' := [(2, .int 0), (0, .ref v0), (1, .int v1)]) rfl ?_
  refine x_aload_n (pc := 2) dJr_fill_2 rfl (q := 1) rfl ?_
  refine x_alen (pc := 3) dJr_fill_3 kv0 hak rfl ?_
  refine x_istore_n (pc := 4) dJr_fill_4 rfl (by decide) (L' := [(3, .int (Int32.ofNat nn)), (2, .int 0), (0, .ref v0), (1, .int v1)]) rfl ?_
  exact x_loc [2, 3, 1, 0] rfl h

theorem vJr_fill_5 {M : Mm} {b : Nat × Nat} {K : Mm → Prop} {v0 : Nat} {v1 : Int32} {v2 : Int32} {v3 : Int32}  {kk nn : Nat} (kv0 : v0 % 64 = kk) (hak : AK kk 0 nn) 
    (h : (v3 ≤ v2 → (K M)) ∧ (¬ v3 ≤ v2 → (vp_in v2 nn ∧ (X mJr_fill 5 [(0, .ref v0), (1, .int v1), (2, .int (v2 + 1)), (3, .int v3)] [] (si M v0 (v2).toNatClampNeg v1) b (QV K))))) : X mJr_fill 5 [(0, .ref v0), (1, .int v1), (2, .int v2), (3, .int v3)] [] M b (QV K) := by
  refine x_wf (fun hw => ?_)
  refine x_iload_n (pc := 5) dJr_fill_5 rfl (q := 2) rfl ?_
  refine x_iload_n (pc := 6) dJr_fill_6 rfl (q := 3) rfl ?_
  obtain ⟨g1_0, g1_1⟩ := h
  refine x_icmp_ge (pc := 7) dJr_fill_7 (t := 20) rfl (fun q1 => ?_) (fun q1 => ?_)
  · have h := g1_0 q1
    exact x_retQV (pc := 20) dJr_fill_20 rfl h
  · refine x_aload_n (pc := 10) dJr_fill_10 rfl (q := 0) rfl ?_
    refine x_iload_n (pc := 11) dJr_fill_11 rfl (q := 2) rfl ?_
    refine x_iload_n (pc := 12) dJr_fill_12 rfl (q := 1) rfl ?_
    have h := g1_1 q1
    obtain ⟨s501, h⟩ := h
    refine x_astIj (pc := 13) (j := (v2).toNatClampNeg) (v := v1) (Or.inl ⟨rfl, rfl, rfl⟩) dJr_fill_13 kv0 hak rfl s501 ?_
    refine x_iinc (pc := 14) dJr_fill_14 (q := 2) rfl (v := v2 + 1) rfl (by decide) (L' := [(2, .int (v2 + 1)), (0, .ref v0), (1, .int v1), (3, .int v3)]) rfl ?_
    refine x_goto (pc := 17) dJr_fill_17 (t := 5) rfl ?_
    exact x_loc [1, 2, 0, 3] rfl h

theorem dJi_bitCount_0 : decode (mB mJi_bitCount) 0 = .ok (.iload_n 0, 1) := op26 (by decide +kernel)
theorem dJi_bitCount_1 : decode (mB mJi_bitCount) 1 = .ok (.iload_n 0, 1) := op26 (by decide +kernel)
theorem dJi_bitCount_2 : decode (mB mJi_bitCount) 2 = .ok (.iconst 1, 1) := op4 (by decide +kernel)
theorem dJi_bitCount_3 : decode (mB mJi_bitCount) 3 = .ok (.iushr, 1) := op124 (by decide +kernel)
theorem dJi_bitCount_4 : decode (mB mJi_bitCount) 4 = .ok (.ldc_w 265, 3) := op19 1 9 (by decide +kernel)
theorem dJi_bitCount_7 : decode (mB mJi_bitCount) 7 = .ok (.iand, 1) := op126 (by decide +kernel)
theorem dJi_bitCount_8 : decode (mB mJi_bitCount) 8 = .ok (.isub, 1) := op100 (by decide +kernel)
theorem dJi_bitCount_9 : decode (mB mJi_bitCount) 9 = .ok (.istore_n 0, 1) := op59 (by decide +kernel)
theorem dJi_bitCount_10 : decode (mB mJi_bitCount) 10 = .ok (.iload_n 0, 1) := op26 (by decide +kernel)
theorem dJi_bitCount_11 : decode (mB mJi_bitCount) 11 = .ok (.ldc_w 266, 3) := op19 1 10 (by decide +kernel)
theorem dJi_bitCount_14 : decode (mB mJi_bitCount) 14 = .ok (.iand, 1) := op126 (by decide +kernel)
theorem dJi_bitCount_15 : decode (mB mJi_bitCount) 15 = .ok (.iload_n 0, 1) := op26 (by decide +kernel)
theorem dJi_bitCount_16 : decode (mB mJi_bitCount) 16 = .ok (.iconst 2, 1) := op5 (by decide +kernel)
theorem dJi_bitCount_17 : decode (mB mJi_bitCount) 17 = .ok (.iushr, 1) := op124 (by decide +kernel)
theorem dJi_bitCount_18 : decode (mB mJi_bitCount) 18 = .ok (.ldc_w 266, 3) := op19 1 10 (by decide +kernel)
theorem dJi_bitCount_21 : decode (mB mJi_bitCount) 21 = .ok (.iand, 1) := op126 (by decide +kernel)
theorem dJi_bitCount_22 : decode (mB mJi_bitCount) 22 = .ok (.iadd, 1) := op96 (by decide +kernel)
theorem dJi_bitCount_23 : decode (mB mJi_bitCount) 23 = .ok (.istore_n 0, 1) := op59 (by decide +kernel)
theorem dJi_bitCount_24 : decode (mB mJi_bitCount) 24 = .ok (.iload_n 0, 1) := op26 (by decide +kernel)
theorem dJi_bitCount_25 : decode (mB mJi_bitCount) 25 = .ok (.iload_n 0, 1) := op26 (by decide +kernel)
theorem dJi_bitCount_26 : decode (mB mJi_bitCount) 26 = .ok (.iconst 4, 1) := op7 (by decide +kernel)
theorem dJi_bitCount_27 : decode (mB mJi_bitCount) 27 = .ok (.iushr, 1) := op124 (by decide +kernel)
theorem dJi_bitCount_28 : decode (mB mJi_bitCount) 28 = .ok (.iadd, 1) := op96 (by decide +kernel)
theorem dJi_bitCount_29 : decode (mB mJi_bitCount) 29 = .ok (.ldc_w 267, 3) := op19 1 11 (by decide +kernel)
theorem dJi_bitCount_32 : decode (mB mJi_bitCount) 32 = .ok (.iand, 1) := op126 (by decide +kernel)
theorem dJi_bitCount_33 : decode (mB mJi_bitCount) 33 = .ok (.istore_n 0, 1) := op59 (by decide +kernel)
theorem dJi_bitCount_34 : decode (mB mJi_bitCount) 34 = .ok (.iload_n 0, 1) := op26 (by decide +kernel)
theorem dJi_bitCount_35 : decode (mB mJi_bitCount) 35 = .ok (.iload_n 0, 1) := op26 (by decide +kernel)
theorem dJi_bitCount_36 : decode (mB mJi_bitCount) 36 = .ok (.bipush 8, 2) := op16 8 (by decide +kernel)
theorem dJi_bitCount_38 : decode (mB mJi_bitCount) 38 = .ok (.iushr, 1) := op124 (by decide +kernel)
theorem dJi_bitCount_39 : decode (mB mJi_bitCount) 39 = .ok (.iadd, 1) := op96 (by decide +kernel)
theorem dJi_bitCount_40 : decode (mB mJi_bitCount) 40 = .ok (.istore_n 0, 1) := op59 (by decide +kernel)
theorem dJi_bitCount_41 : decode (mB mJi_bitCount) 41 = .ok (.iload_n 0, 1) := op26 (by decide +kernel)
theorem dJi_bitCount_42 : decode (mB mJi_bitCount) 42 = .ok (.iload_n 0, 1) := op26 (by decide +kernel)
theorem dJi_bitCount_43 : decode (mB mJi_bitCount) 43 = .ok (.bipush 16, 2) := op16 16 (by decide +kernel)
theorem dJi_bitCount_45 : decode (mB mJi_bitCount) 45 = .ok (.iushr, 1) := op124 (by decide +kernel)
theorem dJi_bitCount_46 : decode (mB mJi_bitCount) 46 = .ok (.iadd, 1) := op96 (by decide +kernel)
theorem dJi_bitCount_47 : decode (mB mJi_bitCount) 47 = .ok (.istore_n 0, 1) := op59 (by decide +kernel)
theorem dJi_bitCount_48 : decode (mB mJi_bitCount) 48 = .ok (.iload_n 0, 1) := op26 (by decide +kernel)
theorem dJi_bitCount_49 : decode (mB mJi_bitCount) 49 = .ok (.bipush 63, 2) := op16 63 (by decide +kernel)
theorem dJi_bitCount_51 : decode (mB mJi_bitCount) 51 = .ok (.iand, 1) := op126 (by decide +kernel)
theorem dJi_bitCount_52 : decode (mB mJi_bitCount) 52 = .ok (.ireturn, 1) := op172 (by decide +kernel)

theorem vJi_bitCount_0 {M : Mm} {b : Nat × Nat} {K : Int32 → Mm → Prop} {v0 : Int32}  
    (h : K ((((((((v0 - ((ushr v0 1) &&& 1431655765)) &&& 858993459) + ((ushr (v0 - ((ushr v0 1) &&& 1431655765)) 2) &&& 858993459)) + (ushr (((v0 - ((ushr v0 1) &&& 1431655765)) &&& 858993459) + ((ushr (v0 - ((ushr v0 1) &&& 1431655765)) 2) &&& 858993459)) 4)) &&& 252645135) + (ushr (((((v0 - ((ushr v0 1) &&& 1431655765)) &&& 858993459) + ((ushr (v0 - ((ushr v0 1) &&& 1431655765)) 2) &&& 858993459)) + (ushr (((v0 - ((ushr v0 1) &&& 1431655765)) &&& 858993459) + ((ushr (v0 - ((ushr v0 1) &&& 1431655765)) 2) &&& 858993459)) 4)) &&& 252645135) 8)) + (ushr ((((((v0 - ((ushr v0 1) &&& 1431655765)) &&& 858993459) + ((ushr (v0 - ((ushr v0 1) &&& 1431655765)) 2) &&& 858993459)) + (ushr (((v0 - ((ushr v0 1) &&& 1431655765)) &&& 858993459) + ((ushr (v0 - ((ushr v0 1) &&& 1431655765)) 2) &&& 858993459)) 4)) &&& 252645135) + (ushr (((((v0 - ((ushr v0 1) &&& 1431655765)) &&& 858993459) + ((ushr (v0 - ((ushr v0 1) &&& 1431655765)) 2) &&& 858993459)) + (ushr (((v0 - ((ushr v0 1) &&& 1431655765)) &&& 858993459) + ((ushr (v0 - ((ushr v0 1) &&& 1431655765)) 2) &&& 858993459)) 4)) &&& 252645135) 8)) 16)) &&& 63) M) : X mJi_bitCount 0 [(0, .int v0)] [] M b (QI K) := by
  refine x_wf (fun hw => ?_)
  refine x_iload_n (pc := 0) dJi_bitCount_0 rfl (q := 0) rfl ?_
  refine x_iload_n (pc := 1) dJi_bitCount_1 rfl (q := 0) rfl ?_
  refine x_iconst (pc := 2) dJi_bitCount_2 (v := 1) rfl ?_
  refine x_iushr (pc := 3) dJi_bitCount_3 ?_
  refine x_ldcw (pc := 4) dJi_bitCount_4 kcJi_265 ?_
  refine x_iand (pc := 7) dJi_bitCount_7 ?_
  refine x_isub (pc := 8) dJi_bitCount_8 ?_
  refine x_istore_n (pc := 9) dJi_bitCount_9 rfl (by decide) (L' := [(0, .int (v0 - ((ushr v0 1) &&& 1431655765)))]) rfl ?_
  refine x_iload_n (pc := 10) dJi_bitCount_10 rfl (q := 0) rfl ?_
  refine x_ldcw (pc := 11) dJi_bitCount_11 kcJi_266 ?_
  refine x_iand (pc := 14) dJi_bitCount_14 ?_
  refine x_iload_n (pc := 15) dJi_bitCount_15 rfl (q := 0) rfl ?_
  refine x_iconst (pc := 16) dJi_bitCount_16 (v := 2) rfl ?_
  refine x_iushr (pc := 17) dJi_bitCount_17 ?_
  refine x_ldcw (pc := 18) dJi_bitCount_18 kcJi_266 ?_
  refine x_iand (pc := 21) dJi_bitCount_21 ?_
  refine x_iadd (pc := 22) dJi_bitCount_22 ?_
  refine x_istore_n (pc := 23) dJi_bitCount_23 rfl (by decide) (L' := [(0, .int (((v0 - ((ushr v0 1) &&& 1431655765)) &&& 858993459) + ((ushr (v0 - ((ushr v0 1) &&& 1431655765)) 2) &&& 858993459)))]) rfl ?_
  refine x_iload_n (pc := 24) dJi_bitCount_24 rfl (q := 0) rfl ?_
  refine x_iload_n (pc := 25) dJi_bitCount_25 rfl (q := 0) rfl ?_
  refine x_iconst (pc := 26) dJi_bitCount_26 (v := 4) rfl ?_
  refine x_iushr (pc := 27) dJi_bitCount_27 ?_
  refine x_iadd (pc := 28) dJi_bitCount_28 ?_
  refine x_ldcw (pc := 29) dJi_bitCount_29 kcJi_267 ?_
  refine x_iand (pc := 32) dJi_bitCount_32 ?_
  refine x_istore_n (pc := 33) dJi_bitCount_33 rfl (by decide) (L' := [(0, .int (((((v0 - ((ushr v0 1) &&& 1431655765)) &&& 858993459) + ((ushr (v0 - ((ushr v0 1) &&& 1431655765)) 2) &&& 858993459)) + (ushr (((v0 - ((ushr v0 1) &&& 1431655765)) &&& 858993459) + ((ushr (v0 - ((ushr v0 1) &&& 1431655765)) 2) &&& 858993459)) 4)) &&& 252645135))]) rfl ?_
  refine x_iload_n (pc := 34) dJi_bitCount_34 rfl (q := 0) rfl ?_
  refine x_iload_n (pc := 35) dJi_bitCount_35 rfl (q := 0) rfl ?_
  refine x_bipush (pc := 36) dJi_bitCount_36 (v := 8) rfl ?_
  refine x_iushr (pc := 38) dJi_bitCount_38 ?_
  refine x_iadd (pc := 39) dJi_bitCount_39 ?_
  refine x_istore_n (pc := 40) dJi_bitCount_40 rfl (by decide) (L' := [(0, .int ((((((v0 - ((ushr v0 1) &&& 1431655765)) &&& 858993459) + ((ushr (v0 - ((ushr v0 1) &&& 1431655765)) 2) &&& 858993459)) + (ushr (((v0 - ((ushr v0 1) &&& 1431655765)) &&& 858993459) + ((ushr (v0 - ((ushr v0 1) &&& 1431655765)) 2) &&& 858993459)) 4)) &&& 252645135) + (ushr (((((v0 - ((ushr v0 1) &&& 1431655765)) &&& 858993459) + ((ushr (v0 - ((ushr v0 1) &&& 1431655765)) 2) &&& 858993459)) + (ushr (((v0 - ((ushr v0 1) &&& 1431655765)) &&& 858993459) + ((ushr (v0 - ((ushr v0 1) &&& 1431655765)) 2) &&& 858993459)) 4)) &&& 252645135) 8)))]) rfl ?_
  refine x_iload_n (pc := 41) dJi_bitCount_41 rfl (q := 0) rfl ?_
  refine x_iload_n (pc := 42) dJi_bitCount_42 rfl (q := 0) rfl ?_
  refine x_bipush (pc := 43) dJi_bitCount_43 (v := 16) rfl ?_
  refine x_iushr (pc := 45) dJi_bitCount_45 ?_
  refine x_iadd (pc := 46) dJi_bitCount_46 ?_
  refine x_istore_n (pc := 47) dJi_bitCount_47 rfl (by decide) (L' := [(0, .int (((((((v0 - ((ushr v0 1) &&& 1431655765)) &&& 858993459) + ((ushr (v0 - ((ushr v0 1) &&& 1431655765)) 2) &&& 858993459)) + (ushr (((v0 - ((ushr v0 1) &&& 1431655765)) &&& 858993459) + ((ushr (v0 - ((ushr v0 1) &&& 1431655765)) 2) &&& 858993459)) 4)) &&& 252645135) + (ushr (((((v0 - ((ushr v0 1) &&& 1431655765)) &&& 858993459) + ((ushr (v0 - ((ushr v0 1) &&& 1431655765)) 2) &&& 858993459)) + (ushr (((v0 - ((ushr v0 1) &&& 1431655765)) &&& 858993459) + ((ushr (v0 - ((ushr v0 1) &&& 1431655765)) 2) &&& 858993459)) 4)) &&& 252645135) 8)) + (ushr ((((((v0 - ((ushr v0 1) &&& 1431655765)) &&& 858993459) + ((ushr (v0 - ((ushr v0 1) &&& 1431655765)) 2) &&& 858993459)) + (ushr (((v0 - ((ushr v0 1) &&& 1431655765)) &&& 858993459) + ((ushr (v0 - ((ushr v0 1) &&& 1431655765)) 2) &&& 858993459)) 4)) &&& 252645135) + (ushr (((((v0 - ((ushr v0 1) &&& 1431655765)) &&& 858993459) + ((ushr (v0 - ((ushr v0 1) &&& 1431655765)) 2) &&& 858993459)) + (ushr (((v0 - ((ushr v0 1) &&& 1431655765)) &&& 858993459) + ((ushr (v0 - ((ushr v0 1) &&& 1431655765)) 2) &&& 858993459)) 4)) &&& 252645135) 8)) 16)))]) rfl ?_
  refine x_iload_n (pc := 48) dJi_bitCount_48 rfl (q := 0) rfl ?_
  refine x_bipush (pc := 49) dJi_bitCount_49 (v := 63) rfl ?_
  refine x_iand (pc := 51) dJi_bitCount_51 ?_
  exact x_retQI (pc := 52) dJi_bitCount_52 rfl rfl h

theorem dJm_min_0 : decode (mB mJm_min) 0 = .ok (.iload_n 0, 1) := op26 (by decide +kernel)
theorem dJm_min_1 : decode (mB mJm_min) 1 = .ok (.iload_n 1, 1) := op27 (by decide +kernel)
theorem dJm_min_2 : decode (mB mJm_min) 2 = .ok (.if_icmp .gt 7, 3) := op163 0 7 (by decide +kernel)
theorem dJm_min_5 : decode (mB mJm_min) 5 = .ok (.iload_n 0, 1) := op26 (by decide +kernel)
theorem dJm_min_6 : decode (mB mJm_min) 6 = .ok (.goto 4, 3) := op167 0 4 (by decide +kernel)
theorem dJm_min_9 : decode (mB mJm_min) 9 = .ok (.iload_n 1, 1) := op27 (by decide +kernel)
theorem dJm_min_10 : decode (mB mJm_min) 10 = .ok (.ireturn, 1) := op172 (by decide +kernel)

theorem vJm_min_0 {M : Mm} {b : Nat × Nat} {K : Int32 → Mm → Prop} {v0 : Int32} {v1 : Int32}  
    (h : K (if v1 < v0 then v1 else v0 : Int32) M) : X mJm_min 0 [(0, .int v0), (1, .int v1)] [] M b (QI K) := by
  refine x_wf (fun hw => ?_)
  refine x_iload_n (pc := 0) dJm_min_0 rfl (q := 0) rfl ?_
  refine x_iload_n (pc := 1) dJm_min_1 rfl (q := 1) rfl ?_
  suffices hJ : X mJm_min 10 [(0, .int v0), (1, .int v1)] [.int (if v1 < v0 then v1 else v0 : Int32)] M b (QI K) by
    refine x_icmp_gt (pc := 2) dJm_min_2 (t := 9) rfl (fun q1 => ?_) (fun q1 => ?_)
    · refine x_iload_n (pc := 9) dJm_min_9 rfl (q := 1) rfl ?_
      first | (rw [if_pos q1] at hJ; exact hJ) | (simp only [if_pos q1] at hJ ⊢; exact hJ)
    · refine x_iload_n (pc := 5) dJm_min_5 rfl (q := 0) rfl ?_
      refine x_goto (pc := 6) dJm_min_6 (t := 10) rfl ?_
      first | (rw [if_neg q1] at hJ; exact hJ) | (simp only [if_neg q1] at hJ ⊢; exact hJ)
  exact x_retQI (pc := 10) dJm_min_10 rfl rfl h

theorem dJs_length_0 : decode (mB mJs_length) 0 = .ok (.aload_n 0, 1) := op42 (by decide +kernel)
theorem dJs_length_1 : decode (mB mJs_length) 1 = .ok (.getfield 9, 3) := op180 0 9 (by decide +kernel)
theorem dJs_length_4 : decode (mB mJs_length) 4 = .ok (.arraylength, 1) := op190 (by decide +kernel)
theorem dJs_length_5 : decode (mB mJs_length) 5 = .ok (.aload_n 0, 1) := op42 (by decide +kernel)
theorem dJs_length_6 : decode (mB mJs_length) 6 = .ok (.invokevirtual 335, 3) := op182 1 79 (by decide +kernel)
theorem dJs_length_9 : decode (mB mJs_length) 9 = .ok (.ishr, 1) := op122 (by decide +kernel)
theorem dJs_length_10 : decode (mB mJs_length) 10 = .ok (.ireturn, 1) := op172 (by decide +kernel)

theorem vJs_length_0 {M : Mm} {b : Nat × Nat} {K : Int32 → Mm → Prop} {j0 : Nat}  (hj0 : j0 < 6)
    (h : CI mJs_coder [.ref (64 * j0 + 63)] M (fun rv N => X mJs_length 9 [] [.int rv, .int (Int32.ofNat (slen.getD j0 0))] N b (QI K))) : X mJs_length 0 [(0, .ref (64 * j0 + 63))] [] M b (QI K) := by
  refine x_wf (fun hw => ?_)
  refine x_aload_n (pc := 0) dJs_length_0 rfl (q := 0) rfl ?_
  refine x_strV (pc := 1) (j := j0) hj0 dJs_length_1 flJs_9 ?_
  refine x_strL (pc := 4) (j := j0) hj0 dJs_length_4 rfl ?_
  refine x_aload_n (pc := 5) dJs_length_5 rfl (q := 0) rfl ?_
  exact x_invVs (pc := 6) (j := j0) (S := [.int (Int32.ofNat (slen.getD j0 0))]) (As := []) hj0 dJs_length_6 mlJs_335 hJs_coder rfl rfl ⟨by decide, by decide⟩ ⟨Nat.zero_le _, Nat.zero_le _⟩ rfl (Nat.le_of_ble_eq_true rfl) (aftI (b' := b) ⟨Nat.le_refl _, Nat.le_refl _⟩ (fun rv N h => x_loc [] rfl h) h)

theorem vJs_length_9 {M : Mm} {b : Nat × Nat} {K : Int32 → Mm → Prop} {w0 : Int32} {w1 : Int32}  
    (h : K (w1 >>> (w0 &&& 31)) M) : X mJs_length 9 [] [.int w0, .int w1] M b (QI K) := by
  refine x_wf (fun hw => ?_)
  refine x_ishr (pc := 9) dJs_length_9 ?_
  exact x_retQI (pc := 10) dJs_length_10 rfl rfl h

theorem dJs_coder_0 : decode (mB mJs_coder) 0 = .ok (.getstatic 38, 3) := op178 0 38 (by decide +kernel)
theorem dJs_coder_3 : decode (mB mJs_coder) 3 = .ok (.ifCond .eq 10, 3) := op153 0 10 (by decide +kernel)
theorem dJs_coder_6 : decode (mB mJs_coder) 6 = .ok (.aload_n 0, 1) := op42 (by decide +kernel)
theorem dJs_coder_7 : decode (mB mJs_coder) 7 = .ok (.getfield 15, 3) := op180 0 15 (by decide +kernel)
theorem dJs_coder_10 : decode (mB mJs_coder) 10 = .ok (.goto 4, 3) := op167 0 4 (by decide +kernel)
theorem dJs_coder_13 : decode (mB mJs_coder) 13 = .ok (.iconst 1, 1) := op4 (by decide +kernel)
theorem dJs_coder_14 : decode (mB mJs_coder) 14 = .ok (.ireturn, 1) := op172 (by decide +kernel)

theorem vJs_coder_0 {M : Mm} {b : Nat × Nat} {K : Int32 → Mm → Prop} {j0 : Nat}  (hj0 : j0 < 6)
    (h : narrow .byte (.int (if (1 : Int32) = 0 then 1 else 0 : Int32)) = .int (if (1 : Int32) = 0 then 1 else 0 : Int32) ∧ (K (if (1 : Int32) = 0 then 1 else 0 : Int32) M)) : X mJs_coder 0 [(0, .ref (64 * j0 + 63))] [] M b (QI K) := by
  refine x_wf (fun hw => ?_)
  refine x_strZ (pc := 0) dJs_coder_0 flJs_38 ?_
  suffices hJ : X mJs_coder 14 [(0, .ref (64 * j0 + 63))] [.int (if (1 : Int32) = 0 then 1 else 0 : Int32)] M b (QI K) by
    refine x_if_eq (pc := 3) dJs_coder_3 (t := 13) rfl (fun q1 => ?_) (fun q1 => ?_)
    · refine x_iconst (pc := 13) dJs_coder_13 (v := 1) rfl ?_
      first | (rw [if_pos q1] at hJ; exact hJ) | (simp only [if_pos q1] at hJ ⊢; exact hJ)
    · refine x_aload_n (pc := 6) dJs_coder_6 rfl (q := 0) rfl ?_
      refine x_strC (pc := 7) (j := j0) hj0 dJs_coder_7 flJs_15 ?_
      refine x_goto (pc := 10) dJs_coder_10 (t := 14) rfl ?_
      first | (rw [if_neg q1] at hJ; exact hJ) | (simp only [if_neg q1] at hJ ⊢; exact hJ)
  obtain ⟨s501, h⟩ := h
  exact x_retQI (pc := 14) dJs_coder_14 rfl s501 h

theorem dJs_charAt_0 : decode (mB mJs_charAt) 0 = .ok (.aload_n 0, 1) := op42 (by decide +kernel)
theorem dJs_charAt_1 : decode (mB mJs_charAt) 1 = .ok (.invokevirtual 492, 3) := op182 1 236 (by decide +kernel)
theorem dJs_charAt_4 : decode (mB mJs_charAt) 4 = .ok (.ifCond .eq 12, 3) := op153 0 12 (by decide +kernel)
theorem dJs_charAt_7 : decode (mB mJs_charAt) 7 = .ok (.aload_n 0, 1) := op42 (by decide +kernel)
theorem dJs_charAt_8 : decode (mB mJs_charAt) 8 = .ok (.getfield 9, 3) := op180 0 9 (by decide +kernel)
theorem dJs_charAt_11 : decode (mB mJs_charAt) 11 = .ok (.iload_n 1, 1) := op27 (by decide +kernel)
theorem dJs_charAt_12 : decode (mB mJs_charAt) 12 = .ok (.invokestatic 495, 3) := op184 1 239 (by decide +kernel)
theorem dJs_charAt_15 : decode (mB mJs_charAt) 15 = .ok (.ireturn, 1) := op172 (by decide +kernel)
theorem dJs_charAt_16 : decode (mB mJs_charAt) 16 = .ok (.aload_n 0, 1) := op42 (by decide +kernel)
theorem dJs_charAt_17 : decode (mB mJs_charAt) 17 = .ok (.getfield 9, 3) := op180 0 9 (by decide +kernel)
theorem dJs_charAt_20 : decode (mB mJs_charAt) 20 = .ok (.iload_n 1, 1) := op27 (by decide +kernel)
theorem dJs_charAt_21 : decode (mB mJs_charAt) 21 = .ok (.invokestatic 498, 3) := op184 1 242 (by decide +kernel)
theorem dJs_charAt_24 : decode (mB mJs_charAt) 24 = .ok (.ireturn, 1) := op172 (by decide +kernel)

theorem vJs_charAt_0 {M : Mm} {b : Nat × Nat} {K : Int32 → Mm → Prop} {j0 : Nat} {v1 : Int32}  (hj0 : j0 < 6)
    (h : CI mJs_isLatin1 [.ref (64 * j0 + 63)] M (fun rv N => X mJs_charAt 4 [(0, .ref (64 * j0 + 63)), (1, .int v1)] [.int rv] N b (QI K))) : X mJs_charAt 0 [(0, .ref (64 * j0 + 63)), (1, .int v1)] [] M b (QI K) := by
  refine x_wf (fun hw => ?_)
  refine x_aload_n (pc := 0) dJs_charAt_0 rfl (q := 0) rfl ?_
  exact x_invVs (pc := 1) (j := j0) (S := []) (As := []) hj0 dJs_charAt_1 mlJs_492 hJs_isLatin1 rfl rfl ⟨by decide, by decide⟩ ⟨Nat.zero_le _, Nat.zero_le _⟩ rfl (Nat.le_of_ble_eq_true rfl) (aftI (b' := b) ⟨Nat.le_refl _, Nat.le_refl _⟩ (fun rv N h => h) h)

theorem vJs_charAt_4 {M : Mm} {b : Nat × Nat} {K : Int32 → Mm → Prop} {j0 : Nat} {v1 : Int32} {w0 : Int32}  (hj0 : j0 < 6)
    (h : (w0 = 0 → (False)) ∧ (¬ w0 = 0 → (CI mJa_charAt [.ref (64 * j0 + 61), .int v1] M (fun rv N => X mJs_charAt 15 [] [.int rv] N b (QI K))))) : X mJs_charAt 4 [(0, .ref (64 * j0 + 63)), (1, .int v1)] [.int w0] M b (QI K) := by
  refine x_wf (fun hw => ?_)
  obtain ⟨g1_0, g1_1⟩ := h
  refine x_if_eq (pc := 4) dJs_charAt_4 (t := 16) rfl (fun q1 => ?_) (fun q1 => ?_)
  · have h := g1_0 q1
    exact h.elim
  · refine x_aload_n (pc := 7) dJs_charAt_7 rfl (q := 0) rfl ?_
    refine x_strV (pc := 8) (j := j0) hj0 dJs_charAt_8 flJs_9 ?_
    refine x_iload_n (pc := 11) dJs_charAt_11 rfl (q := 1) rfl ?_
    have h := g1_1 q1
    exact x_invS (pc := 12) dJs_charAt_12 (S := []) (As := [.ref (64 * j0 + 61), .int v1]) mlJs_495 hJa_charAt rfl ⟨by decide, by decide⟩ ⟨Nat.zero_le _, Nat.zero_le _⟩ rfl (Nat.le_of_ble_eq_true rfl) (aftI (b' := b) ⟨Nat.le_refl _, Nat.le_refl _⟩ (fun rv N h => x_loc [] rfl h) h)

theorem vJs_charAt_15 {M : Mm} {b : Nat × Nat} {K : Int32 → Mm → Prop} {w0 : Int32}  
    (h : narrow .char (.int w0) = .int w0 ∧ (K w0 M)) : X mJs_charAt 15 [] [.int w0] M b (QI K) := by
  refine x_wf (fun hw => ?_)
  obtain ⟨s501, h⟩ := h
  exact x_retQI (pc := 15) dJs_charAt_15 rfl s501 h

theorem dJs_isLatin1_0 : decode (mB mJs_isLatin1) 0 = .ok (.getstatic 38, 3) := op178 0 38 (by decide +kernel)
theorem dJs_isLatin1_3 : decode (mB mJs_isLatin1) 3 = .ok (.ifCond .eq 14, 3) := op153 0 14 (by decide +kernel)
theorem dJs_isLatin1_6 : decode (mB mJs_isLatin1) 6 = .ok (.aload_n 0, 1) := op42 (by decide +kernel)
theorem dJs_isLatin1_7 : decode (mB mJs_isLatin1) 7 = .ok (.getfield 15, 3) := op180 0 15 (by decide +kernel)
theorem dJs_isLatin1_10 : decode (mB mJs_isLatin1) 10 = .ok (.ifCond .ne 7, 3) := op154 0 7 (by decide +kernel)
theorem dJs_isLatin1_13 : decode (mB mJs_isLatin1) 13 = .ok (.iconst 1, 1) := op4 (by decide +kernel)
theorem dJs_isLatin1_14 : decode (mB mJs_isLatin1) 14 = .ok (.goto 4, 3) := op167 0 4 (by decide +kernel)
theorem dJs_isLatin1_17 : decode (mB mJs_isLatin1) 17 = .ok (.iconst 0, 1) := op3 (by decide +kernel)
theorem dJs_isLatin1_18 : decode (mB mJs_isLatin1) 18 = .ok (.ireturn, 1) := op172 (by decide +kernel)

theorem vJs_isLatin1_0 {M : Mm} {b : Nat × Nat} {K : Int32 → Mm → Prop} {j0 : Nat}  (hj0 : j0 < 6)
    (h : ((((1 : Int32) = 0) ∨ (¬ (1 : Int32) = 0 ∧ ¬ (0 : Int32) = 0)) → (K 0 M)) ∧ ((¬ (1 : Int32) = 0 ∧ (0 : Int32) = 0) → (K 1 M))) : X mJs_isLatin1 0 [(0, .ref (64 * j0 + 63))] [] M b (QI K) := by
  refine x_wf (fun hw => ?_)
  refine x_strZ (pc := 0) dJs_isLatin1_0 flJs_38 ?_
  obtain ⟨g1_0, g1_1⟩ := h
  have g1_k0 : ((1 : Int32) = 0) ∨ (¬ (1 : Int32) = 0 ∧ ¬ (0 : Int32) = 0) → X mJs_isLatin1 17 [(0, .ref (64 * j0 + 63))] [] M b (QI K) := fun q => by
    have h := g1_0 q
    refine x_iconst (pc := 17) dJs_isLatin1_17 (v := 0) rfl ?_
    exact x_retQI (pc := 18) dJs_isLatin1_18 rfl (by (repeat' split) <;> rfl) h
  refine x_if_eq (pc := 3) dJs_isLatin1_3 (t := 17) rfl (fun q1 => ?_) (fun q1 => ?_)
  · exact g1_k0 (Or.inl q1)
  · refine x_aload_n (pc := 6) dJs_isLatin1_6 rfl (q := 0) rfl ?_
    refine x_strC (pc := 7) (j := j0) hj0 dJs_isLatin1_7 flJs_15 ?_
    refine x_if_ne (pc := 10) dJs_isLatin1_10 (t := 17) rfl (fun q2 => ?_) (fun q2 => ?_)
    · exact g1_k0 (Or.inr ⟨q1, q2⟩)
    · refine x_iconst (pc := 13) dJs_isLatin1_13 (v := 1) rfl ?_
      refine x_goto (pc := 14) dJs_isLatin1_14 (t := 18) rfl ?_
      have h := g1_1 ⟨q1, q2⟩
      exact x_retQI (pc := 18) dJs_isLatin1_18 rfl (by (repeat' split) <;> rfl) h

theorem dJa_charAt_0 : decode (mB mJa_charAt) 0 = .ok (.iload_n 1, 1) := op27 (by decide +kernel)
theorem dJa_charAt_1 : decode (mB mJa_charAt) 1 = .ok (.aload_n 0, 1) := op42 (by decide +kernel)
theorem dJa_charAt_2 : decode (mB mJa_charAt) 2 = .ok (.arraylength, 1) := op190 (by decide +kernel)
theorem dJa_charAt_3 : decode (mB mJa_charAt) 3 = .ok (.invokestatic 9, 3) := op184 0 9 (by decide +kernel)
theorem dJa_charAt_6 : decode (mB mJa_charAt) 6 = .ok (.aload_n 0, 1) := op42 (by decide +kernel)
theorem dJa_charAt_7 : decode (mB mJa_charAt) 7 = .ok (.iload_n 1, 1) := op27 (by decide +kernel)
theorem dJa_charAt_8 : decode (mB mJa_charAt) 8 = .ok (.baload, 1) := op51 (by decide +kernel)
theorem dJa_charAt_9 : decode (mB mJa_charAt) 9 = .ok (.sipush 255, 3) := op17 0 255 (by decide +kernel)
theorem dJa_charAt_12 : decode (mB mJa_charAt) 12 = .ok (.iand, 1) := op126 (by decide +kernel)
theorem dJa_charAt_13 : decode (mB mJa_charAt) 13 = .ok (.i2c, 1) := op146 (by decide +kernel)
theorem dJa_charAt_14 : decode (mB mJa_charAt) 14 = .ok (.ireturn, 1) := op172 (by decide +kernel)

theorem vJa_charAt_0 {M : Mm} {b : Nat × Nat} {K : Int32 → Mm → Prop} {j0 : Nat} {v1 : Int32}  (hj0 : j0 < 6)
    (h : CV mJs_checkIndex [.int v1, .int (Int32.ofNat (slen.getD j0 0))] M (fun N => X mJa_charAt 6 [(0, .ref (64 * j0 + 61)), (1, .int v1)] [] N b (QI K))) : X mJa_charAt 0 [(0, .ref (64 * j0 + 61)), (1, .int v1)] [] M b (QI K) := by
  refine x_wf (fun hw => ?_)
  refine x_iload_n (pc := 0) dJa_charAt_0 rfl (q := 1) rfl ?_
  refine x_aload_n (pc := 1) dJa_charAt_1 rfl (q := 0) rfl ?_
  refine x_strL (pc := 2) (j := j0) hj0 dJa_charAt_2 rfl ?_
  exact x_invS (pc := 3) dJa_charAt_3 (S := []) (As := [.int v1, .int (Int32.ofNat (slen.getD j0 0))]) mlJa_9 hJs_checkIndex rfl ⟨by decide, by decide⟩ ⟨Nat.zero_le _, Nat.zero_le _⟩ rfl (Nat.le_of_ble_eq_true rfl) (aftV (b' := b) ⟨Nat.le_refl _, Nat.le_refl _⟩ (fun N h => h) h)

theorem vJa_charAt_6 {M : Mm} {b : Nat × Nat} {K : Int32 → Mm → Prop} {j0 : Nat} {v1 : Int32}  (hj0 : j0 < 6)
    (h : vp_in v1 (slen.getD j0 0) ∧ (narrow .char (.int (((((sbyt.getD j0 []).getD (v1).toNatClampNeg 0) &&& 255).toUInt32 % 65536).toInt32)) = .int (((((sbyt.getD j0 []).getD (v1).toNatClampNeg 0) &&& 255).toUInt32 % 65536).toInt32) ∧ (K (((((sbyt.getD j0 []).getD (v1).toNatClampNeg 0) &&& 255).toUInt32 % 65536).toInt32) M))) : X mJa_charAt 6 [(0, .ref (64 * j0 + 61)), (1, .int v1)] [] M b (QI K) := by
  refine x_wf (fun hw => ?_)
  refine x_aload_n (pc := 6) dJa_charAt_6 rfl (q := 0) rfl ?_
  refine x_iload_n (pc := 7) dJa_charAt_7 rfl (q := 1) rfl ?_
  obtain ⟨s501, h⟩ := h
  refine x_strB (pc := 8) (j := j0) hj0 dJa_charAt_8 s501 ?_
  refine x_sipush (pc := 9) dJa_charAt_9 (v := 255) rfl ?_
  refine x_iand (pc := 12) dJa_charAt_12 ?_
  refine x_i2c (pc := 13) dJa_charAt_13 ?_
  obtain ⟨s502, h⟩ := h
  exact x_retQI (pc := 14) dJa_charAt_14 rfl s502 h

theorem dJs_checkIndex_0 : decode (mB mJs_checkIndex) 0 = .ok (.iload_n 0, 1) := op26 (by decide +kernel)
theorem dJs_checkIndex_1 : decode (mB mJs_checkIndex) 1 = .ok (.iload_n 1, 1) := op27 (by decide +kernel)
theorem dJs_checkIndex_2 : decode (mB mJs_checkIndex) 2 = .ok (.getstatic 1053, 3) := op178 4 29 (by decide +kernel)
theorem dJs_checkIndex_5 : decode (mB mJs_checkIndex) 5 = .ok (.invokestatic 1059, 3) := op184 4 35 (by decide +kernel)
theorem dJs_checkIndex_8 : decode (mB mJs_checkIndex) 8 = .ok (.pop, 1) := op87 (by decide +kernel)
theorem dJs_checkIndex_9 : decode (mB mJs_checkIndex) 9 = .ok (.return_, 1) := op177 (by decide +kernel)

theorem vJs_checkIndex_0 {M : Mm} {b : Nat × Nat} {K : Mm → Prop} {v0 : Int32} {v1 : Int32}  
    (h : CI mJp_checkIndex [.int v0, .int v1, .retAddr 0] M (fun rv N => X mJs_checkIndex 8 [] [.int rv] N b (QV K))) : X mJs_checkIndex 0 [(0, .int v0), (1, .int v1)] [] M b (QV K) := by
  refine x_wf (fun hw => ?_)
  refine x_iload_n (pc := 0) dJs_checkIndex_0 rfl (q := 0) rfl ?_
  refine x_iload_n (pc := 1) dJs_checkIndex_1 rfl (q := 1) rfl ?_
  refine x_strF (pc := 2) dJs_checkIndex_2 flJs_1053 ?_
  exact x_invS (pc := 5) dJs_checkIndex_5 (S := []) (As := [.int v0, .int v1, .retAddr 0]) mlJs_1059 hJp_checkIndex rfl ⟨by decide, by decide⟩ ⟨Nat.zero_le _, Nat.zero_le _⟩ rfl (Nat.le_of_ble_eq_true rfl) (aftI (b' := b) ⟨Nat.le_refl _, Nat.le_refl _⟩ (fun rv N h => x_loc [] rfl h) h)

theorem vJs_checkIndex_8 {M : Mm} {b : Nat × Nat} {K : Mm → Prop} {w0 : Int32}  
    (h : K M) : X mJs_checkIndex 8 [] [.int w0] M b (QV K) := by
  refine x_wf (fun hw => ?_)
  refine x_pop (pc := 8) dJs_checkIndex_8 rfl ?_
  exact x_retQV (pc := 9) dJs_checkIndex_9 rfl h

theorem dJp_checkIndex_0 : decode (mB mJp_checkIndex) 0 = .ok (.iload_n 0, 1) := op26 (by decide +kernel)
theorem dJp_checkIndex_1 : decode (mB mJp_checkIndex) 1 = .ok (.ifCond .lt 8, 3) := op155 0 8 (by decide +kernel)
theorem dJp_checkIndex_4 : decode (mB mJp_checkIndex) 4 = .ok (.iload_n 0, 1) := op26 (by decide +kernel)
theorem dJp_checkIndex_5 : decode (mB mJp_checkIndex) 5 = .ok (.iload_n 1, 1) := op27 (by decide +kernel)
theorem dJp_checkIndex_6 : decode (mB mJp_checkIndex) 6 = .ok (.if_icmp .lt 10, 3) := op161 0 10 (by decide +kernel)
theorem dJp_checkIndex_9 : decode (mB mJp_checkIndex) 9 = .ok (.aload_n 2, 1) := op44 (by decide +kernel)
theorem dJp_checkIndex_10 : decode (mB mJp_checkIndex) 10 = .ok (.iload_n 0, 1) := op26 (by decide +kernel)
theorem dJp_checkIndex_11 : decode (mB mJp_checkIndex) 11 = .ok (.iload_n 1, 1) := op27 (by decide +kernel)
theorem dJp_checkIndex_12 : decode (mB mJp_checkIndex) 12 = .ok (.invokestatic 95, 3) := op184 0 95 (by decide +kernel)
theorem dJp_checkIndex_15 : decode (mB mJp_checkIndex) 15 = .ok (.athrow, 1) := op191 (by decide +kernel)
theorem dJp_checkIndex_16 : decode (mB mJp_checkIndex) 16 = .ok (.iload_n 0, 1) := op26 (by decide +kernel)
theorem dJp_checkIndex_17 : decode (mB mJp_checkIndex) 17 = .ok (.ireturn, 1) := op172 (by decide +kernel)

theorem vJp_checkIndex_0 {M : Mm} {b : Nat × Nat} {K : Int32 → Mm → Prop} {v0 : Int32} {v1 : Int32}  
    (h : (((v0 < 0) ∨ (¬ v0 < 0 ∧ ¬ v0 < v1)) → (False)) ∧ ((¬ v0 < 0 ∧ v0 < v1) → (K v0 M))) : X mJp_checkIndex 0 [(0, .int v0), (1, .int v1), (2, .retAddr 0)] [] M b (QI K) := by
  refine x_wf (fun hw => ?_)
  refine x_iload_n (pc := 0) dJp_checkIndex_0 rfl (q := 0) rfl ?_
  obtain ⟨g1_0, g1_1⟩ := h
  have g1_k0 : (v0 < 0) ∨ (¬ v0 < 0 ∧ ¬ v0 < v1) → X mJp_checkIndex 9 [(0, .int v0), (1, .int v1), (2, .retAddr 0)] [] M b (QI K) := fun q => by
    have h := g1_0 q
    exact h.elim
  refine x_if_lt (pc := 1) dJp_checkIndex_1 (t := 9) rfl (fun q1 => ?_) (fun q1 => ?_)
  · exact g1_k0 (Or.inl q1)
  · refine x_iload_n (pc := 4) dJp_checkIndex_4 rfl (q := 0) rfl ?_
    refine x_iload_n (pc := 5) dJp_checkIndex_5 rfl (q := 1) rfl ?_
    refine x_icmp_lt (pc := 6) dJp_checkIndex_6 (t := 16) rfl (fun q2 => ?_) (fun q2 => ?_)
    · refine x_iload_n (pc := 16) dJp_checkIndex_16 rfl (q := 0) rfl ?_
      have h := g1_1 ⟨q1, q2⟩
      exact x_retQI (pc := 17) dJp_checkIndex_17 rfl rfl h
    · exact g1_k0 (Or.inr ⟨q1, q2⟩)

theorem dJi_numberOfTrailingZeros_0 : decode (mB mJi_numberOfTrailingZeros) 0 = .ok (.iload_n 0, 1) := op26 (by decide +kernel)
theorem dJi_numberOfTrailingZeros_1 : decode (mB mJi_numberOfTrailingZeros) 1 = .ok (.iconst (-1), 1) := op2 (by decide +kernel)
theorem dJi_numberOfTrailingZeros_2 : decode (mB mJi_numberOfTrailingZeros) 2 = .ok (.ixor, 1) := op130 (by decide +kernel)
theorem dJi_numberOfTrailingZeros_3 : decode (mB mJi_numberOfTrailingZeros) 3 = .ok (.iload_n 0, 1) := op26 (by decide +kernel)
theorem dJi_numberOfTrailingZeros_4 : decode (mB mJi_numberOfTrailingZeros) 4 = .ok (.iconst 1, 1) := op4 (by decide +kernel)
theorem dJi_numberOfTrailingZeros_5 : decode (mB mJi_numberOfTrailingZeros) 5 = .ok (.isub, 1) := op100 (by decide +kernel)
theorem dJi_numberOfTrailingZeros_6 : decode (mB mJi_numberOfTrailingZeros) 6 = .ok (.iand, 1) := op126 (by decide +kernel)
theorem dJi_numberOfTrailingZeros_7 : decode (mB mJi_numberOfTrailingZeros) 7 = .ok (.istore_n 0, 1) := op59 (by decide +kernel)
theorem dJi_numberOfTrailingZeros_8 : decode (mB mJi_numberOfTrailingZeros) 8 = .ok (.iload_n 0, 1) := op26 (by decide +kernel)
theorem dJi_numberOfTrailingZeros_9 : decode (mB mJi_numberOfTrailingZeros) 9 = .ok (.ifCond .gt 8, 3) := op157 0 8 (by decide +kernel)
theorem dJi_numberOfTrailingZeros_12 : decode (mB mJi_numberOfTrailingZeros) 12 = .ok (.iload_n 0, 1) := op26 (by decide +kernel)
theorem dJi_numberOfTrailingZeros_13 : decode (mB mJi_numberOfTrailingZeros) 13 = .ok (.bipush 32, 2) := op16 32 (by decide +kernel)
theorem dJi_numberOfTrailingZeros_15 : decode (mB mJi_numberOfTrailingZeros) 15 = .ok (.iand, 1) := op126 (by decide +kernel)
theorem dJi_numberOfTrailingZeros_16 : decode (mB mJi_numberOfTrailingZeros) 16 = .ok (.ireturn, 1) := op172 (by decide +kernel)
theorem dJi_numberOfTrailingZeros_17 : decode (mB mJi_numberOfTrailingZeros) 17 = .ok (.iconst 1, 1) := op4 (by decide +kernel)
theorem dJi_numberOfTrailingZeros_18 : decode (mB mJi_numberOfTrailingZeros) 18 = .ok (.istore_n 1, 1) := op60 (by decide +kernel)
theorem dJi_numberOfTrailingZeros_19 : decode (mB mJi_numberOfTrailingZeros) 19 = .ok (.iload_n 0, 1) := op26 (by decide +kernel)
theorem dJi_numberOfTrailingZeros_20 : decode (mB mJi_numberOfTrailingZeros) 20 = .ok (.ldc_w 264, 3) := op19 1 8 (by decide +kernel)
theorem dJi_numberOfTrailingZeros_23 : decode (mB mJi_numberOfTrailingZeros) 23 = .ok (.if_icmp .le 11, 3) := op164 0 11 (by decide +kernel)
theorem dJi_numberOfTrailingZeros_26 : decode (mB mJi_numberOfTrailingZeros) 26 = .ok (.iinc 1 16, 3) := op132 1 16 (by decide +kernel)
theorem dJi_numberOfTrailingZeros_29 : decode (mB mJi_numberOfTrailingZeros) 29 = .ok (.iload_n 0, 1) := op26 (by decide +kernel)
theorem dJi_numberOfTrailingZeros_30 : decode (mB mJi_numberOfTrailingZeros) 30 = .ok (.bipush 16, 2) := op16 16 (by decide +kernel)
theorem dJi_numberOfTrailingZeros_32 : decode (mB mJi_numberOfTrailingZeros) 32 = .ok (.iushr, 1) := op124 (by decide +kernel)
theorem dJi_numberOfTrailingZeros_33 : decode (mB mJi_numberOfTrailingZeros) 33 = .ok (.istore_n 0, 1) := op59 (by decide +kernel)
theorem dJi_numberOfTrailingZeros_34 : decode (mB mJi_numberOfTrailingZeros) 34 = .ok (.iload_n 0, 1) := op26 (by decide +kernel)
theorem dJi_numberOfTrailingZeros_35 : decode (mB mJi_numberOfTrailingZeros) 35 = .ok (.sipush 256, 3) := op17 1 0 (by decide +kernel)
theorem dJi_numberOfTrailingZeros_38 : decode (mB mJi_numberOfTrailingZeros) 38 = .ok (.if_icmp .le 11, 3) := op164 0 11 (by decide +kernel)
theorem dJi_numberOfTrailingZeros_41 : decode (mB mJi_numberOfTrailingZeros) 41 = .ok (.iinc 1 8, 3) := op132 1 8 (by decide +kernel)
theorem dJi_numberOfTrailingZeros_44 : decode (mB mJi_numberOfTrailingZeros) 44 = .ok (.iload_n 0, 1) := op26 (by decide +kernel)
theorem dJi_numberOfTrailingZeros_45 : decode (mB mJi_numberOfTrailingZeros) 45 = .ok (.bipush 8, 2) := op16 8 (by decide +kernel)
theorem dJi_numberOfTrailingZeros_47 : decode (mB mJi_numberOfTrailingZeros) 47 = .ok (.iushr, 1) := op124 (by decide +kernel)
theorem dJi_numberOfTrailingZeros_48 : decode (mB mJi_numberOfTrailingZeros) 48 = .ok (.istore_n 0, 1) := op59 (by decide +kernel)
theorem dJi_numberOfTrailingZeros_49 : decode (mB mJi_numberOfTrailingZeros) 49 = .ok (.iload_n 0, 1) := op26 (by decide +kernel)
theorem dJi_numberOfTrailingZeros_50 : decode (mB mJi_numberOfTrailingZeros) 50 = .ok (.bipush 16, 2) := op16 16 (by decide +kernel)
theorem dJi_numberOfTrailingZeros_52 : decode (mB mJi_numberOfTrailingZeros) 52 = .ok (.if_icmp .le 10, 3) := op164 0 10 (by decide +kernel)
theorem dJi_numberOfTrailingZeros_55 : decode (mB mJi_numberOfTrailingZeros) 55 = .ok (.iinc 1 4, 3) := op132 1 4 (by decide +kernel)
theorem dJi_numberOfTrailingZeros_58 : decode (mB mJi_numberOfTrailingZeros) 58 = .ok (.iload_n 0, 1) := op26 (by decide +kernel)
theorem dJi_numberOfTrailingZeros_59 : decode (mB mJi_numberOfTrailingZeros) 59 = .ok (.iconst 4, 1) := op7 (by decide +kernel)
theorem dJi_numberOfTrailingZeros_60 : decode (mB mJi_numberOfTrailingZeros) 60 = .ok (.iushr, 1) := op124 (by decide +kernel)
theorem dJi_numberOfTrailingZeros_61 : decode (mB mJi_numberOfTrailingZeros) 61 = .ok (.istore_n 0, 1) := op59 (by decide +kernel)
theorem dJi_numberOfTrailingZeros_62 : decode (mB mJi_numberOfTrailingZeros) 62 = .ok (.iload_n 0, 1) := op26 (by decide +kernel)
theorem dJi_numberOfTrailingZeros_63 : decode (mB mJi_numberOfTrailingZeros) 63 = .ok (.iconst 4, 1) := op7 (by decide +kernel)
theorem dJi_numberOfTrailingZeros_64 : decode (mB mJi_numberOfTrailingZeros) 64 = .ok (.if_icmp .le 10, 3) := op164 0 10 (by decide +kernel)
theorem dJi_numberOfTrailingZeros_67 : decode (mB mJi_numberOfTrailingZeros) 67 = .ok (.iinc 1 2, 3) := op132 1 2 (by decide +kernel)
theorem dJi_numberOfTrailingZeros_70 : decode (mB mJi_numberOfTrailingZeros) 70 = .ok (.iload_n 0, 1) := op26 (by decide +kernel)
theorem dJi_numberOfTrailingZeros_71 : decode (mB mJi_numberOfTrailingZeros) 71 = .ok (.iconst 2, 1) := op5 (by decide +kernel)
theorem dJi_numberOfTrailingZeros_72 : decode (mB mJi_numberOfTrailingZeros) 72 = .ok (.iushr, 1) := op124 (by decide +kernel)
theorem dJi_numberOfTrailingZeros_73 : decode (mB mJi_numberOfTrailingZeros) 73 = .ok (.istore_n 0, 1) := op59 (by decide +kernel)
theorem dJi_numberOfTrailingZeros_74 : decode (mB mJi_numberOfTrailingZeros) 74 = .ok (.iload_n 1, 1) := op27 (by decide +kernel)
theorem dJi_numberOfTrailingZeros_75 : decode (mB mJi_numberOfTrailingZeros) 75 = .ok (.iload_n 0, 1) := op26 (by decide +kernel)
theorem dJi_numberOfTrailingZeros_76 : decode (mB mJi_numberOfTrailingZeros) 76 = .ok (.iconst 1, 1) := op4 (by decide +kernel)
theorem dJi_numberOfTrailingZeros_77 : decode (mB mJi_numberOfTrailingZeros) 77 = .ok (.iushr, 1) := op124 (by decide +kernel)
theorem dJi_numberOfTrailingZeros_78 : decode (mB mJi_numberOfTrailingZeros) 78 = .ok (.iadd, 1) := op96 (by decide +kernel)
theorem dJi_numberOfTrailingZeros_79 : decode (mB mJi_numberOfTrailingZeros) 79 = .ok (.ireturn, 1) := op172 (by decide +kernel)

theorem vJi_numberOfTrailingZeros_0 {M : Mm} {b : Nat × Nat} {K : Int32 → Mm → Prop} {v0 : Int32}  
    (h : (0 < ((v0 ^^^ (-1)) &&& (v0 - 1)) → ((((v0 ^^^ (-1)) &&& (v0 - 1)) ≤ 65536 → (X mJi_numberOfTrailingZeros 34 [(0, .int ((v0 ^^^ (-1)) &&& (v0 - 1))), (1, .int 1)] [] M b (QI K))) ∧ (¬ ((v0 ^^^ (-1)) &&& (v0 - 1)) ≤ 65536 → (X mJi_numberOfTrailingZeros 34 [(0, .int (ushr ((v0 ^^^ (-1)) &&& (v0 - 1)) 16)), (1, .int (1 + 16))] [] M b (QI K))))) ∧ (¬ 0 < ((v0 ^^^ (-1)) &&& (v0 - 1)) → (K (((v0 ^^^ (-1)) &&& (v0 - 1)) &&& 32) M))) : X mJi_numberOfTrailingZeros 0 [(0, .int v0)] [] M b (QI K) := by
  refine x_wf (fun hw => ?_)
  refine x_iload_n (pc := 0) dJi_numberOfTrailingZeros_0 rfl (q := 0) rfl ?_
  refine x_iconst (pc := 1) dJi_numberOfTrailingZeros_1 (v := (-1)) rfl ?_
  refine x_ixor (pc := 2) dJi_numberOfTrailingZeros_2 ?_
  refine x_iload_n (pc := 3) dJi_numberOfTrailingZeros_3 rfl (q := 0) rfl ?_
  refine x_iconst (pc := 4) dJi_numberOfTrailingZeros_4 (v := 1) rfl ?_
  refine x_isub (pc := 5) dJi_numberOfTrailingZeros_5 ?_
  refine x_iand (pc := 6) dJi_numberOfTrailingZeros_6 ?_
  refine x_istore_n (pc := 7) dJi_numberOfTrailingZeros_7 rfl (by decide) (L' := [(0, .int ((v0 ^^^ (-1)) &&& (v0 - 1)))]) rfl ?_
  refine x_iload_n (pc := 8) dJi_numberOfTrailingZeros_8 rfl (q := 0) rfl ?_
  obtain ⟨g1_0, g1_1⟩ := h
  refine x_if_gt (pc := 9) dJi_numberOfTrailingZeros_9 (t := 17) rfl (fun q1 => ?_) (fun q1 => ?_)
  · refine x_iconst (pc := 17) dJi_numberOfTrailingZeros_17 (v := 1) rfl ?_
    have h := g1_0 q1
    refine x_istore_n (pc := 18) dJi_numberOfTrailingZeros_18 rfl (by decide) (L' := [(1, .int 1), (0, .int ((v0 ^^^ (-1)) &&& (v0 - 1)))]) rfl ?_
    refine x_iload_n (pc := 19) dJi_numberOfTrailingZeros_19 rfl (q := 1) rfl ?_
    refine x_ldcw (pc := 20) dJi_numberOfTrailingZeros_20 kcJi_264 ?_
    obtain ⟨g2_0, g2_1⟩ := h
    refine x_icmp_le (pc := 23) dJi_numberOfTrailingZeros_23 (t := 34) rfl (fun q2 => ?_) (fun q2 => ?_)
    · have h := g2_0 q2
      exact x_loc [1, 0] rfl h
    · have h := g2_1 q2
      refine x_iinc (pc := 26) dJi_numberOfTrailingZeros_26 (q := 0) rfl (v := 1 + 16) rfl (by decide) (L' := [(1, .int (1 + 16)), (0, .int ((v0 ^^^ (-1)) &&& (v0 - 1)))]) rfl ?_
      refine x_iload_n (pc := 29) dJi_numberOfTrailingZeros_29 rfl (q := 1) rfl ?_
      refine x_bipush (pc := 30) dJi_numberOfTrailingZeros_30 (v := 16) rfl ?_
      refine x_iushr (pc := 32) dJi_numberOfTrailingZeros_32 ?_
      refine x_istore_n (pc := 33) dJi_numberOfTrailingZeros_33 rfl (by decide) (L' := [(0, .int (ushr ((v0 ^^^ (-1)) &&& (v0 - 1)) 16)), (1, .int (1 + 16))]) rfl ?_
      exact h
  · refine x_iload_n (pc := 12) dJi_numberOfTrailingZeros_12 rfl (q := 0) rfl ?_
    refine x_bipush (pc := 13) dJi_numberOfTrailingZeros_13 (v := 32) rfl ?_
    refine x_iand (pc := 15) dJi_numberOfTrailingZeros_15 ?_
    have h := g1_1 q1
    exact x_retQI (pc := 16) dJi_numberOfTrailingZeros_16 rfl rfl h

theorem vJi_numberOfTrailingZeros_34 {M : Mm} {b : Nat × Nat} {K : Int32 → Mm → Prop} {v0 : Int32} {v1 : Int32}  
    (h : (v0 ≤ 256 → (X mJi_numberOfTrailingZeros 49 [(0, .int v0), (1, .int v1)] [] M b (QI K))) ∧ (¬ v0 ≤ 256 → (X mJi_numberOfTrailingZeros 49 [(0, .int (ushr v0 8)), (1, .int (v1 + 8))] [] M b (QI K)))) : X mJi_numberOfTrailingZeros 34 [(0, .int v0), (1, .int v1)] [] M b (QI K) := by
  refine x_wf (fun hw => ?_)
  refine x_iload_n (pc := 34) dJi_numberOfTrailingZeros_34 rfl (q := 0) rfl ?_
  refine x_sipush (pc := 35) dJi_numberOfTrailingZeros_35 (v := 256) rfl ?_
  obtain ⟨g1_0, g1_1⟩ := h
  refine x_icmp_le (pc := 38) dJi_numberOfTrailingZeros_38 (t := 49) rfl (fun q1 => ?_) (fun q1 => ?_)
  · have h := g1_0 q1
    exact h
  · have h := g1_1 q1
    refine x_iinc (pc := 41) dJi_numberOfTrailingZeros_41 (q := 1) rfl (v := v1 + 8) rfl (by decide) (L' := [(1, .int (v1 + 8)), (0, .int v0)]) rfl ?_
    refine x_iload_n (pc := 44) dJi_numberOfTrailingZeros_44 rfl (q := 1) rfl ?_
    refine x_bipush (pc := 45) dJi_numberOfTrailingZeros_45 (v := 8) rfl ?_
    refine x_iushr (pc := 47) dJi_numberOfTrailingZeros_47 ?_
    refine x_istore_n (pc := 48) dJi_numberOfTrailingZeros_48 rfl (by decide) (L' := [(0, .int (ushr v0 8)), (1, .int (v1 + 8))]) rfl ?_
    exact h

theorem vJi_numberOfTrailingZeros_49 {M : Mm} {b : Nat × Nat} {K : Int32 → Mm → Prop} {v0 : Int32} {v1 : Int32}  
    (h : (v0 ≤ 16 → (X mJi_numberOfTrailingZeros 62 [(0, .int v0), (1, .int v1)] [] M b (QI K))) ∧ (¬ v0 ≤ 16 → (X mJi_numberOfTrailingZeros 62 [(0, .int (ushr v0 4)), (1, .int (v1 + 4))] [] M b (QI K)))) : X mJi_numberOfTrailingZeros 49 [(0, .int v0), (1, .int v1)] [] M b (QI K) := by
  refine x_wf (fun hw => ?_)
  refine x_iload_n (pc := 49) dJi_numberOfTrailingZeros_49 rfl (q := 0) rfl ?_
  refine x_bipush (pc := 50) dJi_numberOfTrailingZeros_50 (v := 16) rfl ?_
  obtain ⟨g1_0, g1_1⟩ := h
  refine x_icmp_le (pc := 52) dJi_numberOfTrailingZeros_52 (t := 62) rfl (fun q1 => ?_) (fun q1 => ?_)
  · have h := g1_0 q1
    exact h
  · have h := g1_1 q1
    refine x_iinc (pc := 55) dJi_numberOfTrailingZeros_55 (q := 1) rfl (v := v1 + 4) rfl (by decide) (L' := [(1, .int (v1 + 4)), (0, .int v0)]) rfl ?_
    refine x_iload_n (pc := 58) dJi_numberOfTrailingZeros_58 rfl (q := 1) rfl ?_
    refine x_iconst (pc := 59) dJi_numberOfTrailingZeros_59 (v := 4) rfl ?_
    refine x_iushr (pc := 60) dJi_numberOfTrailingZeros_60 ?_
    refine x_istore_n (pc := 61) dJi_numberOfTrailingZeros_61 rfl (by decide) (L' := [(0, .int (ushr v0 4)), (1, .int (v1 + 4))]) rfl ?_
    exact h

theorem vJi_numberOfTrailingZeros_62 {M : Mm} {b : Nat × Nat} {K : Int32 → Mm → Prop} {v0 : Int32} {v1 : Int32}  
    (h : (v0 ≤ 4 → (X mJi_numberOfTrailingZeros 74 [(0, .int v0), (1, .int v1)] [] M b (QI K))) ∧ (¬ v0 ≤ 4 → (X mJi_numberOfTrailingZeros 74 [(0, .int (ushr v0 2)), (1, .int (v1 + 2))] [] M b (QI K)))) : X mJi_numberOfTrailingZeros 62 [(0, .int v0), (1, .int v1)] [] M b (QI K) := by
  refine x_wf (fun hw => ?_)
  refine x_iload_n (pc := 62) dJi_numberOfTrailingZeros_62 rfl (q := 0) rfl ?_
  refine x_iconst (pc := 63) dJi_numberOfTrailingZeros_63 (v := 4) rfl ?_
  obtain ⟨g1_0, g1_1⟩ := h
  refine x_icmp_le (pc := 64) dJi_numberOfTrailingZeros_64 (t := 74) rfl (fun q1 => ?_) (fun q1 => ?_)
  · have h := g1_0 q1
    exact h
  · have h := g1_1 q1
    refine x_iinc (pc := 67) dJi_numberOfTrailingZeros_67 (q := 1) rfl (v := v1 + 2) rfl (by decide) (L' := [(1, .int (v1 + 2)), (0, .int v0)]) rfl ?_
    refine x_iload_n (pc := 70) dJi_numberOfTrailingZeros_70 rfl (q := 1) rfl ?_
    refine x_iconst (pc := 71) dJi_numberOfTrailingZeros_71 (v := 2) rfl ?_
    refine x_iushr (pc := 72) dJi_numberOfTrailingZeros_72 ?_
    refine x_istore_n (pc := 73) dJi_numberOfTrailingZeros_73 rfl (by decide) (L' := [(0, .int (ushr v0 2)), (1, .int (v1 + 2))]) rfl ?_
    exact h

theorem vJi_numberOfTrailingZeros_74 {M : Mm} {b : Nat × Nat} {K : Int32 → Mm → Prop} {v0 : Int32} {v1 : Int32}  
    (h : K (v1 + (ushr v0 1)) M) : X mJi_numberOfTrailingZeros 74 [(0, .int v0), (1, .int v1)] [] M b (QI K) := by
  refine x_wf (fun hw => ?_)
  refine x_iload_n (pc := 74) dJi_numberOfTrailingZeros_74 rfl (q := 1) rfl ?_
  refine x_iload_n (pc := 75) dJi_numberOfTrailingZeros_75 rfl (q := 0) rfl ?_
  refine x_iconst (pc := 76) dJi_numberOfTrailingZeros_76 (v := 1) rfl ?_
  refine x_iushr (pc := 77) dJi_numberOfTrailingZeros_77 ?_
  refine x_iadd (pc := 78) dJi_numberOfTrailingZeros_78 ?_
  exact x_retQI (pc := 79) dJi_numberOfTrailingZeros_79 rfl rfl h

theorem dJl_bitCount_0 : decode (mB mJl_bitCount) 0 = .ok (.lload_n 0, 1) := op30 (by decide +kernel)
theorem dJl_bitCount_1 : decode (mB mJl_bitCount) 1 = .ok (.lload_n 0, 1) := op30 (by decide +kernel)
theorem dJl_bitCount_2 : decode (mB mJl_bitCount) 2 = .ok (.iconst 1, 1) := op4 (by decide +kernel)
theorem dJl_bitCount_3 : decode (mB mJl_bitCount) 3 = .ok (.lushr, 1) := op125 (by decide +kernel)
theorem dJl_bitCount_4 : decode (mB mJl_bitCount) 4 = .ok (.ldc2_w 314, 3) := op20 1 58 (by decide +kernel)
theorem dJl_bitCount_7 : decode (mB mJl_bitCount) 7 = .ok (.land, 1) := op127 (by decide +kernel)
theorem dJl_bitCount_8 : decode (mB mJl_bitCount) 8 = .ok (.lsub, 1) := op101 (by decide +kernel)
theorem dJl_bitCount_9 : decode (mB mJl_bitCount) 9 = .ok (.lstore_n 0, 1) := op63 (by decide +kernel)
theorem dJl_bitCount_10 : decode (mB mJl_bitCount) 10 = .ok (.lload_n 0, 1) := op30 (by decide +kernel)
theorem dJl_bitCount_11 : decode (mB mJl_bitCount) 11 = .ok (.ldc2_w 316, 3) := op20 1 60 (by decide +kernel)
theorem dJl_bitCount_14 : decode (mB mJl_bitCount) 14 = .ok (.land, 1) := op127 (by decide +kernel)
theorem dJl_bitCount_15 : decode (mB mJl_bitCount) 15 = .ok (.lload_n 0, 1) := op30 (by decide +kernel)
theorem dJl_bitCount_16 : decode (mB mJl_bitCount) 16 = .ok (.iconst 2, 1) := op5 (by decide +kernel)
theorem dJl_bitCount_17 : decode (mB mJl_bitCount) 17 = .ok (.lushr, 1) := op125 (by decide +kernel)
theorem dJl_bitCount_18 : decode (mB mJl_bitCount) 18 = .ok (.ldc2_w 316, 3) := op20 1 60 (by decide +kernel)
theorem dJl_bitCount_21 : decode (mB mJl_bitCount) 21 = .ok (.land, 1) := op127 (by decide +kernel)
theorem dJl_bitCount_22 : decode (mB mJl_bitCount) 22 = .ok (.ladd, 1) := op97 (by decide +kernel)
theorem dJl_bitCount_23 : decode (mB mJl_bitCount) 23 = .ok (.lstore_n 0, 1) := op63 (by decide +kernel)
theorem dJl_bitCount_24 : decode (mB mJl_bitCount) 24 = .ok (.lload_n 0, 1) := op30 (by decide +kernel)
theorem dJl_bitCount_25 : decode (mB mJl_bitCount) 25 = .ok (.lload_n 0, 1) := op30 (by decide +kernel)
theorem dJl_bitCount_26 : decode (mB mJl_bitCount) 26 = .ok (.iconst 4, 1) := op7 (by decide +kernel)
theorem dJl_bitCount_27 : decode (mB mJl_bitCount) 27 = .ok (.lushr, 1) := op125 (by decide +kernel)
theorem dJl_bitCount_28 : decode (mB mJl_bitCount) 28 = .ok (.ladd, 1) := op97 (by decide +kernel)
theorem dJl_bitCount_29 : decode (mB mJl_bitCount) 29 = .ok (.ldc2_w 318, 3) := op20 1 62 (by decide +kernel)
theorem dJl_bitCount_32 : decode (mB mJl_bitCount) 32 = .ok (.land, 1) := op127 (by decide +kernel)
theorem dJl_bitCount_33 : decode (mB mJl_bitCount) 33 = .ok (.lstore_n 0, 1) := op63 (by decide +kernel)
theorem dJl_bitCount_34 : decode (mB mJl_bitCount) 34 = .ok (.lload_n 0, 1) := op30 (by decide +kernel)
theorem dJl_bitCount_35 : decode (mB mJl_bitCount) 35 = .ok (.lload_n 0, 1) := op30 (by decide +kernel)
theorem dJl_bitCount_36 : decode (mB mJl_bitCount) 36 = .ok (.bipush 8, 2) := op16 8 (by decide +kernel)
theorem dJl_bitCount_38 : decode (mB mJl_bitCount) 38 = .ok (.lushr, 1) := op125 (by decide +kernel)
theorem dJl_bitCount_39 : decode (mB mJl_bitCount) 39 = .ok (.ladd, 1) := op97 (by decide +kernel)
theorem dJl_bitCount_40 : decode (mB mJl_bitCount) 40 = .ok (.lstore_n 0, 1) := op63 (by decide +kernel)
theorem dJl_bitCount_41 : decode (mB mJl_bitCount) 41 = .ok (.lload_n 0, 1) := op30 (by decide +kernel)
theorem dJl_bitCount_42 : decode (mB mJl_bitCount) 42 = .ok (.lload_n 0, 1) := op30 (by decide +kernel)
theorem dJl_bitCount_43 : decode (mB mJl_bitCount) 43 = .ok (.bipush 16, 2) := op16 16 (by decide +kernel)
theorem dJl_bitCount_45 : decode (mB mJl_bitCount) 45 = .ok (.lushr, 1) := op125 (by decide +kernel)
theorem dJl_bitCount_46 : decode (mB mJl_bitCount) 46 = .ok (.ladd, 1) := op97 (by decide +kernel)
theorem dJl_bitCount_47 : decode (mB mJl_bitCount) 47 = .ok (.lstore_n 0, 1) := op63 (by decide +kernel)
theorem dJl_bitCount_48 : decode (mB mJl_bitCount) 48 = .ok (.lload_n 0, 1) := op30 (by decide +kernel)
theorem dJl_bitCount_49 : decode (mB mJl_bitCount) 49 = .ok (.lload_n 0, 1) := op30 (by decide +kernel)
theorem dJl_bitCount_50 : decode (mB mJl_bitCount) 50 = .ok (.bipush 32, 2) := op16 32 (by decide +kernel)
theorem dJl_bitCount_52 : decode (mB mJl_bitCount) 52 = .ok (.lushr, 1) := op125 (by decide +kernel)
theorem dJl_bitCount_53 : decode (mB mJl_bitCount) 53 = .ok (.ladd, 1) := op97 (by decide +kernel)
theorem dJl_bitCount_54 : decode (mB mJl_bitCount) 54 = .ok (.lstore_n 0, 1) := op63 (by decide +kernel)
theorem dJl_bitCount_55 : decode (mB mJl_bitCount) 55 = .ok (.lload_n 0, 1) := op30 (by decide +kernel)
theorem dJl_bitCount_56 : decode (mB mJl_bitCount) 56 = .ok (.l2i, 1) := op136 (by decide +kernel)
theorem dJl_bitCount_57 : decode (mB mJl_bitCount) 57 = .ok (.bipush 127, 2) := op16 127 (by decide +kernel)
theorem dJl_bitCount_59 : decode (mB mJl_bitCount) 59 = .ok (.iand, 1) := op126 (by decide +kernel)
theorem dJl_bitCount_60 : decode (mB mJl_bitCount) 60 = .ok (.ireturn, 1) := op172 (by decide +kernel)

theorem vJl_bitCount_0 {M : Mm} {b : Nat × Nat} {K : Int32 → Mm → Prop} {v0 : Int64}  
    (h : K ((((((((((v0 - ((lushr v0 (1 : Int32)) &&& 6148914691236517205)) &&& 3689348814741910323) + ((lushr (v0 - ((lushr v0 (1 : Int32)) &&& 6148914691236517205)) (2 : Int32)) &&& 3689348814741910323)) + (lushr (((v0 - ((lushr v0 (1 : Int32)) &&& 6148914691236517205)) &&& 3689348814741910323) + ((lushr (v0 - ((lushr v0 (1 : Int32)) &&& 6148914691236517205)) (2 : Int32)) &&& 3689348814741910323)) (4 : Int32))) &&& 1085102592571150095) + (lushr (((((v0 - ((lushr v0 (1 : Int32)) &&& 6148914691236517205)) &&& 3689348814741910323) + ((lushr (v0 - ((lushr v0 (1 : Int32)) &&& 6148914691236517205)) (2 : Int32)) &&& 3689348814741910323)) + (lushr (((v0 - ((lushr v0 (1 : Int32)) &&& 6148914691236517205)) &&& 3689348814741910323) + ((lushr (v0 - ((lushr v0 (1 : Int32)) &&& 6148914691236517205)) (2 : Int32)) &&& 3689348814741910323)) (4 : Int32))) &&& 1085102592571150095) (8 : Int32))) + (lushr ((((((v0 - ((lushr v0 (1 : Int32)) &&& 6148914691236517205)) &&& 3689348814741910323) + ((lushr (v0 - ((lushr v0 (1 : Int32)) &&& 6148914691236517205)) (2 : Int32)) &&& 3689348814741910323)) + (lushr (((v0 - ((lushr v0 (1 : Int32)) &&& 6148914691236517205)) &&& 3689348814741910323) + ((lushr (v0 - ((lushr v0 (1 : Int32)) &&& 6148914691236517205)) (2 : Int32)) &&& 3689348814741910323)) (4 : Int32))) &&& 1085102592571150095) + (lushr (((((v0 - ((lushr v0 (1 : Int32)) &&& 6148914691236517205)) &&& 3689348814741910323) + ((lushr (v0 - ((lushr v0 (1 : Int32)) &&& 6148914691236517205)) (2 : Int32)) &&& 3689348814741910323)) + (lushr (((v0 - ((lushr v0 (1 : Int32)) &&& 6148914691236517205)) &&& 3689348814741910323) + ((lushr (v0 - ((lushr v0 (1 : Int32)) &&& 6148914691236517205)) (2 : Int32)) &&& 3689348814741910323)) (4 : Int32))) &&& 1085102592571150095) (8 : Int32))) (16 : Int32))) + (lushr (((((((v0 - ((lushr v0 (1 : Int32)) &&& 6148914691236517205)) &&& 3689348814741910323) + ((lushr (v0 - ((lushr v0 (1 : Int32)) &&& 6148914691236517205)) (2 : Int32)) &&& 3689348814741910323)) + (lushr (((v0 - ((lushr v0 (1 : Int32)) &&& 6148914691236517205)) &&& 3689348814741910323) + ((lushr (v0 - ((lushr v0 (1 : Int32)) &&& 6148914691236517205)) (2 : Int32)) &&& 3689348814741910323)) (4 : Int32))) &&& 1085102592571150095) + (lushr (((((v0 - ((lushr v0 (1 : Int32)) &&& 6148914691236517205)) &&& 3689348814741910323) + ((lushr (v0 - ((lushr v0 (1 : Int32)) &&& 6148914691236517205)) (2 : Int32)) &&& 3689348814741910323)) + (lushr (((v0 - ((lushr v0 (1 : Int32)) &&& 6148914691236517205)) &&& 3689348814741910323) + ((lushr (v0 - ((lushr v0 (1 : Int32)) &&& 6148914691236517205)) (2 : Int32)) &&& 3689348814741910323)) (4 : Int32))) &&& 1085102592571150095) (8 : Int32))) + (lushr ((((((v0 - ((lushr v0 (1 : Int32)) &&& 6148914691236517205)) &&& 3689348814741910323) + ((lushr (v0 - ((lushr v0 (1 : Int32)) &&& 6148914691236517205)) (2 : Int32)) &&& 3689348814741910323)) + (lushr (((v0 - ((lushr v0 (1 : Int32)) &&& 6148914691236517205)) &&& 3689348814741910323) + ((lushr (v0 - ((lushr v0 (1 : Int32)) &&& 6148914691236517205)) (2 : Int32)) &&& 3689348814741910323)) (4 : Int32))) &&& 1085102592571150095) + (lushr (((((v0 - ((lushr v0 (1 : Int32)) &&& 6148914691236517205)) &&& 3689348814741910323) + ((lushr (v0 - ((lushr v0 (1 : Int32)) &&& 6148914691236517205)) (2 : Int32)) &&& 3689348814741910323)) + (lushr (((v0 - ((lushr v0 (1 : Int32)) &&& 6148914691236517205)) &&& 3689348814741910323) + ((lushr (v0 - ((lushr v0 (1 : Int32)) &&& 6148914691236517205)) (2 : Int32)) &&& 3689348814741910323)) (4 : Int32))) &&& 1085102592571150095) (8 : Int32))) (16 : Int32))) (32 : Int32))).toInt32) &&& 127) M) : X mJl_bitCount 0 [(0, .long v0)] [] M b (QI K) := by
  refine x_wf (fun hw => ?_)
  refine x_lload_n (pc := 0) dJl_bitCount_0 rfl (q := 0) rfl ?_
  refine x_lload_n (pc := 1) dJl_bitCount_1 rfl (q := 0) rfl ?_
  refine x_iconst (pc := 2) dJl_bitCount_2 (v := 1) rfl ?_
  refine x_lushr (pc := 3) dJl_bitCount_3 ?_
  refine x_ldc2 (pc := 4) dJl_bitCount_4 klJl_314 ?_
  refine x_land (pc := 7) dJl_bitCount_7 ?_
  refine x_lsub (pc := 8) dJl_bitCount_8 ?_
  refine x_lstore_n (pc := 9) dJl_bitCount_9 rfl (by decide) (L' := [(0, .long (v0 - ((lushr v0 (1 : Int32)) &&& 6148914691236517205)))]) rfl ?_
  refine x_lload_n (pc := 10) dJl_bitCount_10 rfl (q := 0) rfl ?_
  refine x_ldc2 (pc := 11) dJl_bitCount_11 klJl_316 ?_
  refine x_land (pc := 14) dJl_bitCount_14 ?_
  refine x_lload_n (pc := 15) dJl_bitCount_15 rfl (q := 0) rfl ?_
  refine x_iconst (pc := 16) dJl_bitCount_16 (v := 2) rfl ?_
  refine x_lushr (pc := 17) dJl_bitCount_17 ?_
  refine x_ldc2 (pc := 18) dJl_bitCount_18 klJl_316 ?_
  refine x_land (pc := 21) dJl_bitCount_21 ?_
  refine x_ladd (pc := 22) dJl_bitCount_22 ?_
  refine x_lstore_n (pc := 23) dJl_bitCount_23 rfl (by decide) (L' := [(0, .long (((v0 - ((lushr v0 (1 : Int32)) &&& 6148914691236517205)) &&& 3689348814741910323) + ((lushr (v0 - ((lushr v0 (1 : Int32)) &&& 6148914691236517205)) (2 : Int32)) &&& 3689348814741910323)))]) rfl ?_
  refine x_lload_n (pc := 24) dJl_bitCount_24 rfl (q := 0) rfl ?_
  refine x_lload_n (pc := 25) dJl_bitCount_25 rfl (q := 0) rfl ?_
  refine x_iconst (pc := 26) dJl_bitCount_26 (v := 4) rfl ?_
  refine x_lushr (pc := 27) dJl_bitCount_27 ?_
  refine x_ladd (pc := 28) dJl_bitCount_28 ?_
  refine x_ldc2 (pc := 29) dJl_bitCount_29 klJl_318 ?_
  refine x_land (pc := 32) dJl_bitCount_32 ?_
  refine x_lstore_n (pc := 33) dJl_bitCount_33 rfl (by decide) (L' := [(0, .long (((((v0 - ((lushr v0 (1 : Int32)) &&& 6148914691236517205)) &&& 3689348814741910323) + ((lushr (v0 - ((lushr v0 (1 : Int32)) &&& 6148914691236517205)) (2 : Int32)) &&& 3689348814741910323)) + (lushr (((v0 - ((lushr v0 (1 : Int32)) &&& 6148914691236517205)) &&& 3689348814741910323) + ((lushr (v0 - ((lushr v0 (1 : Int32)) &&& 6148914691236517205)) (2 : Int32)) &&& 3689348814741910323)) (4 : Int32))) &&& 1085102592571150095))]) rfl ?_
  refine x_lload_n (pc := 34) dJl_bitCount_34 rfl (q := 0) rfl ?_
  refine x_lload_n (pc := 35) dJl_bitCount_35 rfl (q := 0) rfl ?_
  refine x_bipush (pc := 36) dJl_bitCount_36 (v := 8) rfl ?_
  refine x_lushr (pc := 38) dJl_bitCount_38 ?_
  refine x_ladd (pc := 39) dJl_bitCount_39 ?_
  refine x_lstore_n (pc := 40) dJl_bitCount_40 rfl (by decide) (L' := [(0, .long ((((((v0 - ((lushr v0 (1 : Int32)) &&& 6148914691236517205)) &&& 3689348814741910323) + ((lushr (v0 - ((lushr v0 (1 : Int32)) &&& 6148914691236517205)) (2 : Int32)) &&& 3689348814741910323)) + (lushr (((v0 - ((lushr v0 (1 : Int32)) &&& 6148914691236517205)) &&& 3689348814741910323) + ((lushr (v0 - ((lushr v0 (1 : Int32)) &&& 6148914691236517205)) (2 : Int32)) &&& 3689348814741910323)) (4 : Int32))) &&& 1085102592571150095) + (lushr (((((v0 - ((lushr v0 (1 : Int32)) &&& 6148914691236517205)) &&& 3689348814741910323) + ((lushr (v0 - ((lushr v0 (1 : Int32)) &&& 6148914691236517205)) (2 : Int32)) &&& 3689348814741910323)) + (lushr (((v0 - ((lushr v0 (1 : Int32)) &&& 6148914691236517205)) &&& 3689348814741910323) + ((lushr (v0 - ((lushr v0 (1 : Int32)) &&& 6148914691236517205)) (2 : Int32)) &&& 3689348814741910323)) (4 : Int32))) &&& 1085102592571150095) (8 : Int32))))]) rfl ?_
  refine x_lload_n (pc := 41) dJl_bitCount_41 rfl (q := 0) rfl ?_
  refine x_lload_n (pc := 42) dJl_bitCount_42 rfl (q := 0) rfl ?_
  refine x_bipush (pc := 43) dJl_bitCount_43 (v := 16) rfl ?_
  refine x_lushr (pc := 45) dJl_bitCount_45 ?_
  refine x_ladd (pc := 46) dJl_bitCount_46 ?_
  refine x_lstore_n (pc := 47) dJl_bitCount_47 rfl (by decide) (L' := [(0, .long (((((((v0 - ((lushr v0 (1 : Int32)) &&& 6148914691236517205)) &&& 3689348814741910323) + ((lushr (v0 - ((lushr v0 (1 : Int32)) &&& 6148914691236517205)) (2 : Int32)) &&& 3689348814741910323)) + (lushr (((v0 - ((lushr v0 (1 : Int32)) &&& 6148914691236517205)) &&& 3689348814741910323) + ((lushr (v0 - ((lushr v0 (1 : Int32)) &&& 6148914691236517205)) (2 : Int32)) &&& 3689348814741910323)) (4 : Int32))) &&& 1085102592571150095) + (lushr (((((v0 - ((lushr v0 (1 : Int32)) &&& 6148914691236517205)) &&& 3689348814741910323) + ((lushr (v0 - ((lushr v0 (1 : Int32)) &&& 6148914691236517205)) (2 : Int32)) &&& 3689348814741910323)) + (lushr (((v0 - ((lushr v0 (1 : Int32)) &&& 6148914691236517205)) &&& 3689348814741910323) + ((lushr (v0 - ((lushr v0 (1 : Int32)) &&& 6148914691236517205)) (2 : Int32)) &&& 3689348814741910323)) (4 : Int32))) &&& 1085102592571150095) (8 : Int32))) + (lushr ((((((v0 - ((lushr v0 (1 : Int32)) &&& 6148914691236517205)) &&& 3689348814741910323) + ((lushr (v0 - ((lushr v0 (1 : Int32)) &&& 6148914691236517205)) (2 : Int32)) &&& 3689348814741910323)) + (lushr (((v0 - ((lushr v0 (1 : Int32)) &&& 6148914691236517205)) &&& 3689348814741910323) + ((lushr (v0 - ((lushr v0 (1 : Int32)) &&& 6148914691236517205)) (2 : Int32)) &&& 3689348814741910323)) (4 : Int32))) &&& 1085102592571150095) + (lushr (((((v0 - ((lushr v0 (1 : Int32)) &&& 6148914691236517205)) &&& 3689348814741910323) + ((lushr (v0 - ((lushr v0 (1 : Int32)) &&& 6148914691236517205)) (2 : Int32)) &&& 3689348814741910323)) + (lushr (((v0 - ((lushr v0 (1 : Int32)) &&& 6148914691236517205)) &&& 3689348814741910323) + ((lushr (v0 - ((lushr v0 (1 : Int32)) &&& 6148914691236517205)) (2 : Int32)) &&& 3689348814741910323)) (4 : Int32))) &&& 1085102592571150095) (8 : Int32))) (16 : Int32))))]) rfl ?_
  refine x_lload_n (pc := 48) dJl_bitCount_48 rfl (q := 0) rfl ?_
  refine x_lload_n (pc := 49) dJl_bitCount_49 rfl (q := 0) rfl ?_
  refine x_bipush (pc := 50) dJl_bitCount_50 (v := 32) rfl ?_
  refine x_lushr (pc := 52) dJl_bitCount_52 ?_
  refine x_ladd (pc := 53) dJl_bitCount_53 ?_
  refine x_lstore_n (pc := 54) dJl_bitCount_54 rfl (by decide) (L' := [(0, .long ((((((((v0 - ((lushr v0 (1 : Int32)) &&& 6148914691236517205)) &&& 3689348814741910323) + ((lushr (v0 - ((lushr v0 (1 : Int32)) &&& 6148914691236517205)) (2 : Int32)) &&& 3689348814741910323)) + (lushr (((v0 - ((lushr v0 (1 : Int32)) &&& 6148914691236517205)) &&& 3689348814741910323) + ((lushr (v0 - ((lushr v0 (1 : Int32)) &&& 6148914691236517205)) (2 : Int32)) &&& 3689348814741910323)) (4 : Int32))) &&& 1085102592571150095) + (lushr (((((v0 - ((lushr v0 (1 : Int32)) &&& 6148914691236517205)) &&& 3689348814741910323) + ((lushr (v0 - ((lushr v0 (1 : Int32)) &&& 6148914691236517205)) (2 : Int32)) &&& 3689348814741910323)) + (lushr (((v0 - ((lushr v0 (1 : Int32)) &&& 6148914691236517205)) &&& 3689348814741910323) + ((lushr (v0 - ((lushr v0 (1 : Int32)) &&& 6148914691236517205)) (2 : Int32)) &&& 3689348814741910323)) (4 : Int32))) &&& 1085102592571150095) (8 : Int32))) + (lushr ((((((v0 - ((lushr v0 (1 : Int32)) &&& 6148914691236517205)) &&& 3689348814741910323) + ((lushr (v0 - ((lushr v0 (1 : Int32)) &&& 6148914691236517205)) (2 : Int32)) &&& 3689348814741910323)) + (lushr (((v0 - ((lushr v0 (1 : Int32)) &&& 6148914691236517205)) &&& 3689348814741910323) + ((lushr (v0 - ((lushr v0 (1 : Int32)) &&& 6148914691236517205)) (2 : Int32)) &&& 3689348814741910323)) (4 : Int32))) &&& 1085102592571150095) + (lushr (((((v0 - ((lushr v0 (1 : Int32)) &&& 6148914691236517205)) &&& 3689348814741910323) + ((lushr (v0 - ((lushr v0 (1 : Int32)) &&& 6148914691236517205)) (2 : Int32)) &&& 3689348814741910323)) + (lushr (((v0 - ((lushr v0 (1 : Int32)) &&& 6148914691236517205)) &&& 3689348814741910323) + ((lushr (v0 - ((lushr v0 (1 : Int32)) &&& 6148914691236517205)) (2 : Int32)) &&& 3689348814741910323)) (4 : Int32))) &&& 1085102592571150095) (8 : Int32))) (16 : Int32))) + (lushr (((((((v0 - ((lushr v0 (1 : Int32)) &&& 6148914691236517205)) &&& 3689348814741910323) + ((lushr (v0 - ((lushr v0 (1 : Int32)) &&& 6148914691236517205)) (2 : Int32)) &&& 3689348814741910323)) + (lushr (((v0 - ((lushr v0 (1 : Int32)) &&& 6148914691236517205)) &&& 3689348814741910323) + ((lushr (v0 - ((lushr v0 (1 : Int32)) &&& 6148914691236517205)) (2 : Int32)) &&& 3689348814741910323)) (4 : Int32))) &&& 1085102592571150095) + (lushr (((((v0 - ((lushr v0 (1 : Int32)) &&& 6148914691236517205)) &&& 3689348814741910323) + ((lushr (v0 - ((lushr v0 (1 : Int32)) &&& 6148914691236517205)) (2 : Int32)) &&& 3689348814741910323)) + (lushr (((v0 - ((lushr v0 (1 : Int32)) &&& 6148914691236517205)) &&& 3689348814741910323) + ((lushr (v0 - ((lushr v0 (1 : Int32)) &&& 6148914691236517205)) (2 : Int32)) &&& 3689348814741910323)) (4 : Int32))) &&& 1085102592571150095) (8 : Int32))) + (lushr ((((((v0 - ((lushr v0 (1 : Int32)) &&& 6148914691236517205)) &&& 3689348814741910323) + ((lushr (v0 - ((lushr v0 (1 : Int32)) &&& 6148914691236517205)) (2 : Int32)) &&& 3689348814741910323)) + (lushr (((v0 - ((lushr v0 (1 : Int32)) &&& 6148914691236517205)) &&& 3689348814741910323) + ((lushr (v0 - ((lushr v0 (1 : Int32)) &&& 6148914691236517205)) (2 : Int32)) &&& 3689348814741910323)) (4 : Int32))) &&& 1085102592571150095) + (lushr (((((v0 - ((lushr v0 (1 : Int32)) &&& 6148914691236517205)) &&& 3689348814741910323) + ((lushr (v0 - ((lushr v0 (1 : Int32)) &&& 6148914691236517205)) (2 : Int32)) &&& 3689348814741910323)) + (lushr (((v0 - ((lushr v0 (1 : Int32)) &&& 6148914691236517205)) &&& 3689348814741910323) + ((lushr (v0 - ((lushr v0 (1 : Int32)) &&& 6148914691236517205)) (2 : Int32)) &&& 3689348814741910323)) (4 : Int32))) &&& 1085102592571150095) (8 : Int32))) (16 : Int32))) (32 : Int32))))]) rfl ?_
  refine x_lload_n (pc := 55) dJl_bitCount_55 rfl (q := 0) rfl ?_
  refine x_l2i (pc := 56) dJl_bitCount_56 ?_
  refine x_bipush (pc := 57) dJl_bitCount_57 (v := 127) rfl ?_
  refine x_iand (pc := 59) dJl_bitCount_59 ?_
  exact x_retQI (pc := 60) dJl_bitCount_60 rfl rfl h

theorem dJl_numberOfTrailingZeros_0 : decode (mB mJl_numberOfTrailingZeros) 0 = .ok (.lload_n 0, 1) := op30 (by decide +kernel)
theorem dJl_numberOfTrailingZeros_1 : decode (mB mJl_numberOfTrailingZeros) 1 = .ok (.l2i, 1) := op136 (by decide +kernel)
theorem dJl_numberOfTrailingZeros_2 : decode (mB mJl_numberOfTrailingZeros) 2 = .ok (.istore_n 2, 1) := op61 (by decide +kernel)
theorem dJl_numberOfTrailingZeros_3 : decode (mB mJl_numberOfTrailingZeros) 3 = .ok (.iload_n 2, 1) := op28 (by decide +kernel)
theorem dJl_numberOfTrailingZeros_4 : decode (mB mJl_numberOfTrailingZeros) 4 = .ok (.ifCond .ne 17, 3) := op154 0 17 (by decide +kernel)
theorem dJl_numberOfTrailingZeros_7 : decode (mB mJl_numberOfTrailingZeros) 7 = .ok (.bipush 32, 2) := op16 32 (by decide +kernel)
theorem dJl_numberOfTrailingZeros_9 : decode (mB mJl_numberOfTrailingZeros) 9 = .ok (.lload_n 0, 1) := op30 (by decide +kernel)
theorem dJl_numberOfTrailingZeros_10 : decode (mB mJl_numberOfTrailingZeros) 10 = .ok (.bipush 32, 2) := op16 32 (by decide +kernel)
theorem dJl_numberOfTrailingZeros_12 : decode (mB mJl_numberOfTrailingZeros) 12 = .ok (.lushr, 1) := op125 (by decide +kernel)
theorem dJl_numberOfTrailingZeros_13 : decode (mB mJl_numberOfTrailingZeros) 13 = .ok (.l2i, 1) := op136 (by decide +kernel)
theorem dJl_numberOfTrailingZeros_14 : decode (mB mJl_numberOfTrailingZeros) 14 = .ok (.invokestatic 311, 3) := op184 1 55 (by decide +kernel)
theorem dJl_numberOfTrailingZeros_17 : decode (mB mJl_numberOfTrailingZeros) 17 = .ok (.iadd, 1) := op96 (by decide +kernel)
theorem dJl_numberOfTrailingZeros_18 : decode (mB mJl_numberOfTrailingZeros) 18 = .ok (.goto 7, 3) := op167 0 7 (by decide +kernel)
theorem dJl_numberOfTrailingZeros_21 : decode (mB mJl_numberOfTrailingZeros) 21 = .ok (.iload_n 2, 1) := op28 (by decide +kernel)
theorem dJl_numberOfTrailingZeros_22 : decode (mB mJl_numberOfTrailingZeros) 22 = .ok (.invokestatic 311, 3) := op184 1 55 (by decide +kernel)
theorem dJl_numberOfTrailingZeros_25 : decode (mB mJl_numberOfTrailingZeros) 25 = .ok (.ireturn, 1) := op172 (by decide +kernel)

theorem vJl_numberOfTrailingZeros_0 {M : Mm} {b : Nat × Nat} {K : Int32 → Mm → Prop} {v0 : Int64}  
    (h : (¬ ((v0).toInt32) = 0 → (CI mJi_numberOfTrailingZeros [.int ((v0).toInt32)] M (fun rv N => X mJl_numberOfTrailingZeros 25 [] [.int rv] N b (QI K)))) ∧ (((v0).toInt32) = 0 → (CI mJi_numberOfTrailingZeros [.int ((lushr v0 (32 : Int32)).toInt32)] M (fun rv N => X mJl_numberOfTrailingZeros 17 [] [.int rv, .int 32] N b (QI K))))) : X mJl_numberOfTrailingZeros 0 [(0, .long v0)] [] M b (QI K) := by
  refine x_wf (fun hw => ?_)
  refine x_lload_n (pc := 0) dJl_numberOfTrailingZeros_0 rfl (q := 0) rfl ?_
  refine x_l2i (pc := 1) dJl_numberOfTrailingZeros_1 ?_
  refine x_istore_n (pc := 2) dJl_numberOfTrailingZeros_2 rfl (by decide) (L' := [(2, .int ((v0).toInt32)), (0, .long v0)]) rfl ?_
  refine x_iload_n (pc := 3) dJl_numberOfTrailingZeros_3 rfl (q := 0) rfl ?_
  obtain ⟨g1_0, g1_1⟩ := h
  refine x_if_ne (pc := 4) dJl_numberOfTrailingZeros_4 (t := 21) rfl (fun q1 => ?_) (fun q1 => ?_)
  · refine x_iload_n (pc := 21) dJl_numberOfTrailingZeros_21 rfl (q := 0) rfl ?_
    have h := g1_0 q1
    exact x_invS (pc := 22) dJl_numberOfTrailingZeros_22 (S := []) (As := [.int ((v0).toInt32)]) mlJl_311 hJi_numberOfTrailingZeros rfl ⟨by decide, by decide⟩ ⟨Nat.zero_le _, Nat.zero_le _⟩ rfl (Nat.le_of_ble_eq_true rfl) (aftI (b' := b) ⟨Nat.le_refl _, Nat.le_refl _⟩ (fun rv N h => x_loc [] rfl h) h)
  · refine x_bipush (pc := 7) dJl_numberOfTrailingZeros_7 (v := 32) rfl ?_
    refine x_lload_n (pc := 9) dJl_numberOfTrailingZeros_9 rfl (q := 1) rfl ?_
    refine x_bipush (pc := 10) dJl_numberOfTrailingZeros_10 (v := 32) rfl ?_
    refine x_lushr (pc := 12) dJl_numberOfTrailingZeros_12 ?_
    refine x_l2i (pc := 13) dJl_numberOfTrailingZeros_13 ?_
    have h := g1_1 q1
    exact x_invS (pc := 14) dJl_numberOfTrailingZeros_14 (S := [.int 32]) (As := [.int ((lushr v0 (32 : Int32)).toInt32)]) mlJl_311 hJi_numberOfTrailingZeros rfl ⟨by decide, by decide⟩ ⟨Nat.zero_le _, Nat.zero_le _⟩ rfl (Nat.le_of_ble_eq_true rfl) (aftI (b' := b) ⟨Nat.le_refl _, Nat.le_refl _⟩ (fun rv N h => x_loc [] rfl h) h)

theorem vJl_numberOfTrailingZeros_17 {M : Mm} {b : Nat × Nat} {K : Int32 → Mm → Prop} {w0 : Int32} {w1 : Int32}  
    (h : K (w1 + w0) M) : X mJl_numberOfTrailingZeros 17 [] [.int w0, .int w1] M b (QI K) := by
  refine x_wf (fun hw => ?_)
  refine x_iadd (pc := 17) dJl_numberOfTrailingZeros_17 ?_
  refine x_goto (pc := 18) dJl_numberOfTrailingZeros_18 (t := 25) rfl ?_
  exact x_retQI (pc := 25) dJl_numberOfTrailingZeros_25 rfl rfl h

theorem vJl_numberOfTrailingZeros_25 {M : Mm} {b : Nat × Nat} {K : Int32 → Mm → Prop} {w0 : Int32}  
    (h : K w0 M) : X mJl_numberOfTrailingZeros 25 [] [.int w0] M b (QI K) := by
  refine x_wf (fun hw => ?_)
  exact x_retQI (pc := 25) dJl_numberOfTrailingZeros_25 rfl rfl h

