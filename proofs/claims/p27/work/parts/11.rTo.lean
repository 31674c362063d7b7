theorem dTa_init_0 : decode (mB mTa_init) 0 = .ok (.aload_n 0, 1) := op42 (by decide +kernel)
theorem dTa_init_1 : decode (mB mTa_init) 1 = .ok (.invokespecial 3, 3) := op183 0 3 (by decide +kernel)
theorem dTa_init_4 : decode (mB mTa_init) 4 = .ok (.aload_n 0, 1) := op42 (by decide +kernel)
theorem dTa_init_5 : decode (mB mTa_init) 5 = .ok (.sipush 400, 3) := op17 1 144 (by decide +kernel)
theorem dTa_init_8 : decode (mB mTa_init) 8 = .ok (.newarray .byte, 2) := by decide +kernel
theorem dTa_init_10 : decode (mB mTa_init) 10 = .ok (.putfield 9, 3) := op181 0 9 (by decide +kernel)
theorem dTa_init_13 : decode (mB mTa_init) 13 = .ok (.return_, 1) := op177 (by decide +kernel)

theorem vTa_init_0 {M : Mm} {b : Nat × Nat} {K : Mm → Prop} {v0 : Nat}  
    (h : X mTa_init 4 [(0, .ref v0)] [] M b (QV K)) : X mTa_init 0 [(0, .ref v0)] [] M b (QV K) := by
  refine x_wf (fun hw => ?_)
  refine x_aload_n (pc := 0) dTa_init_0 rfl (q := 0) rfl ?_
  refine x_obj (pc := 1) dTa_init_1 mlTa_3 h_obj.1 h_obj.2 (by decide) (Nat.le_of_ble_eq_true rfl) ?_
  exact h

theorem vTa_init_4 {M : Mm} {b b' : Nat × Nat} (hb : b'.1 + 1 ≤ b.1 ∧ b'.2 + 400 ≤ b.2) {K : Mm → Prop} {v0 : Nat} (kv0 : v0 % 64 = 6) 
    (h : X mTa_init 13 [] [] (sr (nw M 17) v0 0 (some (64 * M.1.1.length + 17))) b' (QV K)) : X mTa_init 4 [(0, .ref v0)] [] M b (QV K) := by
  refine x_wf (fun hw => ?_)
  refine x_aload_n (pc := 4) dTa_init_4 rfl (q := 0) rfl ?_
  refine x_sipush (pc := 5) dTa_init_5 (v := 400) rfl ?_
  refine x_newaB (pc := 8) dTa_init_8 ak_17 (Or.inr (Or.inr (Or.inl ⟨rfl, rfl⟩))) (by decide) (by decide) (by decide) ac_byte (b' := b') (by have := hb; (try dsimp only); omega) ?_
  refine x_putR (pc := 10) dTa_init_10 kv0 flTa_9 (Or.inr ⟨rfl, rfl, rfl⟩) (Or.inr ⟨_, rfl⟩) (by first | exact (nwk M.1.1.length 17 (by decide)) | (rw [(nwk M.1.1.length 17 (by decide))]; rfl)) (by decide) ?_
  exact x_loc [] rfl h

theorem vTa_init_13 {M : Mm} {b : Nat × Nat} {K : Mm → Prop}   
    (h : K M) : X mTa_init 13 [] [] M b (QV K) := by
  refine x_wf (fun hw => ?_)
  exact x_retQV (pc := 13) dTa_init_13 rfl h

theorem dTo_init_0 : decode (mB mTo_init) 0 = .ok (.aload_n 0, 1) := op42 (by decide +kernel)
theorem dTo_init_1 : decode (mB mTo_init) 1 = .ok (.invokespecial 3, 3) := op183 0 3 (by decide +kernel)
theorem dTo_init_4 : decode (mB mTo_init) 4 = .ok (.aload_n 0, 1) := op42 (by decide +kernel)
theorem dTo_init_5 : decode (mB mTo_init) 5 = .ok (.aload_n 1, 1) := op43 (by decide +kernel)
theorem dTo_init_6 : decode (mB mTo_init) 6 = .ok (.putfield 9, 3) := op181 0 9 (by decide +kernel)
theorem dTo_init_9 : decode (mB mTo_init) 9 = .ok (.return_, 1) := op177 (by decide +kernel)

theorem vTo_init_0 {M : Mm} {b : Nat × Nat} {K : Mm → Prop} {v0 : Nat} {v1 : Nat}  
    (h : X mTo_init 4 [(0, .ref v0), (1, .ref v1)] [] M b (QV K)) : X mTo_init 0 [(0, .ref v0), (1, .ref v1)] [] M b (QV K) := by
  refine x_wf (fun hw => ?_)
  refine x_aload_n (pc := 0) dTo_init_0 rfl (q := 0) rfl ?_
  refine x_obj (pc := 1) dTo_init_1 mlTo_3 h_obj.1 h_obj.2 (by decide) (Nat.le_of_ble_eq_true rfl) ?_
  exact h

theorem vTo_init_4 {M : Mm} {b : Nat × Nat} {K : Mm → Prop} {v0 : Nat} {v1 : Nat} (kv0 : v0 % 64 = 7) (kv1 : v1 % 64 = 6) 
    (h : X mTo_init 9 [] [] (sr M v0 0 (some v1)) b (QV K)) : X mTo_init 4 [(0, .ref v0), (1, .ref v1)] [] M b (QV K) := by
  refine x_wf (fun hw => ?_)
  refine x_aload_n (pc := 4) dTo_init_4 rfl (q := 0) rfl ?_
  refine x_aload_n (pc := 5) dTo_init_5 rfl (q := 1) rfl ?_
  refine x_putR (pc := 6) dTo_init_6 kv0 flTo_9 (Or.inr ⟨rfl, rfl, rfl⟩) (Or.inl ⟨_, rfl⟩) (by first | exact kv1 | (rw [kv1]; rfl)) (by decide) ?_
  exact x_loc [] rfl h

theorem vTo_init_9 {M : Mm} {b : Nat × Nat} {K : Mm → Prop}   
    (h : K M) : X mTo_init 9 [] [] M b (QV K) := by
  refine x_wf (fun hw => ?_)
  exact x_retQV (pc := 9) dTo_init_9 rfl h

theorem dWo_init_0 : decode (mB mWo_init) 0 = .ok (.aload_n 0, 1) := op42 (by decide +kernel)
theorem dWo_init_1 : decode (mB mWo_init) 1 = .ok (.invokespecial 3, 3) := op183 0 3 (by decide +kernel)
theorem dWo_init_4 : decode (mB mWo_init) 4 = .ok (.return_, 1) := op177 (by decide +kernel)

theorem vWo_init_0 {M : Mm} {b : Nat × Nat} {K : Mm → Prop} {v0 : Nat}  
    (h : X mWo_init 4 [] [] M b (QV K)) : X mWo_init 0 [(0, .ref v0)] [] M b (QV K) := by
  refine x_wf (fun hw => ?_)
  refine x_aload_n (pc := 0) dWo_init_0 rfl (q := 0) rfl ?_
  refine x_obj (pc := 1) dWo_init_1 mlWo_3 h_obj.1 h_obj.2 (by decide) (Nat.le_of_ble_eq_true rfl) ?_
  exact x_loc [] rfl h

theorem vWo_init_4 {M : Mm} {b : Nat × Nat} {K : Mm → Prop}   
    (h : K M) : X mWo_init 4 [] [] M b (QV K) := by
  refine x_wf (fun hw => ?_)
  exact x_retQV (pc := 4) dWo_init_4 rfl h

theorem dRu_init_0 : decode (mB mRu_init) 0 = .ok (.aload_n 0, 1) := op42 (by decide +kernel)
theorem dRu_init_1 : decode (mB mRu_init) 1 = .ok (.invokespecial 3, 3) := op183 0 3 (by decide +kernel)
theorem dRu_init_4 : decode (mB mRu_init) 4 = .ok (.aload_n 0, 1) := op42 (by decide +kernel)
theorem dRu_init_5 : decode (mB mRu_init) 5 = .ok (.invokevirtual 9, 3) := op182 0 9 (by decide +kernel)
theorem dRu_init_8 : decode (mB mRu_init) 8 = .ok (.return_, 1) := op177 (by decide +kernel)

theorem vRu_init_0 {M : Mm} {b : Nat × Nat} {K : Mm → Prop} {v0 : Nat}  
    (h : X mRu_init 4 [(0, .ref v0)] [] M b (QV K)) : X mRu_init 0 [(0, .ref v0)] [] M b (QV K) := by
  refine x_wf (fun hw => ?_)
  refine x_aload_n (pc := 0) dRu_init_0 rfl (q := 0) rfl ?_
  refine x_obj (pc := 1) dRu_init_1 mlRu_3 h_obj.1 h_obj.2 (by decide) (Nat.le_of_ble_eq_true rfl) ?_
  exact h

theorem vRu_init_4 {M : Mm} {b : Nat × Nat} {K : Mm → Prop} {v0 : Nat} (kv0 : v0 % 64 = 3) 
    (h : CV mRu_clear [.ref v0] M (fun N => X mRu_init 8 [] [] N b (QV K))) : X mRu_init 4 [(0, .ref v0)] [] M b (QV K) := by
  refine x_wf (fun hw => ?_)
  refine x_aload_n (pc := 4) dRu_init_4 rfl (q := 0) rfl ?_
  exact x_invV (pc := 5) dRu_init_5 (c := 3) (S := []) (As := []) mlRu_9 hRu_clear rfl (by decide) rfl kv0 ⟨by decide, by decide⟩ ⟨Nat.zero_le _, Nat.zero_le _⟩ rfl (Nat.le_of_ble_eq_true rfl) (aftV (b' := b) ⟨Nat.le_refl _, Nat.le_refl _⟩ (fun N h => x_loc [] rfl h) h)

theorem vRu_init_8 {M : Mm} {b : Nat × Nat} {K : Mm → Prop}   
    (h : K M) : X mRu_init 8 [] [] M b (QV K) := by
  refine x_wf (fun hw => ?_)
  exact x_retQV (pc := 8) dRu_init_8 rfl h

theorem dRu_clear_0 : decode (mB mRu_clear) 0 = .ok (.aload_n 0, 1) := op42 (by decide +kernel)
theorem dRu_clear_1 : decode (mB mRu_clear) 1 = .ok (.bipush 31, 2) := op16 31 (by decide +kernel)
theorem dRu_clear_3 : decode (mB mRu_clear) 3 = .ok (.putfield 14, 3) := op181 0 14 (by decide +kernel)
theorem dRu_clear_6 : decode (mB mRu_clear) 6 = .ok (.aload_n 0, 1) := op42 (by decide +kernel)
theorem dRu_clear_7 : decode (mB mRu_clear) 7 = .ok (.iconst 2, 1) := op5 (by decide +kernel)
theorem dRu_clear_8 : decode (mB mRu_clear) 8 = .ok (.putfield 18, 3) := op181 0 18 (by decide +kernel)
theorem dRu_clear_11 : decode (mB mRu_clear) 11 = .ok (.aload_n 0, 1) := op42 (by decide +kernel)
theorem dRu_clear_12 : decode (mB mRu_clear) 12 = .ok (.iconst 0, 1) := op3 (by decide +kernel)
theorem dRu_clear_13 : decode (mB mRu_clear) 13 = .ok (.putfield 21, 3) := op181 0 21 (by decide +kernel)
theorem dRu_clear_16 : decode (mB mRu_clear) 16 = .ok (.aload_n 0, 1) := op42 (by decide +kernel)
theorem dRu_clear_17 : decode (mB mRu_clear) 17 = .ok (.iconst 0, 1) := op3 (by decide +kernel)
theorem dRu_clear_18 : decode (mB mRu_clear) 18 = .ok (.putfield 25, 3) := op181 0 25 (by decide +kernel)
theorem dRu_clear_21 : decode (mB mRu_clear) 21 = .ok (.aload_n 0, 1) := op42 (by decide +kernel)
theorem dRu_clear_22 : decode (mB mRu_clear) 22 = .ok (.bipush (-4), 2) := op16 252 (by decide +kernel)
theorem dRu_clear_24 : decode (mB mRu_clear) 24 = .ok (.putfield 28, 3) := op181 0 28 (by decide +kernel)
theorem dRu_clear_27 : decode (mB mRu_clear) 27 = .ok (.aload_n 0, 1) := op42 (by decide +kernel)
theorem dRu_clear_28 : decode (mB mRu_clear) 28 = .ok (.bipush (-4), 2) := op16 252 (by decide +kernel)
theorem dRu_clear_30 : decode (mB mRu_clear) 30 = .ok (.putfield 31, 3) := op181 0 31 (by decide +kernel)
theorem dRu_clear_33 : decode (mB mRu_clear) 33 = .ok (.aload_n 0, 1) := op42 (by decide +kernel)
theorem dRu_clear_34 : decode (mB mRu_clear) 34 = .ok (.iconst 1, 1) := op4 (by decide +kernel)
theorem dRu_clear_35 : decode (mB mRu_clear) 35 = .ok (.putfield 34, 3) := op181 0 34 (by decide +kernel)
theorem dRu_clear_38 : decode (mB mRu_clear) 38 = .ok (.return_, 1) := op177 (by decide +kernel)

theorem vRu_clear_0 {M : Mm} {b : Nat × Nat} {K : Mm → Prop} {v0 : Nat} (kv0 : v0 % 64 = 3) 
    (h : K (si (si (si (si (si (si (si M v0 0 31) v0 1 2) v0 2 0) v0 3 0) v0 4 (-4)) v0 5 (-4)) v0 6 1)) : X mRu_clear 0 [(0, .ref v0)] [] M b (QV K) := by
  refine x_wf (fun hw => ?_)
  refine x_aload_n (pc := 0) dRu_clear_0 rfl (q := 0) rfl ?_
  refine x_bipush (pc := 1) dRu_clear_1 (v := 31) rfl ?_
  refine x_putI (pc := 3) dRu_clear_3 kv0 flRu_14 rfl rfl ?_
  refine x_aload_n (pc := 6) dRu_clear_6 rfl (q := 0) rfl ?_
  refine x_iconst (pc := 7) dRu_clear_7 (v := 2) rfl ?_
  refine x_putI (pc := 8) dRu_clear_8 kv0 flRu_18 rfl rfl ?_
  refine x_aload_n (pc := 11) dRu_clear_11 rfl (q := 0) rfl ?_
  refine x_iconst (pc := 12) dRu_clear_12 (v := 0) rfl ?_
  refine x_putZ (pc := 13) dRu_clear_13 kv0 flRu_21 rfl rfl (Or.inl rfl) ?_
  refine x_aload_n (pc := 16) dRu_clear_16 rfl (q := 0) rfl ?_
  refine x_iconst (pc := 17) dRu_clear_17 (v := 0) rfl ?_
  refine x_putI (pc := 18) dRu_clear_18 kv0 flRu_25 rfl rfl ?_
  refine x_aload_n (pc := 21) dRu_clear_21 rfl (q := 0) rfl ?_
  refine x_bipush (pc := 22) dRu_clear_22 (v := (-4)) rfl ?_
  refine x_putI (pc := 24) dRu_clear_24 kv0 flRu_28 rfl rfl ?_
  refine x_aload_n (pc := 27) dRu_clear_27 rfl (q := 0) rfl ?_
  refine x_bipush (pc := 28) dRu_clear_28 (v := (-4)) rfl ?_
  refine x_putI (pc := 30) dRu_clear_30 kv0 flRu_31 rfl rfl ?_
  refine x_aload_n (pc := 33) dRu_clear_33 rfl (q := 0) rfl ?_
  refine x_iconst (pc := 34) dRu_clear_34 (v := 1) rfl ?_
  refine x_putI (pc := 35) dRu_clear_35 kv0 flRu_34 rfl rfl ?_
  exact x_retQV (pc := 38) dRu_clear_38 rfl h

theorem dSh_init_0 : decode (mB mSh_init) 0 = .ok (.aload_n 0, 1) := op42 (by decide +kernel)
theorem dSh_init_1 : decode (mB mSh_init) 1 = .ok (.invokespecial 3, 3) := op183 0 3 (by decide +kernel)
theorem dSh_init_4 : decode (mB mSh_init) 4 = .ok (.aload_n 0, 1) := op42 (by decide +kernel)
theorem dSh_init_5 : decode (mB mSh_init) 5 = .ok (.bipush 40, 2) := op16 40 (by decide +kernel)
theorem dSh_init_7 : decode (mB mSh_init) 7 = .ok (.newarray .int, 2) := by decide +kernel
theorem dSh_init_9 : decode (mB mSh_init) 9 = .ok (.putfield 9, 3) := op181 0 9 (by decide +kernel)
theorem dSh_init_12 : decode (mB mSh_init) 12 = .ok (.aload_n 0, 1) := op42 (by decide +kernel)
theorem dSh_init_13 : decode (mB mSh_init) 13 = .ok (.bipush (-4), 2) := op16 252 (by decide +kernel)
theorem dSh_init_15 : decode (mB mSh_init) 15 = .ok (.putfield 15, 3) := op181 0 15 (by decide +kernel)
theorem dSh_init_18 : decode (mB mSh_init) 18 = .ok (.return_, 1) := op177 (by decide +kernel)

theorem vSh_init_0 {M : Mm} {b : Nat × Nat} {K : Mm → Prop} {v0 : Nat}  
    (h : X mSh_init 4 [(0, .ref v0)] [] M b (QV K)) : X mSh_init 0 [(0, .ref v0)] [] M b (QV K) := by
  refine x_wf (fun hw => ?_)
  refine x_aload_n (pc := 0) dSh_init_0 rfl (q := 0) rfl ?_
  refine x_obj (pc := 1) dSh_init_1 mlSh_3 h_obj.1 h_obj.2 (by decide) (Nat.le_of_ble_eq_true rfl) ?_
  exact h

theorem vSh_init_4 {M : Mm} {b b' : Nat × Nat} (hb : b'.1 + 1 ≤ b.1 ∧ b'.2 + 40 ≤ b.2) {K : Mm → Prop} {v0 : Nat} (kv0 : v0 % 64 = 5) 
    (h : X mSh_init 12 [(0, .ref v0)] [] (sr (nw M 20) v0 0 (some (64 * M.1.1.length + 20))) b' (QV K)) : X mSh_init 4 [(0, .ref v0)] [] M b (QV K) := by
  refine x_wf (fun hw => ?_)
  refine x_aload_n (pc := 4) dSh_init_4 rfl (q := 0) rfl ?_
  refine x_bipush (pc := 5) dSh_init_5 (v := 40) rfl ?_
  refine x_newaB (pc := 7) dSh_init_7 ak_20 (Or.inl ⟨rfl, rfl⟩) (by decide) (by decide) (by decide) ac_int (b' := b') (by have := hb; (try dsimp only); omega) ?_
  refine x_putR (pc := 9) dSh_init_9 kv0 flSh_9 (Or.inr ⟨rfl, rfl, rfl⟩) (Or.inr ⟨_, rfl⟩) (by first | exact (nwk M.1.1.length 20 (by decide)) | (rw [(nwk M.1.1.length 20 (by decide))]; rfl)) (by decide) ?_
  exact h

theorem vSh_init_12 {M : Mm} {b : Nat × Nat} {K : Mm → Prop} {v0 : Nat} (kv0 : v0 % 64 = 5) 
    (h : K (si M v0 1 (-4))) : X mSh_init 12 [(0, .ref v0)] [] M b (QV K) := by
  refine x_wf (fun hw => ?_)
  refine x_aload_n (pc := 12) dSh_init_12 rfl (q := 0) rfl ?_
  refine x_bipush (pc := 13) dSh_init_13 (v := (-4)) rfl ?_
  refine x_putI (pc := 15) dSh_init_15 kv0 flSh_15 rfl rfl ?_
  exact x_retQV (pc := 18) dSh_init_18 rfl h

theorem dTa_append_0 : decode (mB mTa_append) 0 = .ok (.aload_n 0, 1) := op42 (by decide +kernel)
theorem dTa_append_1 : decode (mB mTa_append) 1 = .ok (.getfield 15, 3) := op180 0 15 (by decide +kernel)
theorem dTa_append_4 : decode (mB mTa_append) 4 = .ok (.sipush 392, 3) := op17 1 136 (by decide +kernel)
theorem dTa_append_7 : decode (mB mTa_append) 7 = .ok (.if_icmp .le 5, 3) := op164 0 5 (by decide +kernel)
theorem dTa_append_10 : decode (mB mTa_append) 10 = .ok (.iconst 0, 1) := op3 (by decide +kernel)
theorem dTa_append_11 : decode (mB mTa_append) 11 = .ok (.ireturn, 1) := op172 (by decide +kernel)
theorem dTa_append_12 : decode (mB mTa_append) 12 = .ok (.iconst 0, 1) := op3 (by decide +kernel)
theorem dTa_append_13 : decode (mB mTa_append) 13 = .ok (.istore_n 3, 1) := op62 (by decide +kernel)
theorem dTa_append_14 : decode (mB mTa_append) 14 = .ok (.iload_n 3, 1) := op29 (by decide +kernel)
theorem dTa_append_15 : decode (mB mTa_append) 15 = .ok (.bipush 8, 2) := op16 8 (by decide +kernel)
theorem dTa_append_17 : decode (mB mTa_append) 17 = .ok (.if_icmp .ge 31, 3) := op162 0 31 (by decide +kernel)
theorem dTa_append_20 : decode (mB mTa_append) 20 = .ok (.aload_n 0, 1) := op42 (by decide +kernel)
theorem dTa_append_21 : decode (mB mTa_append) 21 = .ok (.getfield 9, 3) := op180 0 9 (by decide +kernel)
theorem dTa_append_24 : decode (mB mTa_append) 24 = .ok (.aload_n 0, 1) := op42 (by decide +kernel)
theorem dTa_append_25 : decode (mB mTa_append) 25 = .ok (.getfield 15, 3) := op180 0 15 (by decide +kernel)
theorem dTa_append_28 : decode (mB mTa_append) 28 = .ok (.iload_n 3, 1) := op29 (by decide +kernel)
theorem dTa_append_29 : decode (mB mTa_append) 29 = .ok (.iadd, 1) := op96 (by decide +kernel)
theorem dTa_append_30 : decode (mB mTa_append) 30 = .ok (.lload_n 1, 1) := op31 (by decide +kernel)
theorem dTa_append_31 : decode (mB mTa_append) 31 = .ok (.bipush 56, 2) := op16 56 (by decide +kernel)
theorem dTa_append_33 : decode (mB mTa_append) 33 = .ok (.bipush 8, 2) := op16 8 (by decide +kernel)
theorem dTa_append_35 : decode (mB mTa_append) 35 = .ok (.iload_n 3, 1) := op29 (by decide +kernel)
theorem dTa_append_36 : decode (mB mTa_append) 36 = .ok (.imul, 1) := op104 (by decide +kernel)
theorem dTa_append_37 : decode (mB mTa_append) 37 = .ok (.isub, 1) := op100 (by decide +kernel)
theorem dTa_append_38 : decode (mB mTa_append) 38 = .ok (.lushr, 1) := op125 (by decide +kernel)
theorem dTa_append_39 : decode (mB mTa_append) 39 = .ok (.l2i, 1) := op136 (by decide +kernel)
theorem dTa_append_40 : decode (mB mTa_append) 40 = .ok (.i2b, 1) := op145 (by decide +kernel)
theorem dTa_append_41 : decode (mB mTa_append) 41 = .ok (.bastore, 1) := op84 (by decide +kernel)
theorem dTa_append_42 : decode (mB mTa_append) 42 = .ok (.iinc 3 1, 3) := op132 3 1 (by decide +kernel)
theorem dTa_append_45 : decode (mB mTa_append) 45 = .ok (.goto (-31), 3) := op167 255 225 (by decide +kernel)
theorem dTa_append_48 : decode (mB mTa_append) 48 = .ok (.aload_n 0, 1) := op42 (by decide +kernel)
theorem dTa_append_49 : decode (mB mTa_append) 49 = .ok (.dup, 1) := op89 (by decide +kernel)
theorem dTa_append_50 : decode (mB mTa_append) 50 = .ok (.getfield 15, 3) := op180 0 15 (by decide +kernel)
theorem dTa_append_53 : decode (mB mTa_append) 53 = .ok (.bipush 8, 2) := op16 8 (by decide +kernel)
theorem dTa_append_55 : decode (mB mTa_append) 55 = .ok (.iadd, 1) := op96 (by decide +kernel)
theorem dTa_append_56 : decode (mB mTa_append) 56 = .ok (.putfield 15, 3) := op181 0 15 (by decide +kernel)
theorem dTa_append_59 : decode (mB mTa_append) 59 = .ok (.iconst 1, 1) := op4 (by decide +kernel)
theorem dTa_append_60 : decode (mB mTa_append) 60 = .ok (.ireturn, 1) := op172 (by decide +kernel)

theorem vTa_append_0 {M : Mm} {b : Nat × Nat} {K : Int32 → Mm → Prop} {v0 : Nat} {v1 : Int64} (kv0 : v0 % 64 = 6) 
    (h : ((gi M v0 1) ≤ 392 → (X mTa_append 14 [(0, .ref v0), (1, .long v1), (3, .int 0)] [] M b (QI K))) ∧ (¬ (gi M v0 1) ≤ 392 → (K 0 M))) : X mTa_append 0 [(0, .ref v0), (1, .long v1)] [] M b (QI K) := by
  refine x_wf (fun hw => ?_)
  refine x_aload_n (pc := 0) dTa_append_0 rfl (q := 0) rfl ?_
  refine x_getI (pc := 1) dTa_append_1 kv0 flTa_15 rfl ?_
  refine x_sipush (pc := 4) dTa_append_4 (v := 392) rfl ?_
  obtain ⟨g1_0, g1_1⟩ := h
  refine x_icmp_le (pc := 7) dTa_append_7 (t := 12) rfl (fun q1 => ?_) (fun q1 => ?_)
  · refine x_iconst (pc := 12) dTa_append_12 (v := 0) rfl ?_
    have h := g1_0 q1
    refine x_istore_n (pc := 13) dTa_append_13 rfl (by decide) (L' := [(3, .int 0), (0, .ref v0), (1, .long v1)]) rfl ?_
    exact x_loc [1, 2, 0] rfl h
  · refine x_iconst (pc := 10) dTa_append_10 (v := 0) rfl ?_
    have h := g1_1 q1
    exact x_retQI (pc := 11) dTa_append_11 rfl (by (repeat' split) <;> rfl) h

theorem vTa_append_14 {M : Mm} {b : Nat × Nat} {K : Int32 → Mm → Prop} {v0 : Nat} {v1 : Int64} {v3 : Int32} {r1 : Nat} (kv0 : v0 % 64 = 6) (e1 : gr M v0 0 = some r1)
    (h : (8 ≤ v3 → (K 1 (si M v0 1 ((gi M v0 1) + 8)))) ∧ (¬ 8 ≤ v3 → (vp_in ((gi M v0 1) + v3) 400 ∧ (X mTa_append 14 [(0, .ref v0), (1, .long v1), (3, .int (v3 + 1))] [] (si M r1 ((gi M v0 1) + v3).toNatClampNeg (vp_nar .byte (((lushr v1 (56 - (8 * v3))).toInt32).toInt8.toInt32))) b (QI K))))) : X mTa_append 14 [(0, .ref v0), (1, .long v1), (3, .int v3)] [] M b (QI K) := by
  refine x_wf (fun hw => ?_)
  refine x_iload_n (pc := 14) dTa_append_14 rfl (q := 2) rfl ?_
  refine x_bipush (pc := 15) dTa_append_15 (v := 8) rfl ?_
  obtain ⟨g1_0, g1_1⟩ := h
  refine x_icmp_ge (pc := 17) dTa_append_17 (t := 48) rfl (fun q1 => ?_) (fun q1 => ?_)
  · refine x_aload_n (pc := 48) dTa_append_48 rfl (q := 0) rfl ?_
    refine x_dup (pc := 49) dTa_append_49 rfl ?_
    refine x_getI (pc := 50) dTa_append_50 kv0 flTa_15 rfl ?_
    refine x_bipush (pc := 53) dTa_append_53 (v := 8) rfl ?_
    refine x_iadd (pc := 55) dTa_append_55 ?_
    have h := g1_0 q1
    refine x_putI (pc := 56) dTa_append_56 kv0 flTa_15 rfl rfl ?_
    refine x_iconst (pc := 59) dTa_append_59 (v := 1) rfl ?_
    exact x_retQI (pc := 60) dTa_append_60 rfl (by (repeat' split) <;> rfl) h
  · refine x_aload_n (pc := 20) dTa_append_20 rfl (q := 0) rfl ?_
    refine x_getR (pc := 21) dTa_append_21 kv0 flTa_9 rfl e1 ?_
    refine x_aload_n (pc := 24) dTa_append_24 rfl (q := 0) rfl ?_
    refine x_getI (pc := 25) dTa_append_25 kv0 flTa_15 rfl ?_
    refine x_iload_n (pc := 28) dTa_append_28 rfl (q := 2) rfl ?_
    refine x_iadd (pc := 29) dTa_append_29 ?_
    refine x_lload_n (pc := 30) dTa_append_30 rfl (q := 1) rfl ?_
    refine x_bipush (pc := 31) dTa_append_31 (v := 56) rfl ?_
    refine x_bipush (pc := 33) dTa_append_33 (v := 8) rfl ?_
    refine x_iload_n (pc := 35) dTa_append_35 rfl (q := 2) rfl ?_
    refine x_imul (pc := 36) dTa_append_36 ?_
    refine x_isub (pc := 37) dTa_append_37 ?_
    refine x_lushr (pc := 38) dTa_append_38 ?_
    refine x_l2i (pc := 39) dTa_append_39 ?_
    refine x_i2b (pc := 40) dTa_append_40 ?_
    have h := g1_1 q1
    obtain ⟨s501, h⟩ := h
    refine x_astIj (pc := 41) (j := ((gi M v0 1) + v3).toNatClampNeg) (v := vp_nar .byte (((lushr v1 (56 - (8 * v3))).toInt32).toInt8.toInt32)) (Or.inr (Or.inl ⟨rfl, rfl, rfl⟩)) dTa_append_41 (wfk hw e1 kv0) ak_17 rfl s501 ?_
    refine x_iinc (pc := 42) dTa_append_42 (q := 2) rfl (v := v3 + 1) rfl (by decide) (L' := [(3, .int (v3 + 1)), (0, .ref v0), (1, .long v1)]) rfl ?_
    refine x_goto (pc := 45) dTa_append_45 (t := 14) rfl ?_
    exact x_loc [1, 2, 0] rfl h

theorem dTo_begin_0 : decode (mB mTo_begin) 0 = .ok (.aload_n 0, 1) := op42 (by decide +kernel)
theorem dTo_begin_1 : decode (mB mTo_begin) 1 = .ok (.iconst 0, 1) := op3 (by decide +kernel)
theorem dTo_begin_2 : decode (mB mTo_begin) 2 = .ok (.putfield 15, 3) := op181 0 15 (by decide +kernel)
theorem dTo_begin_5 : decode (mB mTo_begin) 5 = .ok (.aload_n 0, 1) := op42 (by decide +kernel)
theorem dTo_begin_6 : decode (mB mTo_begin) 6 = .ok (.iconst 0, 1) := op3 (by decide +kernel)
theorem dTo_begin_7 : decode (mB mTo_begin) 7 = .ok (.putfield 19, 3) := op181 0 19 (by decide +kernel)
theorem dTo_begin_10 : decode (mB mTo_begin) 10 = .ok (.aload_n 0, 1) := op42 (by decide +kernel)
theorem dTo_begin_11 : decode (mB mTo_begin) 11 = .ok (.iconst 0, 1) := op3 (by decide +kernel)
theorem dTo_begin_12 : decode (mB mTo_begin) 12 = .ok (.putfield 22, 3) := op181 0 22 (by decide +kernel)
theorem dTo_begin_15 : decode (mB mTo_begin) 15 = .ok (.aload_n 0, 1) := op42 (by decide +kernel)
theorem dTo_begin_16 : decode (mB mTo_begin) 16 = .ok (.iconst 0, 1) := op3 (by decide +kernel)
theorem dTo_begin_17 : decode (mB mTo_begin) 17 = .ok (.putfield 25, 3) := op181 0 25 (by decide +kernel)
theorem dTo_begin_20 : decode (mB mTo_begin) 20 = .ok (.aload_n 0, 1) := op42 (by decide +kernel)
theorem dTo_begin_21 : decode (mB mTo_begin) 21 = .ok (.iconst 0, 1) := op3 (by decide +kernel)
theorem dTo_begin_22 : decode (mB mTo_begin) 22 = .ok (.putfield 28, 3) := op181 0 28 (by decide +kernel)
theorem dTo_begin_25 : decode (mB mTo_begin) 25 = .ok (.return_, 1) := op177 (by decide +kernel)

theorem vTo_begin_0 {M : Mm} {b : Nat × Nat} {K : Mm → Prop} {v0 : Nat} (kv0 : v0 % 64 = 7) 
    (h : K (si (si (si (si (si M v0 1 0) v0 2 0) v0 3 0) v0 5 0) v0 6 0)) : X mTo_begin 0 [(0, .ref v0)] [] M b (QV K) := by
  refine x_wf (fun hw => ?_)
  refine x_aload_n (pc := 0) dTo_begin_0 rfl (q := 0) rfl ?_
  refine x_iconst (pc := 1) dTo_begin_1 (v := 0) rfl ?_
  refine x_putI (pc := 2) dTo_begin_2 kv0 flTo_15 rfl rfl ?_
  refine x_aload_n (pc := 5) dTo_begin_5 rfl (q := 0) rfl ?_
  refine x_iconst (pc := 6) dTo_begin_6 (v := 0) rfl ?_
  refine x_putI (pc := 7) dTo_begin_7 kv0 flTo_19 rfl rfl ?_
  refine x_aload_n (pc := 10) dTo_begin_10 rfl (q := 0) rfl ?_
  refine x_iconst (pc := 11) dTo_begin_11 (v := 0) rfl ?_
  refine x_putI (pc := 12) dTo_begin_12 kv0 flTo_22 rfl rfl ?_
  refine x_aload_n (pc := 15) dTo_begin_15 rfl (q := 0) rfl ?_
  refine x_iconst (pc := 16) dTo_begin_16 (v := 0) rfl ?_
  refine x_putI (pc := 17) dTo_begin_17 kv0 flTo_25 rfl rfl ?_
  refine x_aload_n (pc := 20) dTo_begin_20 rfl (q := 0) rfl ?_
  refine x_iconst (pc := 21) dTo_begin_21 (v := 0) rfl ?_
  refine x_putI (pc := 22) dTo_begin_22 kv0 flTo_28 rfl rfl ?_
  exact x_retQV (pc := 25) dTo_begin_25 rfl h

theorem dTo_advance_0 : decode (mB mTo_advance) 0 = .ok (.aload_n 0, 1) := op42 (by decide +kernel)
theorem dTo_advance_1 : decode (mB mTo_advance) 1 = .ok (.aload_n 0, 1) := op42 (by decide +kernel)
theorem dTo_advance_2 : decode (mB mTo_advance) 2 = .ok (.getfield 9, 3) := op180 0 9 (by decide +kernel)
theorem dTo_advance_5 : decode (mB mTo_advance) 5 = .ok (.bipush 32, 2) := op16 32 (by decide +kernel)
theorem dTo_advance_7 : decode (mB mTo_advance) 7 = .ok (.bipush 32, 2) := op16 32 (by decide +kernel)
theorem dTo_advance_9 : decode (mB mTo_advance) 9 = .ok (.aload_n 0, 1) := op42 (by decide +kernel)
theorem dTo_advance_10 : decode (mB mTo_advance) 10 = .ok (.getfield 22, 3) := op180 0 22 (by decide +kernel)
theorem dTo_advance_13 : decode (mB mTo_advance) 13 = .ok (.invokevirtual 35, 3) := op182 0 35 (by decide +kernel)
theorem dTo_advance_16 : decode (mB mTo_advance) 16 = .ok (.putfield 19, 3) := op181 0 19 (by decide +kernel)
theorem dTo_advance_19 : decode (mB mTo_advance) 19 = .ok (.aload_n 0, 1) := op42 (by decide +kernel)
theorem dTo_advance_20 : decode (mB mTo_advance) 20 = .ok (.aload_n 0, 1) := op42 (by decide +kernel)
theorem dTo_advance_21 : decode (mB mTo_advance) 21 = .ok (.getfield 19, 3) := op180 0 19 (by decide +kernel)
theorem dTo_advance_24 : decode (mB mTo_advance) 24 = .ok (.iconst 1, 1) := op4 (by decide +kernel)
theorem dTo_advance_25 : decode (mB mTo_advance) 25 = .ok (.iadd, 1) := op96 (by decide +kernel)
theorem dTo_advance_26 : decode (mB mTo_advance) 26 = .ok (.putfield 22, 3) := op181 0 22 (by decide +kernel)
theorem dTo_advance_29 : decode (mB mTo_advance) 29 = .ok (.aload_n 0, 1) := op42 (by decide +kernel)
theorem dTo_advance_30 : decode (mB mTo_advance) 30 = .ok (.getfield 9, 3) := op180 0 9 (by decide +kernel)
theorem dTo_advance_33 : decode (mB mTo_advance) 33 = .ok (.aload_n 0, 1) := op42 (by decide +kernel)
theorem dTo_advance_34 : decode (mB mTo_advance) 34 = .ok (.getfield 19, 3) := op180 0 19 (by decide +kernel)
theorem dTo_advance_37 : decode (mB mTo_advance) 37 = .ok (.invokevirtual 41, 3) := op182 0 41 (by decide +kernel)
theorem dTo_advance_40 : decode (mB mTo_advance) 40 = .ok (.istore_n 1, 1) := op60 (by decide +kernel)
theorem dTo_advance_41 : decode (mB mTo_advance) 41 = .ok (.iload_n 1, 1) := op27 (by decide +kernel)
theorem dTo_advance_42 : decode (mB mTo_advance) 42 = .ok (.ifCond .ge 19, 3) := op156 0 19 (by decide +kernel)
theorem dTo_advance_45 : decode (mB mTo_advance) 45 = .ok (.aload_n 0, 1) := op42 (by decide +kernel)
theorem dTo_advance_46 : decode (mB mTo_advance) 46 = .ok (.iconst 1, 1) := op4 (by decide +kernel)
theorem dTo_advance_47 : decode (mB mTo_advance) 47 = .ok (.putfield 15, 3) := op181 0 15 (by decide +kernel)
theorem dTo_advance_50 : decode (mB mTo_advance) 50 = .ok (.aload_n 0, 1) := op42 (by decide +kernel)
theorem dTo_advance_51 : decode (mB mTo_advance) 51 = .ok (.aload_n 0, 1) := op42 (by decide +kernel)
theorem dTo_advance_52 : decode (mB mTo_advance) 52 = .ok (.getfield 19, 3) := op180 0 19 (by decide +kernel)
theorem dTo_advance_55 : decode (mB mTo_advance) 55 = .ok (.putfield 22, 3) := op181 0 22 (by decide +kernel)
theorem dTo_advance_58 : decode (mB mTo_advance) 58 = .ok (.goto 155, 3) := op167 0 155 (by decide +kernel)
theorem dTo_advance_61 : decode (mB mTo_advance) 61 = .ok (.iload_n 1, 1) := op27 (by decide +kernel)
theorem dTo_advance_62 : decode (mB mTo_advance) 62 = .ok (.bipush 97, 2) := op16 97 (by decide +kernel)
theorem dTo_advance_64 : decode (mB mTo_advance) 64 = .ok (.if_icmp .lt 36, 3) := op161 0 36 (by decide +kernel)
theorem dTo_advance_67 : decode (mB mTo_advance) 67 = .ok (.iload_n 1, 1) := op27 (by decide +kernel)
theorem dTo_advance_68 : decode (mB mTo_advance) 68 = .ok (.bipush 122, 2) := op16 122 (by decide +kernel)
theorem dTo_advance_70 : decode (mB mTo_advance) 70 = .ok (.if_icmp .gt 30, 3) := op163 0 30 (by decide +kernel)
theorem dTo_advance_73 : decode (mB mTo_advance) 73 = .ok (.aload_n 0, 1) := op42 (by decide +kernel)
theorem dTo_advance_74 : decode (mB mTo_advance) 74 = .ok (.iconst 2, 1) := op5 (by decide +kernel)
theorem dTo_advance_75 : decode (mB mTo_advance) 75 = .ok (.putfield 15, 3) := op181 0 15 (by decide +kernel)
theorem dTo_advance_78 : decode (mB mTo_advance) 78 = .ok (.aload_n 0, 1) := op42 (by decide +kernel)
theorem dTo_advance_79 : decode (mB mTo_advance) 79 = .ok (.aload_n 0, 1) := op42 (by decide +kernel)
theorem dTo_advance_80 : decode (mB mTo_advance) 80 = .ok (.getfield 9, 3) := op180 0 9 (by decide +kernel)
theorem dTo_advance_83 : decode (mB mTo_advance) 83 = .ok (.bipush 97, 2) := op16 97 (by decide +kernel)
theorem dTo_advance_85 : decode (mB mTo_advance) 85 = .ok (.bipush 122, 2) := op16 122 (by decide +kernel)
theorem dTo_advance_87 : decode (mB mTo_advance) 87 = .ok (.aload_n 0, 1) := op42 (by decide +kernel)
theorem dTo_advance_88 : decode (mB mTo_advance) 88 = .ok (.getfield 19, 3) := op180 0 19 (by decide +kernel)
theorem dTo_advance_91 : decode (mB mTo_advance) 91 = .ok (.invokevirtual 35, 3) := op182 0 35 (by decide +kernel)
theorem dTo_advance_94 : decode (mB mTo_advance) 94 = .ok (.putfield 22, 3) := op181 0 22 (by decide +kernel)
theorem dTo_advance_97 : decode (mB mTo_advance) 97 = .ok (.goto 116, 3) := op167 0 116 (by decide +kernel)
theorem dTo_advance_100 : decode (mB mTo_advance) 100 = .ok (.iload_n 1, 1) := op27 (by decide +kernel)
theorem dTo_advance_101 : decode (mB mTo_advance) 101 = .ok (.bipush 48, 2) := op16 48 (by decide +kernel)
theorem dTo_advance_103 : decode (mB mTo_advance) 103 = .ok (.if_icmp .lt 81, 3) := op161 0 81 (by decide +kernel)
theorem dTo_advance_106 : decode (mB mTo_advance) 106 = .ok (.iload_n 1, 1) := op27 (by decide +kernel)
theorem dTo_advance_107 : decode (mB mTo_advance) 107 = .ok (.bipush 57, 2) := op16 57 (by decide +kernel)
theorem dTo_advance_109 : decode (mB mTo_advance) 109 = .ok (.if_icmp .gt 75, 3) := op163 0 75 (by decide +kernel)
theorem dTo_advance_112 : decode (mB mTo_advance) 112 = .ok (.aload_n 0, 1) := op42 (by decide +kernel)
theorem dTo_advance_113 : decode (mB mTo_advance) 113 = .ok (.aload_n 0, 1) := op42 (by decide +kernel)
theorem dTo_advance_114 : decode (mB mTo_advance) 114 = .ok (.getfield 9, 3) := op180 0 9 (by decide +kernel)
theorem dTo_advance_117 : decode (mB mTo_advance) 117 = .ok (.bipush 48, 2) := op16 48 (by decide +kernel)
theorem dTo_advance_119 : decode (mB mTo_advance) 119 = .ok (.bipush 57, 2) := op16 57 (by decide +kernel)
theorem dTo_advance_121 : decode (mB mTo_advance) 121 = .ok (.aload_n 0, 1) := op42 (by decide +kernel)
theorem dTo_advance_122 : decode (mB mTo_advance) 122 = .ok (.getfield 19, 3) := op180 0 19 (by decide +kernel)
theorem dTo_advance_125 : decode (mB mTo_advance) 125 = .ok (.invokevirtual 35, 3) := op182 0 35 (by decide +kernel)
theorem dTo_advance_128 : decode (mB mTo_advance) 128 = .ok (.putfield 22, 3) := op181 0 22 (by decide +kernel)
theorem dTo_advance_131 : decode (mB mTo_advance) 131 = .ok (.aload_n 0, 1) := op42 (by decide +kernel)
theorem dTo_advance_132 : decode (mB mTo_advance) 132 = .ok (.aload_n 0, 1) := op42 (by decide +kernel)
theorem dTo_advance_133 : decode (mB mTo_advance) 133 = .ok (.getfield 9, 3) := op180 0 9 (by decide +kernel)
theorem dTo_advance_136 : decode (mB mTo_advance) 136 = .ok (.aload_n 0, 1) := op42 (by decide +kernel)
theorem dTo_advance_137 : decode (mB mTo_advance) 137 = .ok (.getfield 19, 3) := op180 0 19 (by decide +kernel)
theorem dTo_advance_140 : decode (mB mTo_advance) 140 = .ok (.aload_n 0, 1) := op42 (by decide +kernel)
theorem dTo_advance_141 : decode (mB mTo_advance) 141 = .ok (.getfield 22, 3) := op180 0 22 (by decide +kernel)
theorem dTo_advance_144 : decode (mB mTo_advance) 144 = .ok (.aload_n 0, 1) := op42 (by decide +kernel)
theorem dTo_advance_145 : decode (mB mTo_advance) 145 = .ok (.getfield 19, 3) := op180 0 19 (by decide +kernel)
theorem dTo_advance_148 : decode (mB mTo_advance) 148 = .ok (.iconst 3, 1) := op6 (by decide +kernel)
theorem dTo_advance_149 : decode (mB mTo_advance) 149 = .ok (.iadd, 1) := op96 (by decide +kernel)
theorem dTo_advance_150 : decode (mB mTo_advance) 150 = .ok (.invokestatic 44, 3) := op184 0 44 (by decide +kernel)
theorem dTo_advance_153 : decode (mB mTo_advance) 153 = .ok (.invokevirtual 50, 3) := op182 0 50 (by decide +kernel)
theorem dTo_advance_156 : decode (mB mTo_advance) 156 = .ok (.putfield 53, 3) := op181 0 53 (by decide +kernel)
theorem dTo_advance_159 : decode (mB mTo_advance) 159 = .ok (.aload_n 0, 1) := op42 (by decide +kernel)
theorem dTo_advance_160 : decode (mB mTo_advance) 160 = .ok (.aload_n 0, 1) := op42 (by decide +kernel)
theorem dTo_advance_161 : decode (mB mTo_advance) 161 = .ok (.getfield 22, 3) := op180 0 22 (by decide +kernel)
theorem dTo_advance_164 : decode (mB mTo_advance) 164 = .ok (.aload_n 0, 1) := op42 (by decide +kernel)
theorem dTo_advance_165 : decode (mB mTo_advance) 165 = .ok (.getfield 19, 3) := op180 0 19 (by decide +kernel)
theorem dTo_advance_168 : decode (mB mTo_advance) 168 = .ok (.isub, 1) := op100 (by decide +kernel)
theorem dTo_advance_169 : decode (mB mTo_advance) 169 = .ok (.iconst 3, 1) := op6 (by decide +kernel)
theorem dTo_advance_170 : decode (mB mTo_advance) 170 = .ok (.if_icmp .le 7, 3) := op164 0 7 (by decide +kernel)
theorem dTo_advance_173 : decode (mB mTo_advance) 173 = .ok (.iconst 0, 1) := op3 (by decide +kernel)
theorem dTo_advance_174 : decode (mB mTo_advance) 174 = .ok (.goto 4, 3) := op167 0 4 (by decide +kernel)
theorem dTo_advance_177 : decode (mB mTo_advance) 177 = .ok (.iconst 3, 1) := op6 (by decide +kernel)
theorem dTo_advance_178 : decode (mB mTo_advance) 178 = .ok (.putfield 15, 3) := op181 0 15 (by decide +kernel)
theorem dTo_advance_181 : decode (mB mTo_advance) 181 = .ok (.goto 32, 3) := op167 0 32 (by decide +kernel)
theorem dTo_advance_184 : decode (mB mTo_advance) 184 = .ok (.iload_n 1, 1) := op27 (by decide +kernel)
theorem dTo_advance_185 : decode (mB mTo_advance) 185 = .ok (.bipush 45, 2) := op16 45 (by decide +kernel)
theorem dTo_advance_187 : decode (mB mTo_advance) 187 = .ok (.if_icmp .ne 11, 3) := op160 0 11 (by decide +kernel)
theorem dTo_advance_190 : decode (mB mTo_advance) 190 = .ok (.aload_n 0, 1) := op42 (by decide +kernel)
theorem dTo_advance_191 : decode (mB mTo_advance) 191 = .ok (.iconst 4, 1) := op7 (by decide +kernel)
theorem dTo_advance_192 : decode (mB mTo_advance) 192 = .ok (.putfield 15, 3) := op181 0 15 (by decide +kernel)
theorem dTo_advance_195 : decode (mB mTo_advance) 195 = .ok (.goto 18, 3) := op167 0 18 (by decide +kernel)
theorem dTo_advance_198 : decode (mB mTo_advance) 198 = .ok (.aload_n 0, 1) := op42 (by decide +kernel)
theorem dTo_advance_199 : decode (mB mTo_advance) 199 = .ok (.iload_n 1, 1) := op27 (by decide +kernel)
theorem dTo_advance_200 : decode (mB mTo_advance) 200 = .ok (.bipush 59, 2) := op16 59 (by decide +kernel)
theorem dTo_advance_202 : decode (mB mTo_advance) 202 = .ok (.if_icmp .ne 7, 3) := op160 0 7 (by decide +kernel)
theorem dTo_advance_205 : decode (mB mTo_advance) 205 = .ok (.iconst 5, 1) := op8 (by decide +kernel)
theorem dTo_advance_206 : decode (mB mTo_advance) 206 = .ok (.goto 4, 3) := op167 0 4 (by decide +kernel)
theorem dTo_advance_209 : decode (mB mTo_advance) 209 = .ok (.iconst 0, 1) := op3 (by decide +kernel)
theorem dTo_advance_210 : decode (mB mTo_advance) 210 = .ok (.putfield 15, 3) := op181 0 15 (by decide +kernel)
theorem dTo_advance_213 : decode (mB mTo_advance) 213 = .ok (.aload_n 0, 1) := op42 (by decide +kernel)
theorem dTo_advance_214 : decode (mB mTo_advance) 214 = .ok (.getfield 15, 3) := op180 0 15 (by decide +kernel)
theorem dTo_advance_217 : decode (mB mTo_advance) 217 = .ok (.ifCond .ne 9, 3) := op154 0 9 (by decide +kernel)
theorem dTo_advance_220 : decode (mB mTo_advance) 220 = .ok (.aload_n 0, 1) := op42 (by decide +kernel)
theorem dTo_advance_221 : decode (mB mTo_advance) 221 = .ok (.iconst 1, 1) := op4 (by decide +kernel)
theorem dTo_advance_222 : decode (mB mTo_advance) 222 = .ok (.invokevirtual 31, 3) := op182 0 31 (by decide +kernel)
theorem dTo_advance_225 : decode (mB mTo_advance) 225 = .ok (.pop, 1) := op87 (by decide +kernel)
theorem dTo_advance_226 : decode (mB mTo_advance) 226 = .ok (.return_, 1) := op177 (by decide +kernel)

theorem vTo_advance_0 {M : Mm} {b : Nat × Nat} {K : Mm → Prop} {v0 : Nat} {r1 : Nat} (kv0 : v0 % 64 = 7) (e1 : gr M v0 0 = some r1)
    (h : CI mTa_behindAll [.ref r1, .int 32, .int 32, .int (gi M v0 3)] M (fun rv N => X mTo_advance 16 [(0, .ref v0)] [.int rv, .ref v0] N b (QV K))) : X mTo_advance 0 [(0, .ref v0)] [] M b (QV K) := by
  refine x_wf (fun hw => ?_)
  refine x_aload_n (pc := 0) dTo_advance_0 rfl (q := 0) rfl ?_
  refine x_aload_n (pc := 1) dTo_advance_1 rfl (q := 0) rfl ?_
  refine x_getR (pc := 2) dTo_advance_2 kv0 flTo_9 rfl e1 ?_
  refine x_bipush (pc := 5) dTo_advance_5 (v := 32) rfl ?_
  refine x_bipush (pc := 7) dTo_advance_7 (v := 32) rfl ?_
  refine x_aload_n (pc := 9) dTo_advance_9 rfl (q := 0) rfl ?_
  refine x_getI (pc := 10) dTo_advance_10 kv0 flTo_22 rfl ?_
  exact x_invV (pc := 13) dTo_advance_13 (c := 6) (S := [.ref v0]) (As := [.int 32, .int 32, .int (gi M v0 3)]) mlTo_35 hTa_behindAll rfl (by decide) rfl (wfk hw e1 kv0) ⟨by decide, by decide⟩ ⟨Nat.zero_le _, Nat.zero_le _⟩ rfl (Nat.le_of_ble_eq_true rfl) (aftI (b' := b) ⟨Nat.le_refl _, Nat.le_refl _⟩ (fun rv N h => h) h)

theorem vTo_advance_16 {M : Mm} {b : Nat × Nat} {K : Mm → Prop} {v0 : Nat} {w0 : Int32} {w1 : Nat} {r1 : Nat} (kw1 : w1 % 64 = 7) (kv0 : v0 % 64 = 7) (e1 : gr M v0 0 = some r1)
    (h : CI mTa_byteAt [.ref r1, .int (gi (si (si M w1 2 w0) v0 3 ((gi (si M w1 2 w0) v0 2) + 1)) v0 2)] (si (si M w1 2 w0) v0 3 ((gi (si M w1 2 w0) v0 2) + 1)) (fun rv N => X mTo_advance 40 [(0, .ref v0)] [.int rv] N b (QV K))) : X mTo_advance 16 [(0, .ref v0)] [.int w0, .ref w1] M b (QV K) := by
  refine x_wf (fun hw => ?_)
  refine x_putI (pc := 16) dTo_advance_16 kw1 flTo_19 rfl rfl ?_
  refine x_aload_n (pc := 19) dTo_advance_19 rfl (q := 0) rfl ?_
  refine x_aload_n (pc := 20) dTo_advance_20 rfl (q := 0) rfl ?_
  refine x_getI (pc := 21) dTo_advance_21 kv0 flTo_19 rfl ?_
  refine x_iconst (pc := 24) dTo_advance_24 (v := 1) rfl ?_
  refine x_iadd (pc := 25) dTo_advance_25 ?_
  refine x_putI (pc := 26) dTo_advance_26 kv0 flTo_22 rfl rfl ?_
  refine x_aload_n (pc := 29) dTo_advance_29 rfl (q := 0) rfl ?_
  refine x_getR (pc := 30) dTo_advance_30 kv0 flTo_9 rfl e1 ?_
  refine x_aload_n (pc := 33) dTo_advance_33 rfl (q := 0) rfl ?_
  refine x_getI (pc := 34) dTo_advance_34 kv0 flTo_19 rfl ?_
  exact x_invV (pc := 37) dTo_advance_37 (c := 6) (S := []) (As := [.int (gi (si (si M w1 2 w0) v0 3 ((gi (si M w1 2 w0) v0 2) + 1)) v0 2)]) mlTo_41 hTa_byteAt rfl (by decide) rfl (wfk hw e1 kv0) ⟨by decide, by decide⟩ ⟨Nat.zero_le _, Nat.zero_le _⟩ rfl (Nat.le_of_ble_eq_true rfl) (aftI (b' := b) ⟨Nat.le_refl _, Nat.le_refl _⟩ (fun rv N h => h) h)

theorem vTo_advance_40 {M : Mm} {b : Nat × Nat} {K : Mm → Prop} {v0 : Nat} {w0 : Int32} {r1 : Nat} (kv0 : v0 % 64 = 7) (e1 : gr M v0 0 = some r1)
    (h : (((0 ≤ w0 ∧ w0 < 97) ∨ (0 ≤ w0 ∧ ¬ w0 < 97 ∧ 122 < w0)) → ((((w0 < 48) ∨ (¬ w0 < 48 ∧ 57 < w0)) → (((¬ w0 = 45 ∧ ¬ w0 = 59) → (X mTo_advance 210 [(0, .ref v0)] [.int 0, .ref v0] M b (QV K))) ∧ ((¬ w0 = 45 ∧ w0 = 59) → (X mTo_advance 210 [(0, .ref v0)] [.int 5, .ref v0] M b (QV K))) ∧ (w0 = 45 → (X mTo_advance 213 [(0, .ref v0)] [] (si M v0 1 4) b (QV K))))) ∧ ((¬ w0 < 48 ∧ ¬ 57 < w0) → (CI mTa_behindAll [.ref r1, .int 48, .int 57, .int (gi M v0 2)] M (fun rv N => X mTo_advance 128 [(0, .ref v0)] [.int rv, .ref v0] N b (QV K)))))) ∧ ((0 ≤ w0 ∧ ¬ w0 < 97 ∧ ¬ 122 < w0) → (CI mTa_behindAll [.ref r1, .int 97, .int 122, .int (gi (si M v0 1 2) v0 2)] (si M v0 1 2) (fun rv N => X mTo_advance 94 [(0, .ref v0)] [.int rv, .ref v0] N b (QV K)))) ∧ (¬ 0 ≤ w0 → (X mTo_advance 213 [(0, .ref v0)] [] (si (si M v0 1 1) v0 3 (gi (si M v0 1 1) v0 2)) b (QV K)))) : X mTo_advance 40 [(0, .ref v0)] [.int w0] M b (QV K) := by
  refine x_wf (fun hw => ?_)
  refine x_istore_n (pc := 40) dTo_advance_40 rfl (by decide) (L' := [(1, .int w0), (0, .ref v0)]) rfl ?_
  refine x_iload_n (pc := 41) dTo_advance_41 rfl (q := 0) rfl ?_
  obtain ⟨g1_0, g1_1, g1_2⟩ := h
  have g1_k0 : (0 ≤ w0 ∧ w0 < 97) ∨ (0 ≤ w0 ∧ ¬ w0 < 97 ∧ 122 < w0) → X mTo_advance 100 [(1, .int w0), (0, .ref v0)] [] M b (QV K) := fun q => by
    have h := g1_0 q
    refine x_iload_n (pc := 100) dTo_advance_100 rfl (q := 0) rfl ?_
    refine x_bipush (pc := 101) dTo_advance_101 (v := 48) rfl ?_
    obtain ⟨g2_0, g2_1⟩ := h
    have g2_k0 : (w0 < 48) ∨ (¬ w0 < 48 ∧ 57 < w0) → X mTo_advance 184 [(1, .int w0), (0, .ref v0)] [] M b (QV K) := fun q => by
      have h := g2_0 q
      refine x_iload_n (pc := 184) dTo_advance_184 rfl (q := 0) rfl ?_
      refine x_bipush (pc := 185) dTo_advance_185 (v := 45) rfl ?_
      obtain ⟨g3_0, g3_1, g3_2⟩ := h
      refine x_icmp_ne (pc := 187) dTo_advance_187 (t := 198) rfl (fun q6 => ?_) (fun q6 => ?_)
      · refine x_aload_n (pc := 198) dTo_advance_198 rfl (q := 1) rfl ?_
        refine x_iload_n (pc := 199) dTo_advance_199 rfl (q := 0) rfl ?_
        refine x_bipush (pc := 200) dTo_advance_200 (v := 59) rfl ?_
        refine x_icmp_ne (pc := 202) dTo_advance_202 (t := 209) rfl (fun q7 => ?_) (fun q7 => ?_)
        · refine x_iconst (pc := 209) dTo_advance_209 (v := 0) rfl ?_
          have h := g3_0 ⟨q6, q7⟩
          exact x_loc [1] rfl h
        · refine x_iconst (pc := 205) dTo_advance_205 (v := 5) rfl ?_
          refine x_goto (pc := 206) dTo_advance_206 (t := 210) rfl ?_
          have h := g3_1 ⟨q6, q7⟩
          exact x_loc [1] rfl h
      · refine x_aload_n (pc := 190) dTo_advance_190 rfl (q := 1) rfl ?_
        refine x_iconst (pc := 191) dTo_advance_191 (v := 4) rfl ?_
        have h := g3_2 q6
        refine x_putI (pc := 192) dTo_advance_192 kv0 flTo_15 rfl rfl ?_
        refine x_goto (pc := 195) dTo_advance_195 (t := 213) rfl ?_
        exact x_loc [1] rfl h
    refine x_icmp_lt (pc := 103) dTo_advance_103 (t := 184) rfl (fun q4 => ?_) (fun q4 => ?_)
    · exact g2_k0 (Or.inl q4)
    · refine x_iload_n (pc := 106) dTo_advance_106 rfl (q := 0) rfl ?_
      refine x_bipush (pc := 107) dTo_advance_107 (v := 57) rfl ?_
      refine x_icmp_gt (pc := 109) dTo_advance_109 (t := 184) rfl (fun q5 => ?_) (fun q5 => ?_)
      · exact g2_k0 (Or.inr ⟨q4, q5⟩)
      · refine x_aload_n (pc := 112) dTo_advance_112 rfl (q := 1) rfl ?_
        refine x_aload_n (pc := 113) dTo_advance_113 rfl (q := 1) rfl ?_
        refine x_getR (pc := 114) dTo_advance_114 kv0 flTo_9 rfl e1 ?_
        refine x_bipush (pc := 117) dTo_advance_117 (v := 48) rfl ?_
        refine x_bipush (pc := 119) dTo_advance_119 (v := 57) rfl ?_
        refine x_aload_n (pc := 121) dTo_advance_121 rfl (q := 1) rfl ?_
        refine x_getI (pc := 122) dTo_advance_122 kv0 flTo_19 rfl ?_
        have h := g2_1 ⟨q4, q5⟩
        exact x_invV (pc := 125) dTo_advance_125 (c := 6) (S := [.ref v0]) (As := [.int 48, .int 57, .int (gi M v0 2)]) mlTo_35 hTa_behindAll rfl (by decide) rfl (wfk hw e1 kv0) ⟨by decide, by decide⟩ ⟨Nat.zero_le _, Nat.zero_le _⟩ rfl (Nat.le_of_ble_eq_true rfl) (aftI (b' := b) ⟨Nat.le_refl _, Nat.le_refl _⟩ (fun rv N h => x_loc [1] rfl h) h)
  refine x_if_ge (pc := 42) dTo_advance_42 (t := 61) rfl (fun q1 => ?_) (fun q1 => ?_)
  · refine x_iload_n (pc := 61) dTo_advance_61 rfl (q := 0) rfl ?_
    refine x_bipush (pc := 62) dTo_advance_62 (v := 97) rfl ?_
    refine x_icmp_lt (pc := 64) dTo_advance_64 (t := 100) rfl (fun q2 => ?_) (fun q2 => ?_)
    · exact g1_k0 (Or.inl ⟨q1, q2⟩)
    · refine x_iload_n (pc := 67) dTo_advance_67 rfl (q := 0) rfl ?_
      refine x_bipush (pc := 68) dTo_advance_68 (v := 122) rfl ?_
      refine x_icmp_gt (pc := 70) dTo_advance_70 (t := 100) rfl (fun q3 => ?_) (fun q3 => ?_)
      · exact g1_k0 (Or.inr ⟨q1, q2, q3⟩)
      · refine x_aload_n (pc := 73) dTo_advance_73 rfl (q := 1) rfl ?_
        refine x_iconst (pc := 74) dTo_advance_74 (v := 2) rfl ?_
        have h := g1_1 ⟨q1, q2, q3⟩
        refine x_putI (pc := 75) dTo_advance_75 kv0 flTo_15 rfl rfl ?_
        refine x_aload_n (pc := 78) dTo_advance_78 rfl (q := 1) rfl ?_
        refine x_aload_n (pc := 79) dTo_advance_79 rfl (q := 1) rfl ?_
        refine x_getR (pc := 80) dTo_advance_80 kv0 flTo_9 rfl e1 ?_
        refine x_bipush (pc := 83) dTo_advance_83 (v := 97) rfl ?_
        refine x_bipush (pc := 85) dTo_advance_85 (v := 122) rfl ?_
        refine x_aload_n (pc := 87) dTo_advance_87 rfl (q := 1) rfl ?_
        refine x_getI (pc := 88) dTo_advance_88 kv0 flTo_19 rfl ?_
        exact x_invV (pc := 91) dTo_advance_91 (c := 6) (S := [.ref v0]) (As := [.int 97, .int 122, .int (gi (si M v0 1 2) v0 2)]) mlTo_35 hTa_behindAll rfl (by decide) rfl (wfk hw e1 kv0) ⟨by decide, by decide⟩ ⟨Nat.zero_le _, Nat.zero_le _⟩ rfl (Nat.le_of_ble_eq_true rfl) (aftI (b' := b) ⟨Nat.le_refl _, Nat.le_refl _⟩ (fun rv N h => x_loc [1] rfl h) h)
  · refine x_aload_n (pc := 45) dTo_advance_45 rfl (q := 1) rfl ?_
    refine x_iconst (pc := 46) dTo_advance_46 (v := 1) rfl ?_
    have h := g1_2 q1
    refine x_putI (pc := 47) dTo_advance_47 kv0 flTo_15 rfl rfl ?_
    refine x_aload_n (pc := 50) dTo_advance_50 rfl (q := 1) rfl ?_
    refine x_aload_n (pc := 51) dTo_advance_51 rfl (q := 1) rfl ?_
    refine x_getI (pc := 52) dTo_advance_52 kv0 flTo_19 rfl ?_
    refine x_putI (pc := 55) dTo_advance_55 kv0 flTo_22 rfl rfl ?_
    refine x_goto (pc := 58) dTo_advance_58 (t := 213) rfl ?_
    exact x_loc [1] rfl h

theorem vTo_advance_94 {M : Mm} {b : Nat × Nat} {K : Mm → Prop} {v0 : Nat} {w0 : Int32} {w1 : Nat} (kw1 : w1 % 64 = 7) 
    (h : X mTo_advance 213 [(0, .ref v0)] [] (si M w1 3 w0) b (QV K)) : X mTo_advance 94 [(0, .ref v0)] [.int w0, .ref w1] M b (QV K) := by
  refine x_wf (fun hw => ?_)
  refine x_putI (pc := 94) dTo_advance_94 kw1 flTo_22 rfl rfl ?_
  refine x_goto (pc := 97) dTo_advance_97 (t := 213) rfl ?_
  exact h

theorem vTo_advance_128 {M : Mm} {b : Nat × Nat} {K : Mm → Prop} {v0 : Nat} {w0 : Int32} {w1 : Nat} {r1 : Nat} (kw1 : w1 % 64 = 7) (kv0 : v0 % 64 = 7) (e1 : gr M v0 0 = some r1)
    (h : CI mJm_min [.int (gi (si M w1 3 w0) v0 3), .int ((gi (si M w1 3 w0) v0 2) + 3)] (si M w1 3 w0) (fun rv N => X mTo_advance 153 [(0, .ref v0)] [.int rv, .int (gi (si M w1 3 w0) v0 2), .ref r1, .ref v0] N b (QV K))) : X mTo_advance 128 [(0, .ref v0)] [.int w0, .ref w1] M b (QV K) := by
  refine x_wf (fun hw => ?_)
  refine x_putI (pc := 128) dTo_advance_128 kw1 flTo_22 rfl rfl ?_
  refine x_aload_n (pc := 131) dTo_advance_131 rfl (q := 0) rfl ?_
  refine x_aload_n (pc := 132) dTo_advance_132 rfl (q := 0) rfl ?_
  refine x_getR (pc := 133) dTo_advance_133 kv0 flTo_9 rfl e1 ?_
  refine x_aload_n (pc := 136) dTo_advance_136 rfl (q := 0) rfl ?_
  refine x_getI (pc := 137) dTo_advance_137 kv0 flTo_19 rfl ?_
  refine x_aload_n (pc := 140) dTo_advance_140 rfl (q := 0) rfl ?_
  refine x_getI (pc := 141) dTo_advance_141 kv0 flTo_22 rfl ?_
  refine x_aload_n (pc := 144) dTo_advance_144 rfl (q := 0) rfl ?_
  refine x_getI (pc := 145) dTo_advance_145 kv0 flTo_19 rfl ?_
  refine x_iconst (pc := 148) dTo_advance_148 (v := 3) rfl ?_
  refine x_iadd (pc := 149) dTo_advance_149 ?_
  exact x_invS (pc := 150) dTo_advance_150 (S := [.int (gi (si M w1 3 w0) v0 2), .ref r1, .ref v0]) (As := [.int (gi (si M w1 3 w0) v0 3), .int ((gi (si M w1 3 w0) v0 2) + 3)]) mlTo_44 hJm_min rfl ⟨by decide, by decide⟩ ⟨Nat.zero_le _, Nat.zero_le _⟩ rfl (Nat.le_of_ble_eq_true rfl) (aftI (b' := b) ⟨Nat.le_refl _, Nat.le_refl _⟩ (fun rv N h => h) h)

theorem vTo_advance_153 {M : Mm} {b : Nat × Nat} {K : Mm → Prop} {v0 : Nat} {w0 : Int32} {w1 : Int32} {w2 : Nat} {w3 : Nat} (kw2 : w2 % 64 = 6) 
    (h : CI mTa_figures [.ref w2, .int w1, .int w0] M (fun rv N => X mTo_advance 156 [(0, .ref v0)] [.int rv, .ref w3] N b (QV K))) : X mTo_advance 153 [(0, .ref v0)] [.int w0, .int w1, .ref w2, .ref w3] M b (QV K) := by
  refine x_wf (fun hw => ?_)
  exact x_invV (pc := 153) dTo_advance_153 (c := 6) (S := [.ref w3]) (As := [.int w1, .int w0]) mlTo_50 hTa_figures rfl (by decide) rfl kw2 ⟨by decide, by decide⟩ ⟨Nat.zero_le _, Nat.zero_le _⟩ rfl (Nat.le_of_ble_eq_true rfl) (aftI (b' := b) ⟨Nat.le_refl _, Nat.le_refl _⟩ (fun rv N h => h) h)

theorem vTo_advance_156 {M : Mm} {b : Nat × Nat} {K : Mm → Prop} {v0 : Nat} {w0 : Int32} {w1 : Nat} (kw1 : w1 % 64 = 7) (kv0 : v0 % 64 = 7) 
    (h : X mTo_advance 213 [(0, .ref v0)] [] (si (si M w1 4 w0) v0 1 (if ((gi (si M w1 4 w0) v0 3) - (gi (si M w1 4 w0) v0 2)) ≤ 3 then 3 else 0 : Int32)) b (QV K)) : X mTo_advance 156 [(0, .ref v0)] [.int w0, .ref w1] M b (QV K) := by
  refine x_wf (fun hw => ?_)
  refine x_putI (pc := 156) dTo_advance_156 kw1 flTo_53 rfl rfl ?_
  refine x_aload_n (pc := 159) dTo_advance_159 rfl (q := 0) rfl ?_
  refine x_aload_n (pc := 160) dTo_advance_160 rfl (q := 0) rfl ?_
  refine x_getI (pc := 161) dTo_advance_161 kv0 flTo_22 rfl ?_
  refine x_aload_n (pc := 164) dTo_advance_164 rfl (q := 0) rfl ?_
  refine x_getI (pc := 165) dTo_advance_165 kv0 flTo_19 rfl ?_
  refine x_isub (pc := 168) dTo_advance_168 ?_
  refine x_iconst (pc := 169) dTo_advance_169 (v := 3) rfl ?_
  suffices hJ : X mTo_advance 178 [(0, .ref v0)] [.int (if ((gi (si M w1 4 w0) v0 3) - (gi (si M w1 4 w0) v0 2)) ≤ 3 then 3 else 0 : Int32), .ref v0] (si M w1 4 w0) b (QV K) by
    refine x_icmp_le (pc := 170) dTo_advance_170 (t := 177) rfl (fun q1 => ?_) (fun q1 => ?_)
    · refine x_iconst (pc := 177) dTo_advance_177 (v := 3) rfl ?_
      first | (rw [if_pos q1] at hJ; exact hJ) | (simp only [if_pos q1] at hJ ⊢; exact hJ)
    · refine x_iconst (pc := 173) dTo_advance_173 (v := 0) rfl ?_
      refine x_goto (pc := 174) dTo_advance_174 (t := 178) rfl ?_
      first | (rw [if_neg q1] at hJ; exact hJ) | (simp only [if_neg q1] at hJ ⊢; exact hJ)
  refine x_putI (pc := 178) dTo_advance_178 kv0 flTo_15 rfl rfl ?_
  refine x_goto (pc := 181) dTo_advance_181 (t := 213) rfl ?_
  exact h

theorem vTo_advance_210 {M : Mm} {b : Nat × Nat} {K : Mm → Prop} {v0 : Nat} {w0 : Int32} {w1 : Nat} (kw1 : w1 % 64 = 7) 
    (h : X mTo_advance 213 [(0, .ref v0)] [] (si M w1 1 w0) b (QV K)) : X mTo_advance 210 [(0, .ref v0)] [.int w0, .ref w1] M b (QV K) := by
  refine x_wf (fun hw => ?_)
  refine x_putI (pc := 210) dTo_advance_210 kw1 flTo_15 rfl rfl ?_
  exact h

theorem vTo_advance_213 {M : Mm} {b : Nat × Nat} {K : Mm → Prop} {v0 : Nat} (kv0 : v0 % 64 = 7) 
    (h : (¬ (gi M v0 1) = 0 → (K M)) ∧ ((gi M v0 1) = 0 → (CI mTo_fail [.ref v0, .int 1] M (fun rv N => X mTo_advance 225 [] [.int rv] N b (QV K))))) : X mTo_advance 213 [(0, .ref v0)] [] M b (QV K) := by
  refine x_wf (fun hw => ?_)
  refine x_aload_n (pc := 213) dTo_advance_213 rfl (q := 0) rfl ?_
  refine x_getI (pc := 214) dTo_advance_214 kv0 flTo_15 rfl ?_
  obtain ⟨g1_0, g1_1⟩ := h
  refine x_if_ne (pc := 217) dTo_advance_217 (t := 226) rfl (fun q1 => ?_) (fun q1 => ?_)
  · have h := g1_0 q1
    exact x_retQV (pc := 226) dTo_advance_226 rfl h
  · refine x_aload_n (pc := 220) dTo_advance_220 rfl (q := 0) rfl ?_
    refine x_iconst (pc := 221) dTo_advance_221 (v := 1) rfl ?_
    have h := g1_1 q1
    exact x_invV (pc := 222) dTo_advance_222 (c := 7) (S := []) (As := [.int 1]) mlTo_31 hTo_fail rfl (by decide) rfl kv0 ⟨by decide, by decide⟩ ⟨Nat.zero_le _, Nat.zero_le _⟩ rfl (Nat.le_of_ble_eq_true rfl) (aftI (b' := b) ⟨Nat.le_refl _, Nat.le_refl _⟩ (fun rv N h => x_loc [] rfl h) h)

theorem vTo_advance_225 {M : Mm} {b : Nat × Nat} {K : Mm → Prop} {w0 : Int32}  
    (h : K M) : X mTo_advance 225 [] [.int w0] M b (QV K) := by
  refine x_wf (fun hw => ?_)
  refine x_pop (pc := 225) dTo_advance_225 rfl ?_
  exact x_retQV (pc := 226) dTo_advance_226 rfl h

theorem dTa_behindAll_0 : decode (mB mTa_behindAll) 0 = .ok (.iload_n 3, 1) := op29 (by decide +kernel)
theorem dTa_behindAll_1 : decode (mB mTa_behindAll) 1 = .ok (.ifCond .ge 7, 3) := op156 0 7 (by decide +kernel)
theorem dTa_behindAll_4 : decode (mB mTa_behindAll) 4 = .ok (.iconst 0, 1) := op3 (by decide +kernel)
theorem dTa_behindAll_5 : decode (mB mTa_behindAll) 5 = .ok (.goto 4, 3) := op167 0 4 (by decide +kernel)
theorem dTa_behindAll_8 : decode (mB mTa_behindAll) 8 = .ok (.iload_n 3, 1) := op29 (by decide +kernel)
theorem dTa_behindAll_9 : decode (mB mTa_behindAll) 9 = .ok (.istore 4, 2) := op54 4 (by decide +kernel)
theorem dTa_behindAll_11 : decode (mB mTa_behindAll) 11 = .ok (.iload 4, 2) := op21 4 (by decide +kernel)
theorem dTa_behindAll_13 : decode (mB mTa_behindAll) 13 = .ok (.aload_n 0, 1) := op42 (by decide +kernel)
theorem dTa_behindAll_14 : decode (mB mTa_behindAll) 14 = .ok (.getfield 15, 3) := op180 0 15 (by decide +kernel)
theorem dTa_behindAll_17 : decode (mB mTa_behindAll) 17 = .ok (.if_icmp .ge 31, 3) := op162 0 31 (by decide +kernel)
theorem dTa_behindAll_20 : decode (mB mTa_behindAll) 20 = .ok (.aload_n 0, 1) := op42 (by decide +kernel)
theorem dTa_behindAll_21 : decode (mB mTa_behindAll) 21 = .ok (.getfield 9, 3) := op180 0 9 (by decide +kernel)
theorem dTa_behindAll_24 : decode (mB mTa_behindAll) 24 = .ok (.iload 4, 2) := op21 4 (by decide +kernel)
theorem dTa_behindAll_26 : decode (mB mTa_behindAll) 26 = .ok (.baload, 1) := op51 (by decide +kernel)
theorem dTa_behindAll_27 : decode (mB mTa_behindAll) 27 = .ok (.iload_n 1, 1) := op27 (by decide +kernel)
theorem dTa_behindAll_28 : decode (mB mTa_behindAll) 28 = .ok (.if_icmp .lt 20, 3) := op161 0 20 (by decide +kernel)
theorem dTa_behindAll_31 : decode (mB mTa_behindAll) 31 = .ok (.aload_n 0, 1) := op42 (by decide +kernel)
theorem dTa_behindAll_32 : decode (mB mTa_behindAll) 32 = .ok (.getfield 9, 3) := op180 0 9 (by decide +kernel)
theorem dTa_behindAll_35 : decode (mB mTa_behindAll) 35 = .ok (.iload 4, 2) := op21 4 (by decide +kernel)
theorem dTa_behindAll_37 : decode (mB mTa_behindAll) 37 = .ok (.baload, 1) := op51 (by decide +kernel)
theorem dTa_behindAll_38 : decode (mB mTa_behindAll) 38 = .ok (.iload_n 2, 1) := op28 (by decide +kernel)
theorem dTa_behindAll_39 : decode (mB mTa_behindAll) 39 = .ok (.if_icmp .gt 9, 3) := op163 0 9 (by decide +kernel)
theorem dTa_behindAll_42 : decode (mB mTa_behindAll) 42 = .ok (.iinc 4 1, 3) := op132 4 1 (by decide +kernel)
theorem dTa_behindAll_45 : decode (mB mTa_behindAll) 45 = .ok (.goto (-34), 3) := op167 255 222 (by decide +kernel)
theorem dTa_behindAll_48 : decode (mB mTa_behindAll) 48 = .ok (.iload 4, 2) := op21 4 (by decide +kernel)
theorem dTa_behindAll_50 : decode (mB mTa_behindAll) 50 = .ok (.ireturn, 1) := op172 (by decide +kernel)

theorem vTa_behindAll_0 {M : Mm} {b : Nat × Nat} {K : Int32 → Mm → Prop} {v0 : Nat} {v1 : Int32} {v2 : Int32} {v3 : Int32}  
    (h : X mTa_behindAll 11 [(0, .ref v0), (1, .int v1), (2, .int v2), (4, .int (if 0 ≤ v3 then v3 else 0 : Int32))] [] M b (QI K)) : X mTa_behindAll 0 [(0, .ref v0), (1, .int v1), (2, .int v2), (3, .int v3)] [] M b (QI K) := by
  refine x_wf (fun hw => ?_)
  refine x_iload_n (pc := 0) dTa_behindAll_0 rfl (q := 3) rfl ?_
  suffices hJ : X mTa_behindAll 9 [(0, .ref v0), (1, .int v1), (2, .int v2), (3, .int v3)] [.int (if 0 ≤ v3 then v3 else 0 : Int32)] M b (QI K) by
    refine x_if_ge (pc := 1) dTa_behindAll_1 (t := 8) rfl (fun q1 => ?_) (fun q1 => ?_)
    · refine x_iload_n (pc := 8) dTa_behindAll_8 rfl (q := 3) rfl ?_
      first | (rw [if_pos q1] at hJ; exact hJ) | (simp only [if_pos q1] at hJ ⊢; exact hJ)
    · refine x_iconst (pc := 4) dTa_behindAll_4 (v := 0) rfl ?_
      refine x_goto (pc := 5) dTa_behindAll_5 (t := 9) rfl ?_
      first | (rw [if_neg q1] at hJ; exact hJ) | (simp only [if_neg q1] at hJ ⊢; exact hJ)
  refine x_istore (pc := 9) dTa_behindAll_9 (by decide) (L' := [(4, .int (if 0 ≤ v3 then v3 else 0 : Int32)), (0, .ref v0), (1, .int v1), (2, .int v2), (3, .int v3)]) rfl ?_
  exact x_loc [1, 2, 3, 0] rfl h

theorem vTa_behindAll_11 {M : Mm} {b : Nat × Nat} {K : Int32 → Mm → Prop} {v0 : Nat} {v1 : Int32} {v2 : Int32} {v4 : Int32} {r1 : Nat} (kv0 : v0 % 64 = 6) (e1 : gr M v0 0 = some r1)
    (h : (¬ (gi M v0 1) ≤ v4 → vp_in v4 400) ∧ (¬ (gi M v0 1) ≤ v4 ∧ ¬ (gi M r1 (v4).toNatClampNeg) < v1 → vp_in v4 400) ∧ ((((gi M v0 1) ≤ v4) ∨ (¬ (gi M v0 1) ≤ v4 ∧ (gi M r1 (v4).toNatClampNeg) < v1) ∨ (¬ (gi M v0 1) ≤ v4 ∧ ¬ (gi M r1 (v4).toNatClampNeg) < v1 ∧ v2 < (gi M r1 (v4).toNatClampNeg))) → (K v4 M)) ∧ ((¬ (gi M v0 1) ≤ v4 ∧ ¬ (gi M r1 (v4).toNatClampNeg) < v1 ∧ ¬ v2 < (gi M r1 (v4).toNatClampNeg)) → (X mTa_behindAll 11 [(0, .ref v0), (1, .int v1), (2, .int v2), (4, .int (v4 + 1))] [] M b (QI K)))) : X mTa_behindAll 11 [(0, .ref v0), (1, .int v1), (2, .int v2), (4, .int v4)] [] M b (QI K) := by
  refine x_wf (fun hw => ?_)
  refine x_iload (pc := 11) dTa_behindAll_11 (q := 3) rfl ?_
  refine x_aload_n (pc := 13) dTa_behindAll_13 rfl (q := 0) rfl ?_
  refine x_getI (pc := 14) dTa_behindAll_14 kv0 flTa_15 rfl ?_
  obtain ⟨s1, s2, g1_0, g1_1⟩ := h
  have g1_k0 : ((gi M v0 1) ≤ v4) ∨ (¬ (gi M v0 1) ≤ v4 ∧ (gi M r1 (v4).toNatClampNeg) < v1) ∨ (¬ (gi M v0 1) ≤ v4 ∧ ¬ (gi M r1 (v4).toNatClampNeg) < v1 ∧ v2 < (gi M r1 (v4).toNatClampNeg)) → X mTa_behindAll 48 [(0, .ref v0), (1, .int v1), (2, .int v2), (4, .int v4)] [] M b (QI K) := fun q => by
    have h := g1_0 q
    refine x_iload (pc := 48) dTa_behindAll_48 (q := 3) rfl ?_
    exact x_retQI (pc := 50) dTa_behindAll_50 rfl rfl h
  refine x_icmp_ge (pc := 17) dTa_behindAll_17 (t := 48) rfl (fun q1 => ?_) (fun q1 => ?_)
  · exact g1_k0 (Or.inl q1)
  · refine x_aload_n (pc := 20) dTa_behindAll_20 rfl (q := 0) rfl ?_
    refine x_getR (pc := 21) dTa_behindAll_21 kv0 flTa_9 rfl e1 ?_
    refine x_iload (pc := 24) dTa_behindAll_24 (q := 3) rfl ?_
    refine x_aldIj (pc := 26) (j := (v4).toNatClampNeg) (Or.inr (Or.inl ⟨rfl, rfl⟩)) dTa_behindAll_26 (wfk hw e1 kv0) ak_17 rfl (s1 q1) ?_
    refine x_iload_n (pc := 27) dTa_behindAll_27 rfl (q := 1) rfl ?_
    refine x_icmp_lt (pc := 28) dTa_behindAll_28 (t := 48) rfl (fun q2 => ?_) (fun q2 => ?_)
    · exact g1_k0 (Or.inr (Or.inl ⟨q1, q2⟩))
    · refine x_aload_n (pc := 31) dTa_behindAll_31 rfl (q := 0) rfl ?_
      refine x_getR (pc := 32) dTa_behindAll_32 kv0 flTa_9 rfl e1 ?_
      refine x_iload (pc := 35) dTa_behindAll_35 (q := 3) rfl ?_
      refine x_aldIj (pc := 37) (j := (v4).toNatClampNeg) (Or.inr (Or.inl ⟨rfl, rfl⟩)) dTa_behindAll_37 (wfk hw e1 kv0) ak_17 rfl (s2 ⟨q1, q2⟩) ?_
      refine x_iload_n (pc := 38) dTa_behindAll_38 rfl (q := 2) rfl ?_
      refine x_icmp_gt (pc := 39) dTa_behindAll_39 (t := 48) rfl (fun q3 => ?_) (fun q3 => ?_)
      · exact g1_k0 (Or.inr (Or.inr ⟨q1, q2, q3⟩))
      · have h := g1_1 ⟨q1, q2, q3⟩
        refine x_iinc (pc := 42) dTa_behindAll_42 (q := 3) rfl (v := v4 + 1) rfl (by decide) (L' := [(4, .int (v4 + 1)), (0, .ref v0), (1, .int v1), (2, .int v2)]) rfl ?_
        refine x_goto (pc := 45) dTa_behindAll_45 (t := 11) rfl ?_
        exact x_loc [1, 2, 3, 0] rfl h

theorem dTa_byteAt_0 : decode (mB mTa_byteAt) 0 = .ok (.iload_n 1, 1) := op27 (by decide +kernel)
theorem dTa_byteAt_1 : decode (mB mTa_byteAt) 1 = .ok (.ifCond .lt 24, 3) := op155 0 24 (by decide +kernel)
theorem dTa_byteAt_4 : decode (mB mTa_byteAt) 4 = .ok (.iload_n 1, 1) := op27 (by decide +kernel)
theorem dTa_byteAt_5 : decode (mB mTa_byteAt) 5 = .ok (.aload_n 0, 1) := op42 (by decide +kernel)
theorem dTa_byteAt_6 : decode (mB mTa_byteAt) 6 = .ok (.getfield 15, 3) := op180 0 15 (by decide +kernel)
theorem dTa_byteAt_9 : decode (mB mTa_byteAt) 9 = .ok (.if_icmp .ge 16, 3) := op162 0 16 (by decide +kernel)
theorem dTa_byteAt_12 : decode (mB mTa_byteAt) 12 = .ok (.aload_n 0, 1) := op42 (by decide +kernel)
theorem dTa_byteAt_13 : decode (mB mTa_byteAt) 13 = .ok (.getfield 9, 3) := op180 0 9 (by decide +kernel)
theorem dTa_byteAt_16 : decode (mB mTa_byteAt) 16 = .ok (.iload_n 1, 1) := op27 (by decide +kernel)
theorem dTa_byteAt_17 : decode (mB mTa_byteAt) 17 = .ok (.baload, 1) := op51 (by decide +kernel)
theorem dTa_byteAt_18 : decode (mB mTa_byteAt) 18 = .ok (.sipush 255, 3) := op17 0 255 (by decide +kernel)
theorem dTa_byteAt_21 : decode (mB mTa_byteAt) 21 = .ok (.iand, 1) := op126 (by decide +kernel)
theorem dTa_byteAt_22 : decode (mB mTa_byteAt) 22 = .ok (.goto 4, 3) := op167 0 4 (by decide +kernel)
theorem dTa_byteAt_25 : decode (mB mTa_byteAt) 25 = .ok (.iconst (-1), 1) := op2 (by decide +kernel)
theorem dTa_byteAt_26 : decode (mB mTa_byteAt) 26 = .ok (.ireturn, 1) := op172 (by decide +kernel)

theorem vTa_byteAt_0 {M : Mm} {b : Nat × Nat} {K : Int32 → Mm → Prop} {v0 : Nat} {v1 : Int32} {r1 : Nat} (kv0 : v0 % 64 = 6) (e1 : gr M v0 0 = some r1)
    (h : (¬ v1 < 0 ∧ ¬ (gi M v0 1) ≤ v1 → vp_in v1 400) ∧ (((v1 < 0) ∨ (¬ v1 < 0 ∧ (gi M v0 1) ≤ v1)) → (K (-1) M)) ∧ ((¬ v1 < 0 ∧ ¬ (gi M v0 1) ≤ v1) → (K ((gi M r1 (v1).toNatClampNeg) &&& 255) M))) : X mTa_byteAt 0 [(0, .ref v0), (1, .int v1)] [] M b (QI K) := by
  refine x_wf (fun hw => ?_)
  refine x_iload_n (pc := 0) dTa_byteAt_0 rfl (q := 1) rfl ?_
  obtain ⟨s1, g1_0, g1_1⟩ := h
  have g1_k0 : (v1 < 0) ∨ (¬ v1 < 0 ∧ (gi M v0 1) ≤ v1) → X mTa_byteAt 25 [(0, .ref v0), (1, .int v1)] [] M b (QI K) := fun q => by
    have h := g1_0 q
    refine x_iconst (pc := 25) dTa_byteAt_25 (v := (-1)) rfl ?_
    exact x_retQI (pc := 26) dTa_byteAt_26 rfl rfl h
  refine x_if_lt (pc := 1) dTa_byteAt_1 (t := 25) rfl (fun q1 => ?_) (fun q1 => ?_)
  · exact g1_k0 (Or.inl q1)
  · refine x_iload_n (pc := 4) dTa_byteAt_4 rfl (q := 1) rfl ?_
    refine x_aload_n (pc := 5) dTa_byteAt_5 rfl (q := 0) rfl ?_
    refine x_getI (pc := 6) dTa_byteAt_6 kv0 flTa_15 rfl ?_
    refine x_icmp_ge (pc := 9) dTa_byteAt_9 (t := 25) rfl (fun q2 => ?_) (fun q2 => ?_)
    · exact g1_k0 (Or.inr ⟨q1, q2⟩)
    · refine x_aload_n (pc := 12) dTa_byteAt_12 rfl (q := 0) rfl ?_
      refine x_getR (pc := 13) dTa_byteAt_13 kv0 flTa_9 rfl e1 ?_
      refine x_iload_n (pc := 16) dTa_byteAt_16 rfl (q := 1) rfl ?_
      refine x_aldIj (pc := 17) (j := (v1).toNatClampNeg) (Or.inr (Or.inl ⟨rfl, rfl⟩)) dTa_byteAt_17 (wfk hw e1 kv0) ak_17 rfl (s1 ⟨q1, q2⟩) ?_
      refine x_sipush (pc := 18) dTa_byteAt_18 (v := 255) rfl ?_
      refine x_iand (pc := 21) dTa_byteAt_21 ?_
      refine x_goto (pc := 22) dTa_byteAt_22 (t := 26) rfl ?_
      have h := g1_1 ⟨q1, q2⟩
      exact x_retQI (pc := 26) dTa_byteAt_26 rfl rfl h

theorem dTa_figures_0 : decode (mB mTa_figures) 0 = .ok (.iconst 0, 1) := op3 (by decide +kernel)
theorem dTa_figures_1 : decode (mB mTa_figures) 1 = .ok (.istore_n 3, 1) := op62 (by decide +kernel)
theorem dTa_figures_2 : decode (mB mTa_figures) 2 = .ok (.iload_n 1, 1) := op27 (by decide +kernel)
theorem dTa_figures_3 : decode (mB mTa_figures) 3 = .ok (.ifCond .ge 7, 3) := op156 0 7 (by decide +kernel)
theorem dTa_figures_6 : decode (mB mTa_figures) 6 = .ok (.iconst 0, 1) := op3 (by decide +kernel)
theorem dTa_figures_7 : decode (mB mTa_figures) 7 = .ok (.goto 4, 3) := op167 0 4 (by decide +kernel)
theorem dTa_figures_10 : decode (mB mTa_figures) 10 = .ok (.iload_n 1, 1) := op27 (by decide +kernel)
theorem dTa_figures_11 : decode (mB mTa_figures) 11 = .ok (.istore 4, 2) := op54 4 (by decide +kernel)
theorem dTa_figures_13 : decode (mB mTa_figures) 13 = .ok (.iload 4, 2) := op21 4 (by decide +kernel)
theorem dTa_figures_15 : decode (mB mTa_figures) 15 = .ok (.iload_n 2, 1) := op28 (by decide +kernel)
theorem dTa_figures_16 : decode (mB mTa_figures) 16 = .ok (.if_icmp .ge 34, 3) := op162 0 34 (by decide +kernel)
theorem dTa_figures_19 : decode (mB mTa_figures) 19 = .ok (.iload 4, 2) := op21 4 (by decide +kernel)
theorem dTa_figures_21 : decode (mB mTa_figures) 21 = .ok (.aload_n 0, 1) := op42 (by decide +kernel)
theorem dTa_figures_22 : decode (mB mTa_figures) 22 = .ok (.getfield 15, 3) := op180 0 15 (by decide +kernel)
theorem dTa_figures_25 : decode (mB mTa_figures) 25 = .ok (.if_icmp .ge 25, 3) := op162 0 25 (by decide +kernel)
theorem dTa_figures_28 : decode (mB mTa_figures) 28 = .ok (.iload_n 3, 1) := op29 (by decide +kernel)
theorem dTa_figures_29 : decode (mB mTa_figures) 29 = .ok (.bipush 10, 2) := op16 10 (by decide +kernel)
theorem dTa_figures_31 : decode (mB mTa_figures) 31 = .ok (.imul, 1) := op104 (by decide +kernel)
theorem dTa_figures_32 : decode (mB mTa_figures) 32 = .ok (.aload_n 0, 1) := op42 (by decide +kernel)
theorem dTa_figures_33 : decode (mB mTa_figures) 33 = .ok (.getfield 9, 3) := op180 0 9 (by decide +kernel)
theorem dTa_figures_36 : decode (mB mTa_figures) 36 = .ok (.iload 4, 2) := op21 4 (by decide +kernel)
theorem dTa_figures_38 : decode (mB mTa_figures) 38 = .ok (.baload, 1) := op51 (by decide +kernel)
theorem dTa_figures_39 : decode (mB mTa_figures) 39 = .ok (.iadd, 1) := op96 (by decide +kernel)
theorem dTa_figures_40 : decode (mB mTa_figures) 40 = .ok (.bipush 48, 2) := op16 48 (by decide +kernel)
theorem dTa_figures_42 : decode (mB mTa_figures) 42 = .ok (.isub, 1) := op100 (by decide +kernel)
theorem dTa_figures_43 : decode (mB mTa_figures) 43 = .ok (.istore_n 3, 1) := op62 (by decide +kernel)
theorem dTa_figures_44 : decode (mB mTa_figures) 44 = .ok (.iinc 4 1, 3) := op132 4 1 (by decide +kernel)
theorem dTa_figures_47 : decode (mB mTa_figures) 47 = .ok (.goto (-34), 3) := op167 255 222 (by decide +kernel)
theorem dTa_figures_50 : decode (mB mTa_figures) 50 = .ok (.iload_n 3, 1) := op29 (by decide +kernel)
theorem dTa_figures_51 : decode (mB mTa_figures) 51 = .ok (.ireturn, 1) := op172 (by decide +kernel)

theorem vTa_figures_0 {M : Mm} {b : Nat × Nat} {K : Int32 → Mm → Prop} {v0 : Nat} {v1 : Int32} {v2 : Int32}  
    (h : X mTa_figures 13 [(0, .ref v0), (2, .int v2), (3, .int 0), (4, .int (if 0 ≤ v1 then v1 else 0 : Int32))] [] M b (QI K)) : X mTa_figures 0 [(0, .ref v0), (1, .int v1), (2, .int v2)] [] M b (QI K) := by
  refine x_wf (fun hw => ?_)
  refine x_iconst (pc := 0) dTa_figures_0 (v := 0) rfl ?_
  refine x_istore_n (pc := 1) dTa_figures_1 rfl (by decide) (L' := [(3, .int 0), (0, .ref v0), (1, .int v1), (2, .int v2)]) rfl ?_
  refine x_iload_n (pc := 2) dTa_figures_2 rfl (q := 2) rfl ?_
  suffices hJ : X mTa_figures 11 [(3, .int 0), (0, .ref v0), (1, .int v1), (2, .int v2)] [.int (if 0 ≤ v1 then v1 else 0 : Int32)] M b (QI K) by
    refine x_if_ge (pc := 3) dTa_figures_3 (t := 10) rfl (fun q1 => ?_) (fun q1 => ?_)
    · refine x_iload_n (pc := 10) dTa_figures_10 rfl (q := 2) rfl ?_
      first | (rw [if_pos q1] at hJ; exact hJ) | (simp only [if_pos q1] at hJ ⊢; exact hJ)
    · refine x_iconst (pc := 6) dTa_figures_6 (v := 0) rfl ?_
      refine x_goto (pc := 7) dTa_figures_7 (t := 11) rfl ?_
      first | (rw [if_neg q1] at hJ; exact hJ) | (simp only [if_neg q1] at hJ ⊢; exact hJ)
  refine x_istore (pc := 11) dTa_figures_11 (by decide) (L' := [(4, .int (if 0 ≤ v1 then v1 else 0 : Int32)), (3, .int 0), (0, .ref v0), (1, .int v1), (2, .int v2)]) rfl ?_
  exact x_loc [2, 4, 1, 0] rfl h

theorem vTa_figures_13 {M : Mm} {b : Nat × Nat} {K : Int32 → Mm → Prop} {v0 : Nat} {v2 : Int32} {v3 : Int32} {v4 : Int32} {r1 : Nat} (kv0 : v0 % 64 = 6) (e1 : gr M v0 0 = some r1)
    (h : (¬ v2 ≤ v4 ∧ ¬ (gi M v0 1) ≤ v4 → vp_in v4 400) ∧ (((v2 ≤ v4) ∨ (¬ v2 ≤ v4 ∧ (gi M v0 1) ≤ v4)) → (K v3 M)) ∧ ((¬ v2 ≤ v4 ∧ ¬ (gi M v0 1) ≤ v4) → (X mTa_figures 13 [(0, .ref v0), (2, .int v2), (3, .int (((v3 * 10) + (gi M r1 (v4).toNatClampNeg)) - 48)), (4, .int (v4 + 1))] [] M b (QI K)))) : X mTa_figures 13 [(0, .ref v0), (2, .int v2), (3, .int v3), (4, .int v4)] [] M b (QI K) := by
  refine x_wf (fun hw => ?_)
  refine x_iload (pc := 13) dTa_figures_13 (q := 3) rfl ?_
  refine x_iload_n (pc := 15) dTa_figures_15 rfl (q := 1) rfl ?_
  obtain ⟨s1, g1_0, g1_1⟩ := h
  have g1_k0 : (v2 ≤ v4) ∨ (¬ v2 ≤ v4 ∧ (gi M v0 1) ≤ v4) → X mTa_figures 50 [(0, .ref v0), (2, .int v2), (3, .int v3), (4, .int v4)] [] M b (QI K) := fun q => by
    have h := g1_0 q
    refine x_iload_n (pc := 50) dTa_figures_50 rfl (q := 2) rfl ?_
    exact x_retQI (pc := 51) dTa_figures_51 rfl rfl h
  refine x_icmp_ge (pc := 16) dTa_figures_16 (t := 50) rfl (fun q1 => ?_) (fun q1 => ?_)
  · exact g1_k0 (Or.inl q1)
  · refine x_iload (pc := 19) dTa_figures_19 (q := 3) rfl ?_
    refine x_aload_n (pc := 21) dTa_figures_21 rfl (q := 0) rfl ?_
    refine x_getI (pc := 22) dTa_figures_22 kv0 flTa_15 rfl ?_
    refine x_icmp_ge (pc := 25) dTa_figures_25 (t := 50) rfl (fun q2 => ?_) (fun q2 => ?_)
    · exact g1_k0 (Or.inr ⟨q1, q2⟩)
    · refine x_iload_n (pc := 28) dTa_figures_28 rfl (q := 2) rfl ?_
      refine x_bipush (pc := 29) dTa_figures_29 (v := 10) rfl ?_
      refine x_imul (pc := 31) dTa_figures_31 ?_
      refine x_aload_n (pc := 32) dTa_figures_32 rfl (q := 0) rfl ?_
      refine x_getR (pc := 33) dTa_figures_33 kv0 flTa_9 rfl e1 ?_
      refine x_iload (pc := 36) dTa_figures_36 (q := 3) rfl ?_
      refine x_aldIj (pc := 38) (j := (v4).toNatClampNeg) (Or.inr (Or.inl ⟨rfl, rfl⟩)) dTa_figures_38 (wfk hw e1 kv0) ak_17 rfl (s1 ⟨q1, q2⟩) ?_
      refine x_iadd (pc := 39) dTa_figures_39 ?_
      refine x_bipush (pc := 40) dTa_figures_40 (v := 48) rfl ?_
      refine x_isub (pc := 42) dTa_figures_42 ?_
      have h := g1_1 ⟨q1, q2⟩
      refine x_istore_n (pc := 43) dTa_figures_43 rfl (by decide) (L' := [(3, .int (((v3 * 10) + (gi M r1 (v4).toNatClampNeg)) - 48)), (0, .ref v0), (2, .int v2), (4, .int v4)]) rfl ?_
      refine x_iinc (pc := 44) dTa_figures_44 (q := 3) rfl (v := v4 + 1) rfl (by decide) (L' := [(4, .int (v4 + 1)), (3, .int (((v3 * 10) + (gi M r1 (v4).toNatClampNeg)) - 48)), (0, .ref v0), (2, .int v2)]) rfl ?_
      refine x_goto (pc := 47) dTa_figures_47 (t := 13) rfl ?_
      exact x_loc [2, 3, 1, 0] rfl h

theorem dTo_fail_0 : decode (mB mTo_fail) 0 = .ok (.aload_n 0, 1) := op42 (by decide +kernel)
theorem dTo_fail_1 : decode (mB mTo_fail) 1 = .ok (.getfield 25, 3) := op180 0 25 (by decide +kernel)
theorem dTo_fail_4 : decode (mB mTo_fail) 4 = .ok (.ifCond .ne 16, 3) := op154 0 16 (by decide +kernel)
theorem dTo_fail_7 : decode (mB mTo_fail) 7 = .ok (.aload_n 0, 1) := op42 (by decide +kernel)
theorem dTo_fail_8 : decode (mB mTo_fail) 8 = .ok (.iload_n 1, 1) := op27 (by decide +kernel)
theorem dTo_fail_9 : decode (mB mTo_fail) 9 = .ok (.putfield 25, 3) := op181 0 25 (by decide +kernel)
theorem dTo_fail_12 : decode (mB mTo_fail) 12 = .ok (.aload_n 0, 1) := op42 (by decide +kernel)
theorem dTo_fail_13 : decode (mB mTo_fail) 13 = .ok (.aload_n 0, 1) := op42 (by decide +kernel)
theorem dTo_fail_14 : decode (mB mTo_fail) 14 = .ok (.getfield 19, 3) := op180 0 19 (by decide +kernel)
theorem dTo_fail_17 : decode (mB mTo_fail) 17 = .ok (.putfield 28, 3) := op181 0 28 (by decide +kernel)
theorem dTo_fail_20 : decode (mB mTo_fail) 20 = .ok (.iconst (-1), 1) := op2 (by decide +kernel)
theorem dTo_fail_21 : decode (mB mTo_fail) 21 = .ok (.ireturn, 1) := op172 (by decide +kernel)

theorem vTo_fail_0 {M : Mm} {b : Nat × Nat} {K : Int32 → Mm → Prop} {v0 : Nat} {v1 : Int32} (kv0 : v0 % 64 = 7) 
    (h : (¬ (gi M v0 5) = 0 → (K (-1) M)) ∧ ((gi M v0 5) = 0 → (K (-1) (si (si M v0 5 v1) v0 6 (gi (si M v0 5 v1) v0 2))))) : X mTo_fail 0 [(0, .ref v0), (1, .int v1)] [] M b (QI K) := by
  refine x_wf (fun hw => ?_)
  refine x_aload_n (pc := 0) dTo_fail_0 rfl (q := 0) rfl ?_
  refine x_getI (pc := 1) dTo_fail_1 kv0 flTo_25 rfl ?_
  obtain ⟨g1_0, g1_1⟩ := h
  refine x_if_ne (pc := 4) dTo_fail_4 (t := 20) rfl (fun q1 => ?_) (fun q1 => ?_)
  · have h := g1_0 q1
    refine x_iconst (pc := 20) dTo_fail_20 (v := (-1)) rfl ?_
    exact x_retQI (pc := 21) dTo_fail_21 rfl rfl h
  · refine x_aload_n (pc := 7) dTo_fail_7 rfl (q := 0) rfl ?_
    refine x_iload_n (pc := 8) dTo_fail_8 rfl (q := 1) rfl ?_
    have h := g1_1 q1
    refine x_putI (pc := 9) dTo_fail_9 kv0 flTo_25 rfl rfl ?_
    refine x_aload_n (pc := 12) dTo_fail_12 rfl (q := 0) rfl ?_
    refine x_aload_n (pc := 13) dTo_fail_13 rfl (q := 0) rfl ?_
    refine x_getI (pc := 14) dTo_fail_14 kv0 flTo_19 rfl ?_
    refine x_putI (pc := 17) dTo_fail_17 kv0 flTo_28 rfl rfl ?_
    refine x_iconst (pc := 20) dTo_fail_20 (v := (-1)) rfl ?_
    exact x_retQI (pc := 21) dTo_fail_21 rfl rfl h

theorem dTo_among_0 : decode (mB mTo_among) 0 = .ok (.iconst 0, 1) := op3 (by decide +kernel)
theorem dTo_among_1 : decode (mB mTo_among) 1 = .ok (.istore_n 2, 1) := op61 (by decide +kernel)
theorem dTo_among_2 : decode (mB mTo_among) 2 = .ok (.iconst 0, 1) := op3 (by decide +kernel)
theorem dTo_among_3 : decode (mB mTo_among) 3 = .ok (.istore_n 3, 1) := op62 (by decide +kernel)
theorem dTo_among_4 : decode (mB mTo_among) 4 = .ok (.iconst 0, 1) := op3 (by decide +kernel)
theorem dTo_among_5 : decode (mB mTo_among) 5 = .ok (.istore 4, 2) := op54 4 (by decide +kernel)
theorem dTo_among_7 : decode (mB mTo_among) 7 = .ok (.iload 4, 2) := op21 4 (by decide +kernel)
theorem dTo_among_9 : decode (mB mTo_among) 9 = .ok (.aload_n 1, 1) := op43 (by decide +kernel)
theorem dTo_among_10 : decode (mB mTo_among) 10 = .ok (.invokevirtual 56, 3) := op182 0 56 (by decide +kernel)
theorem dTo_among_13 : decode (mB mTo_among) 13 = .ok (.if_icmp .gt 50, 3) := op163 0 50 (by decide +kernel)
theorem dTo_among_16 : decode (mB mTo_among) 16 = .ok (.iload 4, 2) := op21 4 (by decide +kernel)
theorem dTo_among_18 : decode (mB mTo_among) 18 = .ok (.aload_n 1, 1) := op43 (by decide +kernel)
theorem dTo_among_19 : decode (mB mTo_among) 19 = .ok (.invokevirtual 56, 3) := op182 0 56 (by decide +kernel)
theorem dTo_among_22 : decode (mB mTo_among) 22 = .ok (.if_icmp .eq 14, 3) := op159 0 14 (by decide +kernel)
theorem dTo_among_25 : decode (mB mTo_among) 25 = .ok (.aload_n 1, 1) := op43 (by decide +kernel)
theorem dTo_among_26 : decode (mB mTo_among) 26 = .ok (.iload 4, 2) := op21 4 (by decide +kernel)
theorem dTo_among_28 : decode (mB mTo_among) 28 = .ok (.invokevirtual 62, 3) := op182 0 62 (by decide +kernel)
theorem dTo_among_31 : decode (mB mTo_among) 31 = .ok (.bipush 32, 2) := op16 32 (by decide +kernel)
theorem dTo_among_33 : decode (mB mTo_among) 33 = .ok (.if_icmp .ne 24, 3) := op160 0 24 (by decide +kernel)
theorem dTo_among_36 : decode (mB mTo_among) 36 = .ok (.aload_n 0, 1) := op42 (by decide +kernel)
theorem dTo_among_37 : decode (mB mTo_among) 37 = .ok (.aload_n 1, 1) := op43 (by decide +kernel)
theorem dTo_among_38 : decode (mB mTo_among) 38 = .ok (.iload_n 2, 1) := op28 (by decide +kernel)
theorem dTo_among_39 : decode (mB mTo_among) 39 = .ok (.iload 4, 2) := op21 4 (by decide +kernel)
theorem dTo_among_41 : decode (mB mTo_among) 41 = .ok (.invokevirtual 66, 3) := op182 0 66 (by decide +kernel)
theorem dTo_among_44 : decode (mB mTo_among) 44 = .ok (.ifCond .eq 5, 3) := op153 0 5 (by decide +kernel)
theorem dTo_among_47 : decode (mB mTo_among) 47 = .ok (.iload_n 3, 1) := op29 (by decide +kernel)
theorem dTo_among_48 : decode (mB mTo_among) 48 = .ok (.ireturn, 1) := op172 (by decide +kernel)
theorem dTo_among_49 : decode (mB mTo_among) 49 = .ok (.iload 4, 2) := op21 4 (by decide +kernel)
theorem dTo_among_51 : decode (mB mTo_among) 51 = .ok (.iconst 1, 1) := op4 (by decide +kernel)
theorem dTo_among_52 : decode (mB mTo_among) 52 = .ok (.iadd, 1) := op96 (by decide +kernel)
theorem dTo_among_53 : decode (mB mTo_among) 53 = .ok (.istore_n 2, 1) := op61 (by decide +kernel)
theorem dTo_among_54 : decode (mB mTo_among) 54 = .ok (.iinc 3 1, 3) := op132 3 1 (by decide +kernel)
theorem dTo_among_57 : decode (mB mTo_among) 57 = .ok (.iinc 4 1, 3) := op132 4 1 (by decide +kernel)
theorem dTo_among_60 : decode (mB mTo_among) 60 = .ok (.goto (-53), 3) := op167 255 203 (by decide +kernel)
theorem dTo_among_63 : decode (mB mTo_among) 63 = .ok (.iconst (-1), 1) := op2 (by decide +kernel)
theorem dTo_among_64 : decode (mB mTo_among) 64 = .ok (.ireturn, 1) := op172 (by decide +kernel)

theorem vTo_among_0 {M : Mm} {b : Nat × Nat} {K : Int32 → Mm → Prop} {v0 : Nat} {j1 : Nat}  (hj1 : j1 < 6)
    (h : X mTo_among 7 [(0, .ref v0), (1, .ref (64 * j1 + 63)), (2, .int 0), (3, .int 0), (4, .int 0)] [] M b (QI K)) : X mTo_among 0 [(0, .ref v0), (1, .ref (64 * j1 + 63))] [] M b (QI K) := by
  refine x_wf (fun hw => ?_)
  refine x_iconst (pc := 0) dTo_among_0 (v := 0) rfl ?_
  refine x_istore_n (pc := 1) dTo_among_1 rfl (by decide) (L' := [(2, .int 0), (0, .ref v0), (1, .ref (64 * j1 + 63))]) rfl ?_
  refine x_iconst (pc := 2) dTo_among_2 (v := 0) rfl ?_
  refine x_istore_n (pc := 3) dTo_among_3 rfl (by decide) (L' := [(3, .int 0), (2, .int 0), (0, .ref v0), (1, .ref (64 * j1 + 63))]) rfl ?_
  refine x_iconst (pc := 4) dTo_among_4 (v := 0) rfl ?_
  refine x_istore (pc := 5) dTo_among_5 (by decide) (L' := [(4, .int 0), (3, .int 0), (2, .int 0), (0, .ref v0), (1, .ref (64 * j1 + 63))]) rfl ?_
  exact x_loc [3, 4, 2, 1, 0] rfl h

theorem vTo_among_7 {M : Mm} {b : Nat × Nat} {K : Int32 → Mm → Prop} {v0 : Nat} {j1 : Nat} {v2 : Int32} {v3 : Int32} {v4 : Int32}  (hj1 : j1 < 6)
    (h : CI mJs_length [.ref (64 * j1 + 63)] M (fun rv N => X mTo_among 13 [(0, .ref v0), (1, .ref (64 * j1 + 63)), (2, .int v2), (3, .int v3), (4, .int v4)] [.int rv, .int v4] N b (QI K))) : X mTo_among 7 [(0, .ref v0), (1, .ref (64 * j1 + 63)), (2, .int v2), (3, .int v3), (4, .int v4)] [] M b (QI K) := by
  refine x_wf (fun hw => ?_)
  refine x_iload (pc := 7) dTo_among_7 (q := 4) rfl ?_
  refine x_aload_n (pc := 9) dTo_among_9 rfl (q := 1) rfl ?_
  exact x_invVs (pc := 10) (j := j1) (S := [.int v4]) (As := []) hj1 dTo_among_10 mlTo_56 hJs_length rfl rfl ⟨by decide, by decide⟩ ⟨Nat.zero_le _, Nat.zero_le _⟩ rfl (Nat.le_of_ble_eq_true rfl) (aftI (b' := b) ⟨Nat.le_refl _, Nat.le_refl _⟩ (fun rv N h => h) h)

theorem vTo_among_13 {M : Mm} {b : Nat × Nat} {K : Int32 → Mm → Prop} {v0 : Nat} {j1 : Nat} {v2 : Int32} {v3 : Int32} {v4 : Int32} {w0 : Int32} {w1 : Int32}  (hj1 : j1 < 6)
    (h : (w0 < w1 → (K (-1) M)) ∧ (¬ w0 < w1 → (CI mJs_length [.ref (64 * j1 + 63)] M (fun rv N => X mTo_among 22 [(0, .ref v0), (1, .ref (64 * j1 + 63)), (2, .int v2), (3, .int v3), (4, .int v4)] [.int rv, .int v4] N b (QI K))))) : X mTo_among 13 [(0, .ref v0), (1, .ref (64 * j1 + 63)), (2, .int v2), (3, .int v3), (4, .int v4)] [.int w0, .int w1] M b (QI K) := by
  refine x_wf (fun hw => ?_)
  obtain ⟨g1_0, g1_1⟩ := h
  refine x_icmp_gt (pc := 13) dTo_among_13 (t := 63) rfl (fun q1 => ?_) (fun q1 => ?_)
  · refine x_iconst (pc := 63) dTo_among_63 (v := (-1)) rfl ?_
    have h := g1_0 q1
    exact x_retQI (pc := 64) dTo_among_64 rfl rfl h
  · refine x_iload (pc := 16) dTo_among_16 (q := 4) rfl ?_
    refine x_aload_n (pc := 18) dTo_among_18 rfl (q := 1) rfl ?_
    have h := g1_1 q1
    exact x_invVs (pc := 19) (j := j1) (S := [.int v4]) (As := []) hj1 dTo_among_19 mlTo_56 hJs_length rfl rfl ⟨by decide, by decide⟩ ⟨Nat.zero_le _, Nat.zero_le _⟩ rfl (Nat.le_of_ble_eq_true rfl) (aftI (b' := b) ⟨Nat.le_refl _, Nat.le_refl _⟩ (fun rv N h => h) h)

theorem vTo_among_22 {M : Mm} {b : Nat × Nat} {K : Int32 → Mm → Prop} {v0 : Nat} {j1 : Nat} {v2 : Int32} {v3 : Int32} {v4 : Int32} {w0 : Int32} {w1 : Int32}  (hj1 : j1 < 6)
    (h : (w1 = w0 → (X mTo_among 36 [(0, .ref v0), (1, .ref (64 * j1 + 63)), (2, .int v2), (3, .int v3), (4, .int v4)] [] M b (QI K))) ∧ (¬ w1 = w0 → (CI mJs_charAt [.ref (64 * j1 + 63), .int v4] M (fun rv N => X mTo_among 31 [(0, .ref v0), (1, .ref (64 * j1 + 63)), (2, .int v2), (3, .int v3), (4, .int v4)] [.int rv] N b (QI K))))) : X mTo_among 22 [(0, .ref v0), (1, .ref (64 * j1 + 63)), (2, .int v2), (3, .int v3), (4, .int v4)] [.int w0, .int w1] M b (QI K) := by
  refine x_wf (fun hw => ?_)
  obtain ⟨g1_0, g1_1⟩ := h
  refine x_icmp_eq (pc := 22) dTo_among_22 (t := 36) rfl (fun q1 => ?_) (fun q1 => ?_)
  · have h := g1_0 q1
    exact h
  · refine x_aload_n (pc := 25) dTo_among_25 rfl (q := 1) rfl ?_
    refine x_iload (pc := 26) dTo_among_26 (q := 4) rfl ?_
    have h := g1_1 q1
    exact x_invVs (pc := 28) (j := j1) (S := []) (As := [.int v4]) hj1 dTo_among_28 mlTo_62 hJs_charAt rfl rfl ⟨by decide, by decide⟩ ⟨Nat.zero_le _, Nat.zero_le _⟩ rfl (Nat.le_of_ble_eq_true rfl) (aftI (b' := b) ⟨Nat.le_refl _, Nat.le_refl _⟩ (fun rv N h => h) h)

theorem vTo_among_31 {M : Mm} {b : Nat × Nat} {K : Int32 → Mm → Prop} {v0 : Nat} {j1 : Nat} {v2 : Int32} {v3 : Int32} {v4 : Int32} {w0 : Int32}  (hj1 : j1 < 6)
    (h : (¬ w0 = 32 → (X mTo_among 7 [(0, .ref v0), (1, .ref (64 * j1 + 63)), (2, .int v2), (3, .int v3), (4, .int (v4 + 1))] [] M b (QI K))) ∧ (w0 = 32 → (X mTo_among 36 [(0, .ref v0), (1, .ref (64 * j1 + 63)), (2, .int v2), (3, .int v3), (4, .int v4)] [] M b (QI K)))) : X mTo_among 31 [(0, .ref v0), (1, .ref (64 * j1 + 63)), (2, .int v2), (3, .int v3), (4, .int v4)] [.int w0] M b (QI K) := by
  refine x_wf (fun hw => ?_)
  refine x_bipush (pc := 31) dTo_among_31 (v := 32) rfl ?_
  obtain ⟨g1_0, g1_1⟩ := h
  refine x_icmp_ne (pc := 33) dTo_among_33 (t := 57) rfl (fun q1 => ?_) (fun q1 => ?_)
  · have h := g1_0 q1
    refine x_iinc (pc := 57) dTo_among_57 (q := 4) rfl (v := v4 + 1) rfl (by decide) (L' := [(4, .int (v4 + 1)), (0, .ref v0), (1, .ref (64 * j1 + 63)), (2, .int v2), (3, .int v3)]) rfl ?_
    refine x_goto (pc := 60) dTo_among_60 (t := 7) rfl ?_
    exact x_loc [1, 2, 3, 4, 0] rfl h
  · have h := g1_1 q1
    exact h

theorem vTo_among_36 {M : Mm} {b : Nat × Nat} {K : Int32 → Mm → Prop} {v0 : Nat} {j1 : Nat} {v2 : Int32} {v3 : Int32} {v4 : Int32} (kv0 : v0 % 64 = 7) (hj1 : j1 < 6)
    (h : CI mTo_isNamed [.ref v0, .ref (64 * j1 + 63), .int v2, .int v4] M (fun rv N => X mTo_among 44 [(0, .ref v0), (1, .ref (64 * j1 + 63)), (3, .int v3), (4, .int v4)] [.int rv] N b (QI K))) : X mTo_among 36 [(0, .ref v0), (1, .ref (64 * j1 + 63)), (2, .int v2), (3, .int v3), (4, .int v4)] [] M b (QI K) := by
  refine x_wf (fun hw => ?_)
  refine x_aload_n (pc := 36) dTo_among_36 rfl (q := 0) rfl ?_
  refine x_aload_n (pc := 37) dTo_among_37 rfl (q := 1) rfl ?_
  refine x_iload_n (pc := 38) dTo_among_38 rfl (q := 2) rfl ?_
  refine x_iload (pc := 39) dTo_among_39 (q := 4) rfl ?_
  exact x_invV (pc := 41) dTo_among_41 (c := 7) (S := []) (As := [.ref (64 * j1 + 63), .int v2, .int v4]) mlTo_66 hTo_isNamed rfl (by decide) rfl kv0 ⟨by decide, by decide⟩ ⟨Nat.zero_le _, Nat.zero_le _⟩ rfl (Nat.le_of_ble_eq_true rfl) (aftI (b' := b) ⟨Nat.le_refl _, Nat.le_refl _⟩ (fun rv N h => x_loc [0, 1, 3, 4] rfl h) h)

theorem vTo_among_44 {M : Mm} {b : Nat × Nat} {K : Int32 → Mm → Prop} {v0 : Nat} {j1 : Nat} {v3 : Int32} {v4 : Int32} {w0 : Int32}  (hj1 : j1 < 6)
    (h : (w0 = 0 → (X mTo_among 7 [(0, .ref v0), (1, .ref (64 * j1 + 63)), (2, .int (v4 + 1)), (3, .int (v3 + 1)), (4, .int (v4 + 1))] [] M b (QI K))) ∧ (¬ w0 = 0 → (K v3 M))) : X mTo_among 44 [(0, .ref v0), (1, .ref (64 * j1 + 63)), (3, .int v3), (4, .int v4)] [.int w0] M b (QI K) := by
  refine x_wf (fun hw => ?_)
  obtain ⟨g1_0, g1_1⟩ := h
  refine x_if_eq (pc := 44) dTo_among_44 (t := 49) rfl (fun q1 => ?_) (fun q1 => ?_)
  · refine x_iload (pc := 49) dTo_among_49 (q := 3) rfl ?_
    refine x_iconst (pc := 51) dTo_among_51 (v := 1) rfl ?_
    refine x_iadd (pc := 52) dTo_among_52 ?_
    have h := g1_0 q1
    refine x_istore_n (pc := 53) dTo_among_53 rfl (by decide) (L' := [(2, .int (v4 + 1)), (0, .ref v0), (1, .ref (64 * j1 + 63)), (3, .int v3), (4, .int v4)]) rfl ?_
    refine x_iinc (pc := 54) dTo_among_54 (q := 3) rfl (v := v3 + 1) rfl (by decide) (L' := [(3, .int (v3 + 1)), (2, .int (v4 + 1)), (0, .ref v0), (1, .ref (64 * j1 + 63)), (4, .int v4)]) rfl ?_
    refine x_iinc (pc := 57) dTo_among_57 (q := 4) rfl (v := v4 + 1) rfl (by decide) (L' := [(4, .int (v4 + 1)), (3, .int (v3 + 1)), (2, .int (v4 + 1)), (0, .ref v0), (1, .ref (64 * j1 + 63))]) rfl ?_
    refine x_goto (pc := 60) dTo_among_60 (t := 7) rfl ?_
    exact x_loc [3, 4, 2, 1, 0] rfl h
  · refine x_iload_n (pc := 47) dTo_among_47 rfl (q := 2) rfl ?_
    have h := g1_1 q1
    exact x_retQI (pc := 48) dTo_among_48 rfl rfl h

theorem dTo_isNamed_0 : decode (mB mTo_isNamed) 0 = .ok (.iload_n 3, 1) := op29 (by decide +kernel)
theorem dTo_isNamed_1 : decode (mB mTo_isNamed) 1 = .ok (.iload_n 2, 1) := op28 (by decide +kernel)
theorem dTo_isNamed_2 : decode (mB mTo_isNamed) 2 = .ok (.isub, 1) := op100 (by decide +kernel)
theorem dTo_isNamed_3 : decode (mB mTo_isNamed) 3 = .ok (.aload_n 0, 1) := op42 (by decide +kernel)
theorem dTo_isNamed_4 : decode (mB mTo_isNamed) 4 = .ok (.getfield 22, 3) := op180 0 22 (by decide +kernel)
theorem dTo_isNamed_7 : decode (mB mTo_isNamed) 7 = .ok (.aload_n 0, 1) := op42 (by decide +kernel)
theorem dTo_isNamed_8 : decode (mB mTo_isNamed) 8 = .ok (.getfield 19, 3) := op180 0 19 (by decide +kernel)
theorem dTo_isNamed_11 : decode (mB mTo_isNamed) 11 = .ok (.isub, 1) := op100 (by decide +kernel)
theorem dTo_isNamed_12 : decode (mB mTo_isNamed) 12 = .ok (.if_icmp .eq 5, 3) := op159 0 5 (by decide +kernel)
theorem dTo_isNamed_15 : decode (mB mTo_isNamed) 15 = .ok (.iconst 0, 1) := op3 (by decide +kernel)
theorem dTo_isNamed_16 : decode (mB mTo_isNamed) 16 = .ok (.ireturn, 1) := op172 (by decide +kernel)
theorem dTo_isNamed_17 : decode (mB mTo_isNamed) 17 = .ok (.iload_n 2, 1) := op28 (by decide +kernel)
theorem dTo_isNamed_18 : decode (mB mTo_isNamed) 18 = .ok (.istore 4, 2) := op54 4 (by decide +kernel)
theorem dTo_isNamed_20 : decode (mB mTo_isNamed) 20 = .ok (.iload 4, 2) := op21 4 (by decide +kernel)
theorem dTo_isNamed_22 : decode (mB mTo_isNamed) 22 = .ok (.iload_n 3, 1) := op29 (by decide +kernel)
theorem dTo_isNamed_23 : decode (mB mTo_isNamed) 23 = .ok (.if_icmp .ge 45, 3) := op162 0 45 (by decide +kernel)
theorem dTo_isNamed_26 : decode (mB mTo_isNamed) 26 = .ok (.iload 4, 2) := op21 4 (by decide +kernel)
theorem dTo_isNamed_28 : decode (mB mTo_isNamed) 28 = .ok (.aload_n 1, 1) := op43 (by decide +kernel)
theorem dTo_isNamed_29 : decode (mB mTo_isNamed) 29 = .ok (.invokevirtual 56, 3) := op182 0 56 (by decide +kernel)
theorem dTo_isNamed_32 : decode (mB mTo_isNamed) 32 = .ok (.if_icmp .ge 36, 3) := op162 0 36 (by decide +kernel)
theorem dTo_isNamed_35 : decode (mB mTo_isNamed) 35 = .ok (.aload_n 1, 1) := op43 (by decide +kernel)
theorem dTo_isNamed_36 : decode (mB mTo_isNamed) 36 = .ok (.iload 4, 2) := op21 4 (by decide +kernel)
theorem dTo_isNamed_38 : decode (mB mTo_isNamed) 38 = .ok (.invokevirtual 62, 3) := op182 0 62 (by decide +kernel)
theorem dTo_isNamed_41 : decode (mB mTo_isNamed) 41 = .ok (.aload_n 0, 1) := op42 (by decide +kernel)
theorem dTo_isNamed_42 : decode (mB mTo_isNamed) 42 = .ok (.getfield 9, 3) := op180 0 9 (by decide +kernel)
theorem dTo_isNamed_45 : decode (mB mTo_isNamed) 45 = .ok (.aload_n 0, 1) := op42 (by decide +kernel)
theorem dTo_isNamed_46 : decode (mB mTo_isNamed) 46 = .ok (.getfield 19, 3) := op180 0 19 (by decide +kernel)
theorem dTo_isNamed_49 : decode (mB mTo_isNamed) 49 = .ok (.iload 4, 2) := op21 4 (by decide +kernel)
theorem dTo_isNamed_51 : decode (mB mTo_isNamed) 51 = .ok (.iadd, 1) := op96 (by decide +kernel)
theorem dTo_isNamed_52 : decode (mB mTo_isNamed) 52 = .ok (.iload_n 2, 1) := op28 (by decide +kernel)
theorem dTo_isNamed_53 : decode (mB mTo_isNamed) 53 = .ok (.isub, 1) := op100 (by decide +kernel)
theorem dTo_isNamed_54 : decode (mB mTo_isNamed) 54 = .ok (.invokevirtual 41, 3) := op182 0 41 (by decide +kernel)
theorem dTo_isNamed_57 : decode (mB mTo_isNamed) 57 = .ok (.if_icmp .eq 5, 3) := op159 0 5 (by decide +kernel)
theorem dTo_isNamed_60 : decode (mB mTo_isNamed) 60 = .ok (.iconst 0, 1) := op3 (by decide +kernel)
theorem dTo_isNamed_61 : decode (mB mTo_isNamed) 61 = .ok (.ireturn, 1) := op172 (by decide +kernel)
theorem dTo_isNamed_62 : decode (mB mTo_isNamed) 62 = .ok (.iinc 4 1, 3) := op132 4 1 (by decide +kernel)
theorem dTo_isNamed_65 : decode (mB mTo_isNamed) 65 = .ok (.goto (-45), 3) := op167 255 211 (by decide +kernel)
theorem dTo_isNamed_68 : decode (mB mTo_isNamed) 68 = .ok (.iconst 1, 1) := op4 (by decide +kernel)
theorem dTo_isNamed_69 : decode (mB mTo_isNamed) 69 = .ok (.ireturn, 1) := op172 (by decide +kernel)

theorem vTo_isNamed_0 {M : Mm} {b : Nat × Nat} {K : Int32 → Mm → Prop} {v0 : Nat} {j1 : Nat} {v2 : Int32} {v3 : Int32} (kv0 : v0 % 64 = 7) (hj1 : j1 < 6)
    (h : ((v3 - v2) = ((gi M v0 3) - (gi M v0 2)) → (X mTo_isNamed 20 [(0, .ref v0), (1, .ref (64 * j1 + 63)), (2, .int v2), (3, .int v3), (4, .int v2)] [] M b (QI K))) ∧ (¬ (v3 - v2) = ((gi M v0 3) - (gi M v0 2)) → (K 0 M))) : X mTo_isNamed 0 [(0, .ref v0), (1, .ref (64 * j1 + 63)), (2, .int v2), (3, .int v3)] [] M b (QI K) := by
  refine x_wf (fun hw => ?_)
  refine x_iload_n (pc := 0) dTo_isNamed_0 rfl (q := 3) rfl ?_
  refine x_iload_n (pc := 1) dTo_isNamed_1 rfl (q := 2) rfl ?_
  refine x_isub (pc := 2) dTo_isNamed_2 ?_
  refine x_aload_n (pc := 3) dTo_isNamed_3 rfl (q := 0) rfl ?_
  refine x_getI (pc := 4) dTo_isNamed_4 kv0 flTo_22 rfl ?_
  refine x_aload_n (pc := 7) dTo_isNamed_7 rfl (q := 0) rfl ?_
  refine x_getI (pc := 8) dTo_isNamed_8 kv0 flTo_19 rfl ?_
  refine x_isub (pc := 11) dTo_isNamed_11 ?_
  obtain ⟨g1_0, g1_1⟩ := h
  refine x_icmp_eq (pc := 12) dTo_isNamed_12 (t := 17) rfl (fun q1 => ?_) (fun q1 => ?_)
  · refine x_iload_n (pc := 17) dTo_isNamed_17 rfl (q := 2) rfl ?_
    have h := g1_0 q1
    refine x_istore (pc := 18) dTo_isNamed_18 (by decide) (L' := [(4, .int v2), (0, .ref v0), (1, .ref (64 * j1 + 63)), (2, .int v2), (3, .int v3)]) rfl ?_
    exact x_loc [1, 2, 3, 4, 0] rfl h
  · refine x_iconst (pc := 15) dTo_isNamed_15 (v := 0) rfl ?_
    have h := g1_1 q1
    exact x_retQI (pc := 16) dTo_isNamed_16 rfl (by (repeat' split) <;> rfl) h

theorem vTo_isNamed_20 {M : Mm} {b : Nat × Nat} {K : Int32 → Mm → Prop} {v0 : Nat} {j1 : Nat} {v2 : Int32} {v3 : Int32} {v4 : Int32}  (hj1 : j1 < 6)
    (h : (v3 ≤ v4 → (K 1 M)) ∧ (¬ v3 ≤ v4 → (CI mJs_length [.ref (64 * j1 + 63)] M (fun rv N => X mTo_isNamed 32 [(0, .ref v0), (1, .ref (64 * j1 + 63)), (2, .int v2), (3, .int v3), (4, .int v4)] [.int rv, .int v4] N b (QI K))))) : X mTo_isNamed 20 [(0, .ref v0), (1, .ref (64 * j1 + 63)), (2, .int v2), (3, .int v3), (4, .int v4)] [] M b (QI K) := by
  refine x_wf (fun hw => ?_)
  refine x_iload (pc := 20) dTo_isNamed_20 (q := 4) rfl ?_
  refine x_iload_n (pc := 22) dTo_isNamed_22 rfl (q := 3) rfl ?_
  obtain ⟨g1_0, g1_1⟩ := h
  refine x_icmp_ge (pc := 23) dTo_isNamed_23 (t := 68) rfl (fun q1 => ?_) (fun q1 => ?_)
  · have h := g1_0 q1
    refine x_iconst (pc := 68) dTo_isNamed_68 (v := 1) rfl ?_
    exact x_retQI (pc := 69) dTo_isNamed_69 rfl (by (repeat' split) <;> rfl) h
  · refine x_iload (pc := 26) dTo_isNamed_26 (q := 4) rfl ?_
    refine x_aload_n (pc := 28) dTo_isNamed_28 rfl (q := 1) rfl ?_
    have h := g1_1 q1
    exact x_invVs (pc := 29) (j := j1) (S := [.int v4]) (As := []) hj1 dTo_isNamed_29 mlTo_56 hJs_length rfl rfl ⟨by decide, by decide⟩ ⟨Nat.zero_le _, Nat.zero_le _⟩ rfl (Nat.le_of_ble_eq_true rfl) (aftI (b' := b) ⟨Nat.le_refl _, Nat.le_refl _⟩ (fun rv N h => h) h)

theorem vTo_isNamed_32 {M : Mm} {b : Nat × Nat} {K : Int32 → Mm → Prop} {v0 : Nat} {j1 : Nat} {v2 : Int32} {v3 : Int32} {v4 : Int32} {w0 : Int32} {w1 : Int32}  (hj1 : j1 < 6)
    (h : (w0 ≤ w1 → (K 1 M)) ∧ (¬ w0 ≤ w1 → (CI mJs_charAt [.ref (64 * j1 + 63), .int v4] M (fun rv N => X mTo_isNamed 41 [(0, .ref v0), (1, .ref (64 * j1 + 63)), (2, .int v2), (3, .int v3), (4, .int v4)] [.int rv] N b (QI K))))) : X mTo_isNamed 32 [(0, .ref v0), (1, .ref (64 * j1 + 63)), (2, .int v2), (3, .int v3), (4, .int v4)] [.int w0, .int w1] M b (QI K) := by
  refine x_wf (fun hw => ?_)
  obtain ⟨g1_0, g1_1⟩ := h
  refine x_icmp_ge (pc := 32) dTo_isNamed_32 (t := 68) rfl (fun q1 => ?_) (fun q1 => ?_)
  · have h := g1_0 q1
    refine x_iconst (pc := 68) dTo_isNamed_68 (v := 1) rfl ?_
    exact x_retQI (pc := 69) dTo_isNamed_69 rfl (by (repeat' split) <;> rfl) h
  · refine x_aload_n (pc := 35) dTo_isNamed_35 rfl (q := 1) rfl ?_
    refine x_iload (pc := 36) dTo_isNamed_36 (q := 4) rfl ?_
    have h := g1_1 q1
    exact x_invVs (pc := 38) (j := j1) (S := []) (As := [.int v4]) hj1 dTo_isNamed_38 mlTo_62 hJs_charAt rfl rfl ⟨by decide, by decide⟩ ⟨Nat.zero_le _, Nat.zero_le _⟩ rfl (Nat.le_of_ble_eq_true rfl) (aftI (b' := b) ⟨Nat.le_refl _, Nat.le_refl _⟩ (fun rv N h => h) h)

theorem vTo_isNamed_41 {M : Mm} {b : Nat × Nat} {K : Int32 → Mm → Prop} {v0 : Nat} {j1 : Nat} {v2 : Int32} {v3 : Int32} {v4 : Int32} {w0 : Int32} {r1 : Nat} (kv0 : v0 % 64 = 7) (hj1 : j1 < 6) (e1 : gr M v0 0 = some r1)
    (h : CI mTa_byteAt [.ref r1, .int (((gi M v0 2) + v4) - v2)] M (fun rv N => X mTo_isNamed 57 [(0, .ref v0), (1, .ref (64 * j1 + 63)), (2, .int v2), (3, .int v3), (4, .int v4)] [.int rv, .int w0] N b (QI K))) : X mTo_isNamed 41 [(0, .ref v0), (1, .ref (64 * j1 + 63)), (2, .int v2), (3, .int v3), (4, .int v4)] [.int w0] M b (QI K) := by
  refine x_wf (fun hw => ?_)
  refine x_aload_n (pc := 41) dTo_isNamed_41 rfl (q := 0) rfl ?_
  refine x_getR (pc := 42) dTo_isNamed_42 kv0 flTo_9 rfl e1 ?_
  refine x_aload_n (pc := 45) dTo_isNamed_45 rfl (q := 0) rfl ?_
  refine x_getI (pc := 46) dTo_isNamed_46 kv0 flTo_19 rfl ?_
  refine x_iload (pc := 49) dTo_isNamed_49 (q := 4) rfl ?_
  refine x_iadd (pc := 51) dTo_isNamed_51 ?_
  refine x_iload_n (pc := 52) dTo_isNamed_52 rfl (q := 2) rfl ?_
  refine x_isub (pc := 53) dTo_isNamed_53 ?_
  exact x_invV (pc := 54) dTo_isNamed_54 (c := 6) (S := [.int w0]) (As := [.int (((gi M v0 2) + v4) - v2)]) mlTo_41 hTa_byteAt rfl (by decide) rfl (wfk hw e1 kv0) ⟨by decide, by decide⟩ ⟨Nat.zero_le _, Nat.zero_le _⟩ rfl (Nat.le_of_ble_eq_true rfl) (aftI (b' := b) ⟨Nat.le_refl _, Nat.le_refl _⟩ (fun rv N h => h) h)

theorem vTo_isNamed_57 {M : Mm} {b : Nat × Nat} {K : Int32 → Mm → Prop} {v0 : Nat} {j1 : Nat} {v2 : Int32} {v3 : Int32} {v4 : Int32} {w0 : Int32} {w1 : Int32}  (hj1 : j1 < 6)
    (h : (w1 = w0 → (X mTo_isNamed 20 [(0, .ref v0), (1, .ref (64 * j1 + 63)), (2, .int v2), (3, .int v3), (4, .int (v4 + 1))] [] M b (QI K))) ∧ (¬ w1 = w0 → (K 0 M))) : X mTo_isNamed 57 [(0, .ref v0), (1, .ref (64 * j1 + 63)), (2, .int v2), (3, .int v3), (4, .int v4)] [.int w0, .int w1] M b (QI K) := by
  refine x_wf (fun hw => ?_)
  obtain ⟨g1_0, g1_1⟩ := h
  refine x_icmp_eq (pc := 57) dTo_isNamed_57 (t := 62) rfl (fun q1 => ?_) (fun q1 => ?_)
  · have h := g1_0 q1
    refine x_iinc (pc := 62) dTo_isNamed_62 (q := 4) rfl (v := v4 + 1) rfl (by decide) (L' := [(4, .int (v4 + 1)), (0, .ref v0), (1, .ref (64 * j1 + 63)), (2, .int v2), (3, .int v3)]) rfl ?_
    refine x_goto (pc := 65) dTo_isNamed_65 (t := 20) rfl ?_
    exact x_loc [1, 2, 3, 4, 0] rfl h
  · refine x_iconst (pc := 60) dTo_isNamed_60 (v := 0) rfl ?_
    have h := g1_1 q1
    exact x_retQI (pc := 61) dTo_isNamed_61 rfl (by (repeat' split) <;> rfl) h

theorem dWo_begin_0 : decode (mB mWo_begin) 0 = .ok (.aload_n 0, 1) := op42 (by decide +kernel)
theorem dWo_begin_1 : decode (mB mWo_begin) 1 = .ok (.iload_n 1, 1) := op27 (by decide +kernel)
theorem dWo_begin_2 : decode (mB mWo_begin) 2 = .ok (.putfield 9, 3) := op181 0 9 (by decide +kernel)
theorem dWo_begin_5 : decode (mB mWo_begin) 5 = .ok (.aload_n 0, 1) := op42 (by decide +kernel)
theorem dWo_begin_6 : decode (mB mWo_begin) 6 = .ok (.bipush (-4), 2) := op16 252 (by decide +kernel)
theorem dWo_begin_8 : decode (mB mWo_begin) 8 = .ok (.putfield 15, 3) := op181 0 15 (by decide +kernel)
theorem dWo_begin_11 : decode (mB mWo_begin) 11 = .ok (.aload_n 0, 1) := op42 (by decide +kernel)
theorem dWo_begin_12 : decode (mB mWo_begin) 12 = .ok (.iload_n 2, 1) := op28 (by decide +kernel)
theorem dWo_begin_13 : decode (mB mWo_begin) 13 = .ok (.putfield 18, 3) := op181 0 18 (by decide +kernel)
theorem dWo_begin_16 : decode (mB mWo_begin) 16 = .ok (.aload_n 0, 1) := op42 (by decide +kernel)
theorem dWo_begin_17 : decode (mB mWo_begin) 17 = .ok (.iconst 0, 1) := op3 (by decide +kernel)
theorem dWo_begin_18 : decode (mB mWo_begin) 18 = .ok (.putfield 21, 3) := op181 0 21 (by decide +kernel)
theorem dWo_begin_21 : decode (mB mWo_begin) 21 = .ok (.aload_n 0, 1) := op42 (by decide +kernel)
theorem dWo_begin_22 : decode (mB mWo_begin) 22 = .ok (.iconst 0, 1) := op3 (by decide +kernel)
theorem dWo_begin_23 : decode (mB mWo_begin) 23 = .ok (.putfield 24, 3) := op181 0 24 (by decide +kernel)
theorem dWo_begin_26 : decode (mB mWo_begin) 26 = .ok (.aload_n 0, 1) := op42 (by decide +kernel)
theorem dWo_begin_27 : decode (mB mWo_begin) 27 = .ok (.bipush (-4), 2) := op16 252 (by decide +kernel)
theorem dWo_begin_29 : decode (mB mWo_begin) 29 = .ok (.putfield 27, 3) := op181 0 27 (by decide +kernel)
theorem dWo_begin_32 : decode (mB mWo_begin) 32 = .ok (.aload_n 0, 1) := op42 (by decide +kernel)
theorem dWo_begin_33 : decode (mB mWo_begin) 33 = .ok (.bipush (-4), 2) := op16 252 (by decide +kernel)
theorem dWo_begin_35 : decode (mB mWo_begin) 35 = .ok (.putfield 30, 3) := op181 0 30 (by decide +kernel)
theorem dWo_begin_38 : decode (mB mWo_begin) 38 = .ok (.aload_n 0, 1) := op42 (by decide +kernel)
theorem dWo_begin_39 : decode (mB mWo_begin) 39 = .ok (.iconst 0, 1) := op3 (by decide +kernel)
theorem dWo_begin_40 : decode (mB mWo_begin) 40 = .ok (.putfield 33, 3) := op181 0 33 (by decide +kernel)
theorem dWo_begin_43 : decode (mB mWo_begin) 43 = .ok (.aload_n 0, 1) := op42 (by decide +kernel)
theorem dWo_begin_44 : decode (mB mWo_begin) 44 = .ok (.bipush (-4), 2) := op16 252 (by decide +kernel)
theorem dWo_begin_46 : decode (mB mWo_begin) 46 = .ok (.putfield 36, 3) := op181 0 36 (by decide +kernel)
theorem dWo_begin_49 : decode (mB mWo_begin) 49 = .ok (.aload_n 0, 1) := op42 (by decide +kernel)
theorem dWo_begin_50 : decode (mB mWo_begin) 50 = .ok (.iconst 0, 1) := op3 (by decide +kernel)
theorem dWo_begin_51 : decode (mB mWo_begin) 51 = .ok (.putfield 39, 3) := op181 0 39 (by decide +kernel)
theorem dWo_begin_54 : decode (mB mWo_begin) 54 = .ok (.aload_n 0, 1) := op42 (by decide +kernel)
theorem dWo_begin_55 : decode (mB mWo_begin) 55 = .ok (.iconst 0, 1) := op3 (by decide +kernel)
theorem dWo_begin_56 : decode (mB mWo_begin) 56 = .ok (.putfield 42, 3) := op181 0 42 (by decide +kernel)
theorem dWo_begin_59 : decode (mB mWo_begin) 59 = .ok (.return_, 1) := op177 (by decide +kernel)

theorem vWo_begin_0 {M : Mm} {b : Nat × Nat} {K : Mm → Prop} {v0 : Nat} {v1 : Int32} {v2 : Int32} (kv0 : v0 % 64 = 9) 
    (h : K (si (si (si (si (si (si (si (si (si (si (si M v0 0 v1) v0 1 (-4)) v0 2 v2) v0 3 0) v0 4 0) v0 5 (-4)) v0 6 (-4)) v0 7 0) v0 8 (-4)) v0 9 0) v0 10 0)) : X mWo_begin 0 [(0, .ref v0), (1, .int v1), (2, .int v2)] [] M b (QV K) := by
  refine x_wf (fun hw => ?_)
  refine x_aload_n (pc := 0) dWo_begin_0 rfl (q := 0) rfl ?_
  refine x_iload_n (pc := 1) dWo_begin_1 rfl (q := 1) rfl ?_
  refine x_putI (pc := 2) dWo_begin_2 kv0 flWo_9 rfl rfl ?_
  refine x_aload_n (pc := 5) dWo_begin_5 rfl (q := 0) rfl ?_
  refine x_bipush (pc := 6) dWo_begin_6 (v := (-4)) rfl ?_
  refine x_putI (pc := 8) dWo_begin_8 kv0 flWo_15 rfl rfl ?_
  refine x_aload_n (pc := 11) dWo_begin_11 rfl (q := 0) rfl ?_
  refine x_iload_n (pc := 12) dWo_begin_12 rfl (q := 2) rfl ?_
  refine x_putI (pc := 13) dWo_begin_13 kv0 flWo_18 rfl rfl ?_
  refine x_aload_n (pc := 16) dWo_begin_16 rfl (q := 0) rfl ?_
  refine x_iconst (pc := 17) dWo_begin_17 (v := 0) rfl ?_
  refine x_putI (pc := 18) dWo_begin_18 kv0 flWo_21 rfl rfl ?_
  refine x_aload_n (pc := 21) dWo_begin_21 rfl (q := 0) rfl ?_
  refine x_iconst (pc := 22) dWo_begin_22 (v := 0) rfl ?_
  refine x_putI (pc := 23) dWo_begin_23 kv0 flWo_24 rfl rfl ?_
  refine x_aload_n (pc := 26) dWo_begin_26 rfl (q := 0) rfl ?_
  refine x_bipush (pc := 27) dWo_begin_27 (v := (-4)) rfl ?_
  refine x_putI (pc := 29) dWo_begin_29 kv0 flWo_27 rfl rfl ?_
  refine x_aload_n (pc := 32) dWo_begin_32 rfl (q := 0) rfl ?_
  refine x_bipush (pc := 33) dWo_begin_33 (v := (-4)) rfl ?_
  refine x_putI (pc := 35) dWo_begin_35 kv0 flWo_30 rfl rfl ?_
  refine x_aload_n (pc := 38) dWo_begin_38 rfl (q := 0) rfl ?_
  refine x_iconst (pc := 39) dWo_begin_39 (v := 0) rfl ?_
  refine x_putI (pc := 40) dWo_begin_40 kv0 flWo_33 rfl rfl ?_
  refine x_aload_n (pc := 43) dWo_begin_43 rfl (q := 0) rfl ?_
  refine x_bipush (pc := 44) dWo_begin_44 (v := (-4)) rfl ?_
  refine x_putI (pc := 46) dWo_begin_46 kv0 flWo_36 rfl rfl ?_
  refine x_aload_n (pc := 49) dWo_begin_49 rfl (q := 0) rfl ?_
  refine x_iconst (pc := 50) dWo_begin_50 (v := 0) rfl ?_
  refine x_putI (pc := 51) dWo_begin_51 kv0 flWo_39 rfl rfl ?_
  refine x_aload_n (pc := 54) dWo_begin_54 rfl (q := 0) rfl ?_
  refine x_iconst (pc := 55) dWo_begin_55 (v := 0) rfl ?_
  refine x_putI (pc := 56) dWo_begin_56 kv0 flWo_42 rfl rfl ?_
  exact x_retQV (pc := 59) dWo_begin_59 rfl h

theorem dTo_takeNumber_0 : decode (mB mTo_takeNumber) 0 = .ok (.aload_n 0, 1) := op42 (by decide +kernel)
theorem dTo_takeNumber_1 : decode (mB mTo_takeNumber) 1 = .ok (.invokevirtual 74, 3) := op182 0 74 (by decide +kernel)
theorem dTo_takeNumber_4 : decode (mB mTo_takeNumber) 4 = .ok (.aload_n 0, 1) := op42 (by decide +kernel)
theorem dTo_takeNumber_5 : decode (mB mTo_takeNumber) 5 = .ok (.getfield 15, 3) := op180 0 15 (by decide +kernel)
theorem dTo_takeNumber_8 : decode (mB mTo_takeNumber) 8 = .ok (.iconst 3, 1) := op6 (by decide +kernel)
theorem dTo_takeNumber_9 : decode (mB mTo_takeNumber) 9 = .ok (.if_icmp .eq 9, 3) := op159 0 9 (by decide +kernel)
theorem dTo_takeNumber_12 : decode (mB mTo_takeNumber) 12 = .ok (.aload_n 0, 1) := op42 (by decide +kernel)
theorem dTo_takeNumber_13 : decode (mB mTo_takeNumber) 13 = .ok (.iconst 2, 1) := op5 (by decide +kernel)
theorem dTo_takeNumber_14 : decode (mB mTo_takeNumber) 14 = .ok (.invokevirtual 31, 3) := op182 0 31 (by decide +kernel)
theorem dTo_takeNumber_17 : decode (mB mTo_takeNumber) 17 = .ok (.ireturn, 1) := op172 (by decide +kernel)
theorem dTo_takeNumber_18 : decode (mB mTo_takeNumber) 18 = .ok (.aload_n 0, 1) := op42 (by decide +kernel)
theorem dTo_takeNumber_19 : decode (mB mTo_takeNumber) 19 = .ok (.getfield 53, 3) := op180 0 53 (by decide +kernel)
theorem dTo_takeNumber_22 : decode (mB mTo_takeNumber) 22 = .ok (.iload_n 1, 1) := op27 (by decide +kernel)
theorem dTo_takeNumber_23 : decode (mB mTo_takeNumber) 23 = .ok (.if_icmp .le 11, 3) := op164 0 11 (by decide +kernel)
theorem dTo_takeNumber_26 : decode (mB mTo_takeNumber) 26 = .ok (.aload_n 0, 1) := op42 (by decide +kernel)
theorem dTo_takeNumber_27 : decode (mB mTo_takeNumber) 27 = .ok (.iconst 3, 1) := op6 (by decide +kernel)
theorem dTo_takeNumber_28 : decode (mB mTo_takeNumber) 28 = .ok (.invokevirtual 31, 3) := op182 0 31 (by decide +kernel)
theorem dTo_takeNumber_31 : decode (mB mTo_takeNumber) 31 = .ok (.goto 7, 3) := op167 0 7 (by decide +kernel)
theorem dTo_takeNumber_34 : decode (mB mTo_takeNumber) 34 = .ok (.aload_n 0, 1) := op42 (by decide +kernel)
theorem dTo_takeNumber_35 : decode (mB mTo_takeNumber) 35 = .ok (.getfield 53, 3) := op180 0 53 (by decide +kernel)
theorem dTo_takeNumber_38 : decode (mB mTo_takeNumber) 38 = .ok (.ireturn, 1) := op172 (by decide +kernel)

theorem vTo_takeNumber_0 {M : Mm} {b : Nat × Nat} {K : Int32 → Mm → Prop} {v0 : Nat} {v1 : Int32} (kv0 : v0 % 64 = 7) 
    (h : CV mTo_advance [.ref v0] M (fun N => X mTo_takeNumber 4 [(0, .ref v0), (1, .int v1)] [] N b (QI K))) : X mTo_takeNumber 0 [(0, .ref v0), (1, .int v1)] [] M b (QI K) := by
  refine x_wf (fun hw => ?_)
  refine x_aload_n (pc := 0) dTo_takeNumber_0 rfl (q := 0) rfl ?_
  exact x_invV (pc := 1) dTo_takeNumber_1 (c := 7) (S := []) (As := []) mlTo_74 hTo_advance rfl (by decide) rfl kv0 ⟨by decide, by decide⟩ ⟨Nat.zero_le _, Nat.zero_le _⟩ rfl (Nat.le_of_ble_eq_true rfl) (aftV (b' := b) ⟨Nat.le_refl _, Nat.le_refl _⟩ (fun N h => h) h)

theorem vTo_takeNumber_4 {M : Mm} {b : Nat × Nat} {K : Int32 → Mm → Prop} {v0 : Nat} {v1 : Int32} (kv0 : v0 % 64 = 7) 
    (h : (((gi M v0 1) = 3 ∧ (gi M v0 4) ≤ v1) → (K (gi M v0 4) M)) ∧ (((gi M v0 1) = 3 ∧ ¬ (gi M v0 4) ≤ v1) → (CI mTo_fail [.ref v0, .int 3] M (fun rv N => X mTo_takeNumber 31 [] [.int rv] N b (QI K)))) ∧ (¬ (gi M v0 1) = 3 → (CI mTo_fail [.ref v0, .int 2] M (fun rv N => X mTo_takeNumber 17 [] [.int rv] N b (QI K))))) : X mTo_takeNumber 4 [(0, .ref v0), (1, .int v1)] [] M b (QI K) := by
  refine x_wf (fun hw => ?_)
  refine x_aload_n (pc := 4) dTo_takeNumber_4 rfl (q := 0) rfl ?_
  refine x_getI (pc := 5) dTo_takeNumber_5 kv0 flTo_15 rfl ?_
  refine x_iconst (pc := 8) dTo_takeNumber_8 (v := 3) rfl ?_
  obtain ⟨g1_0, g1_1, g1_2⟩ := h
  refine x_icmp_eq (pc := 9) dTo_takeNumber_9 (t := 18) rfl (fun q1 => ?_) (fun q1 => ?_)
  · refine x_aload_n (pc := 18) dTo_takeNumber_18 rfl (q := 0) rfl ?_
    refine x_getI (pc := 19) dTo_takeNumber_19 kv0 flTo_53 rfl ?_
    refine x_iload_n (pc := 22) dTo_takeNumber_22 rfl (q := 1) rfl ?_
    refine x_icmp_le (pc := 23) dTo_takeNumber_23 (t := 34) rfl (fun q2 => ?_) (fun q2 => ?_)
    · refine x_aload_n (pc := 34) dTo_takeNumber_34 rfl (q := 0) rfl ?_
      refine x_getI (pc := 35) dTo_takeNumber_35 kv0 flTo_53 rfl ?_
      have h := g1_0 ⟨q1, q2⟩
      exact x_retQI (pc := 38) dTo_takeNumber_38 rfl rfl h
    · refine x_aload_n (pc := 26) dTo_takeNumber_26 rfl (q := 0) rfl ?_
      refine x_iconst (pc := 27) dTo_takeNumber_27 (v := 3) rfl ?_
      have h := g1_1 ⟨q1, q2⟩
      exact x_invV (pc := 28) dTo_takeNumber_28 (c := 7) (S := []) (As := [.int 3]) mlTo_31 hTo_fail rfl (by decide) rfl kv0 ⟨by decide, by decide⟩ ⟨Nat.zero_le _, Nat.zero_le _⟩ rfl (Nat.le_of_ble_eq_true rfl) (aftI (b' := b) ⟨Nat.le_refl _, Nat.le_refl _⟩ (fun rv N h => x_loc [] rfl h) h)
  · refine x_aload_n (pc := 12) dTo_takeNumber_12 rfl (q := 0) rfl ?_
    refine x_iconst (pc := 13) dTo_takeNumber_13 (v := 2) rfl ?_
    have h := g1_2 q1
    exact x_invV (pc := 14) dTo_takeNumber_14 (c := 7) (S := []) (As := [.int 2]) mlTo_31 hTo_fail rfl (by decide) rfl kv0 ⟨by decide, by decide⟩ ⟨Nat.zero_le _, Nat.zero_le _⟩ rfl (Nat.le_of_ble_eq_true rfl) (aftI (b' := b) ⟨Nat.le_refl _, Nat.le_refl _⟩ (fun rv N h => x_loc [] rfl h) h)

theorem vTo_takeNumber_17 {M : Mm} {b : Nat × Nat} {K : Int32 → Mm → Prop} {w0 : Int32}  
    (h : K w0 M) : X mTo_takeNumber 17 [] [.int w0] M b (QI K) := by
  refine x_wf (fun hw => ?_)
  exact x_retQI (pc := 17) dTo_takeNumber_17 rfl rfl h

theorem vTo_takeNumber_31 {M : Mm} {b : Nat × Nat} {K : Int32 → Mm → Prop} {w0 : Int32}  
    (h : K w0 M) : X mTo_takeNumber 31 [] [.int w0] M b (QI K) := by
  refine x_wf (fun hw => ?_)
  refine x_goto (pc := 31) dTo_takeNumber_31 (t := 38) rfl ?_
  exact x_retQI (pc := 38) dTo_takeNumber_38 rfl rfl h

theorem dTo_takeDoctor_0 : decode (mB mTo_takeDoctor) 0 = .ok (.aload_n 0, 1) := op42 (by decide +kernel)
theorem dTo_takeDoctor_1 : decode (mB mTo_takeDoctor) 1 = .ok (.invokevirtual 80, 3) := op182 0 80 (by decide +kernel)
theorem dTo_takeDoctor_4 : decode (mB mTo_takeDoctor) 4 = .ok (.istore_n 1, 1) := op60 (by decide +kernel)
theorem dTo_takeDoctor_5 : decode (mB mTo_takeDoctor) 5 = .ok (.iload_n 1, 1) := op27 (by decide +kernel)
theorem dTo_takeDoctor_6 : decode (mB mTo_takeDoctor) 6 = .ok (.ifCond .ge 5, 3) := op156 0 5 (by decide +kernel)
theorem dTo_takeDoctor_9 : decode (mB mTo_takeDoctor) 9 = .ok (.iconst (-1), 1) := op2 (by decide +kernel)
theorem dTo_takeDoctor_10 : decode (mB mTo_takeDoctor) 10 = .ok (.ireturn, 1) := op172 (by decide +kernel)
theorem dTo_takeDoctor_11 : decode (mB mTo_takeDoctor) 11 = .ok (.iload_n 1, 1) := op27 (by decide +kernel)
theorem dTo_takeDoctor_12 : decode (mB mTo_takeDoctor) 12 = .ok (.invokestatic 83, 3) := op184 0 83 (by decide +kernel)
theorem dTo_takeDoctor_15 : decode (mB mTo_takeDoctor) 15 = .ok (.iconst 1, 1) := op4 (by decide +kernel)
theorem dTo_takeDoctor_16 : decode (mB mTo_takeDoctor) 16 = .ok (.if_icmp .ne 10, 3) := op160 0 10 (by decide +kernel)
theorem dTo_takeDoctor_19 : decode (mB mTo_takeDoctor) 19 = .ok (.iload_n 1, 1) := op27 (by decide +kernel)
theorem dTo_takeDoctor_20 : decode (mB mTo_takeDoctor) 20 = .ok (.invokestatic 88, 3) := op184 0 88 (by decide +kernel)
theorem dTo_takeDoctor_23 : decode (mB mTo_takeDoctor) 23 = .ok (.goto 8, 3) := op167 0 8 (by decide +kernel)
theorem dTo_takeDoctor_26 : decode (mB mTo_takeDoctor) 26 = .ok (.aload_n 0, 1) := op42 (by decide +kernel)
theorem dTo_takeDoctor_27 : decode (mB mTo_takeDoctor) 27 = .ok (.iconst 3, 1) := op6 (by decide +kernel)
theorem dTo_takeDoctor_28 : decode (mB mTo_takeDoctor) 28 = .ok (.invokevirtual 31, 3) := op182 0 31 (by decide +kernel)
theorem dTo_takeDoctor_31 : decode (mB mTo_takeDoctor) 31 = .ok (.ireturn, 1) := op172 (by decide +kernel)

theorem vTo_takeDoctor_0 {M : Mm} {b : Nat × Nat} {K : Int32 → Mm → Prop} {v0 : Nat} (kv0 : v0 % 64 = 7) 
    (h : CI mTo_takeDoctors [.ref v0] M (fun rv N => X mTo_takeDoctor 4 [(0, .ref v0)] [.int rv] N b (QI K))) : X mTo_takeDoctor 0 [(0, .ref v0)] [] M b (QI K) := by
  refine x_wf (fun hw => ?_)
  refine x_aload_n (pc := 0) dTo_takeDoctor_0 rfl (q := 0) rfl ?_
  exact x_invV (pc := 1) dTo_takeDoctor_1 (c := 7) (S := []) (As := []) mlTo_80 hTo_takeDoctors rfl (by decide) rfl kv0 ⟨by decide, by decide⟩ ⟨Nat.zero_le _, Nat.zero_le _⟩ rfl (Nat.le_of_ble_eq_true rfl) (aftI (b' := b) ⟨Nat.le_refl _, Nat.le_refl _⟩ (fun rv N h => h) h)

theorem vTo_takeDoctor_4 {M : Mm} {b : Nat × Nat} {K : Int32 → Mm → Prop} {v0 : Nat} {w0 : Int32}  
    (h : (0 ≤ w0 → (CI mJi_bitCount [.int w0] M (fun rv N => X mTo_takeDoctor 15 [(0, .ref v0), (1, .int w0)] [.int rv] N b (QI K)))) ∧ (¬ 0 ≤ w0 → (K (-1) M))) : X mTo_takeDoctor 4 [(0, .ref v0)] [.int w0] M b (QI K) := by
  refine x_wf (fun hw => ?_)
  refine x_istore_n (pc := 4) dTo_takeDoctor_4 rfl (by decide) (L' := [(1, .int w0), (0, .ref v0)]) rfl ?_
  refine x_iload_n (pc := 5) dTo_takeDoctor_5 rfl (q := 0) rfl ?_
  obtain ⟨g1_0, g1_1⟩ := h
  refine x_if_ge (pc := 6) dTo_takeDoctor_6 (t := 11) rfl (fun q1 => ?_) (fun q1 => ?_)
  · refine x_iload_n (pc := 11) dTo_takeDoctor_11 rfl (q := 0) rfl ?_
    have h := g1_0 q1
    exact x_invS (pc := 12) dTo_takeDoctor_12 (S := []) (As := [.int w0]) mlTo_83 hJi_bitCount rfl ⟨by decide, by decide⟩ ⟨Nat.zero_le _, Nat.zero_le _⟩ rfl (Nat.le_of_ble_eq_true rfl) (aftI (b' := b) ⟨Nat.le_refl _, Nat.le_refl _⟩ (fun rv N h => x_loc [1, 0] rfl h) h)
  · refine x_iconst (pc := 9) dTo_takeDoctor_9 (v := (-1)) rfl ?_
    have h := g1_1 q1
    exact x_retQI (pc := 10) dTo_takeDoctor_10 rfl rfl h

theorem vTo_takeDoctor_15 {M : Mm} {b : Nat × Nat} {K : Int32 → Mm → Prop} {v0 : Nat} {v1 : Int32} {w0 : Int32} (kv0 : v0 % 64 = 7) 
    (h : (¬ w0 = 1 → (CI mTo_fail [.ref v0, .int 3] M (fun rv N => X mTo_takeDoctor 31 [] [.int rv] N b (QI K)))) ∧ (w0 = 1 → (CI mJi_numberOfTrailingZeros [.int v1] M (fun rv N => X mTo_takeDoctor 23 [] [.int rv] N b (QI K))))) : X mTo_takeDoctor 15 [(0, .ref v0), (1, .int v1)] [.int w0] M b (QI K) := by
  refine x_wf (fun hw => ?_)
  refine x_iconst (pc := 15) dTo_takeDoctor_15 (v := 1) rfl ?_
  obtain ⟨g1_0, g1_1⟩ := h
  refine x_icmp_ne (pc := 16) dTo_takeDoctor_16 (t := 26) rfl (fun q1 => ?_) (fun q1 => ?_)
  · refine x_aload_n (pc := 26) dTo_takeDoctor_26 rfl (q := 0) rfl ?_
    refine x_iconst (pc := 27) dTo_takeDoctor_27 (v := 3) rfl ?_
    have h := g1_0 q1
    exact x_invV (pc := 28) dTo_takeDoctor_28 (c := 7) (S := []) (As := [.int 3]) mlTo_31 hTo_fail rfl (by decide) rfl kv0 ⟨by decide, by decide⟩ ⟨Nat.zero_le _, Nat.zero_le _⟩ rfl (Nat.le_of_ble_eq_true rfl) (aftI (b' := b) ⟨Nat.le_refl _, Nat.le_refl _⟩ (fun rv N h => x_loc [] rfl h) h)
  · refine x_iload_n (pc := 19) dTo_takeDoctor_19 rfl (q := 1) rfl ?_
    have h := g1_1 q1
    exact x_invS (pc := 20) dTo_takeDoctor_20 (S := []) (As := [.int v1]) mlTo_88 hJi_numberOfTrailingZeros rfl ⟨by decide, by decide⟩ ⟨Nat.zero_le _, Nat.zero_le _⟩ rfl (Nat.le_of_ble_eq_true rfl) (aftI (b' := b) ⟨Nat.le_refl _, Nat.le_refl _⟩ (fun rv N h => x_loc [] rfl h) h)

theorem vTo_takeDoctor_23 {M : Mm} {b : Nat × Nat} {K : Int32 → Mm → Prop} {w0 : Int32}  
    (h : K w0 M) : X mTo_takeDoctor 23 [] [.int w0] M b (QI K) := by
  refine x_wf (fun hw => ?_)
  refine x_goto (pc := 23) dTo_takeDoctor_23 (t := 31) rfl ?_
  exact x_retQI (pc := 31) dTo_takeDoctor_31 rfl rfl h

theorem vTo_takeDoctor_31 {M : Mm} {b : Nat × Nat} {K : Int32 → Mm → Prop} {w0 : Int32}  
    (h : K w0 M) : X mTo_takeDoctor 31 [] [.int w0] M b (QI K) := by
  refine x_wf (fun hw => ?_)
  exact x_retQI (pc := 31) dTo_takeDoctor_31 rfl rfl h

theorem dTo_takeDoctors_0 : decode (mB mTo_takeDoctors) 0 = .ok (.aload_n 0, 1) := op42 (by decide +kernel)
theorem dTo_takeDoctors_1 : decode (mB mTo_takeDoctors) 1 = .ok (.invokevirtual 74, 3) := op182 0 74 (by decide +kernel)
theorem dTo_takeDoctors_4 : decode (mB mTo_takeDoctors) 4 = .ok (.aload_n 0, 1) := op42 (by decide +kernel)
theorem dTo_takeDoctors_5 : decode (mB mTo_takeDoctors) 5 = .ok (.getfield 15, 3) := op180 0 15 (by decide +kernel)
theorem dTo_takeDoctors_8 : decode (mB mTo_takeDoctors) 8 = .ok (.iconst 2, 1) := op5 (by decide +kernel)
theorem dTo_takeDoctors_9 : decode (mB mTo_takeDoctors) 9 = .ok (.if_icmp .eq 9, 3) := op159 0 9 (by decide +kernel)
theorem dTo_takeDoctors_12 : decode (mB mTo_takeDoctors) 12 = .ok (.aload_n 0, 1) := op42 (by decide +kernel)
theorem dTo_takeDoctors_13 : decode (mB mTo_takeDoctors) 13 = .ok (.iconst 2, 1) := op5 (by decide +kernel)
theorem dTo_takeDoctors_14 : decode (mB mTo_takeDoctors) 14 = .ok (.invokevirtual 31, 3) := op182 0 31 (by decide +kernel)
theorem dTo_takeDoctors_17 : decode (mB mTo_takeDoctors) 17 = .ok (.ireturn, 1) := op172 (by decide +kernel)
theorem dTo_takeDoctors_18 : decode (mB mTo_takeDoctors) 18 = .ok (.aload_n 0, 1) := op42 (by decide +kernel)
theorem dTo_takeDoctors_19 : decode (mB mTo_takeDoctors) 19 = .ok (.bipush 97, 2) := op16 97 (by decide +kernel)
theorem dTo_takeDoctors_21 : decode (mB mTo_takeDoctors) 21 = .ok (.bipush 8, 2) := op16 8 (by decide +kernel)
theorem dTo_takeDoctors_23 : decode (mB mTo_takeDoctors) 23 = .ok (.invokevirtual 77, 3) := op182 0 77 (by decide +kernel)
theorem dTo_takeDoctors_26 : decode (mB mTo_takeDoctors) 26 = .ok (.istore_n 1, 1) := op60 (by decide +kernel)
theorem dTo_takeDoctors_27 : decode (mB mTo_takeDoctors) 27 = .ok (.iload_n 1, 1) := op27 (by decide +kernel)
theorem dTo_takeDoctors_28 : decode (mB mTo_takeDoctors) 28 = .ok (.ifCond .ge 11, 3) := op156 0 11 (by decide +kernel)
theorem dTo_takeDoctors_31 : decode (mB mTo_takeDoctors) 31 = .ok (.aload_n 0, 1) := op42 (by decide +kernel)
theorem dTo_takeDoctors_32 : decode (mB mTo_takeDoctors) 32 = .ok (.iconst 3, 1) := op6 (by decide +kernel)
theorem dTo_takeDoctors_33 : decode (mB mTo_takeDoctors) 33 = .ok (.invokevirtual 31, 3) := op182 0 31 (by decide +kernel)
theorem dTo_takeDoctors_36 : decode (mB mTo_takeDoctors) 36 = .ok (.goto 4, 3) := op167 0 4 (by decide +kernel)
theorem dTo_takeDoctors_39 : decode (mB mTo_takeDoctors) 39 = .ok (.iload_n 1, 1) := op27 (by decide +kernel)
theorem dTo_takeDoctors_40 : decode (mB mTo_takeDoctors) 40 = .ok (.ireturn, 1) := op172 (by decide +kernel)

theorem vTo_takeDoctors_0 {M : Mm} {b : Nat × Nat} {K : Int32 → Mm → Prop} {v0 : Nat} (kv0 : v0 % 64 = 7) 
    (h : CV mTo_advance [.ref v0] M (fun N => X mTo_takeDoctors 4 [(0, .ref v0)] [] N b (QI K))) : X mTo_takeDoctors 0 [(0, .ref v0)] [] M b (QI K) := by
  refine x_wf (fun hw => ?_)
  refine x_aload_n (pc := 0) dTo_takeDoctors_0 rfl (q := 0) rfl ?_
  exact x_invV (pc := 1) dTo_takeDoctors_1 (c := 7) (S := []) (As := []) mlTo_74 hTo_advance rfl (by decide) rfl kv0 ⟨by decide, by decide⟩ ⟨Nat.zero_le _, Nat.zero_le _⟩ rfl (Nat.le_of_ble_eq_true rfl) (aftV (b' := b) ⟨Nat.le_refl _, Nat.le_refl _⟩ (fun N h => h) h)

theorem vTo_takeDoctors_4 {M : Mm} {b : Nat × Nat} {K : Int32 → Mm → Prop} {v0 : Nat} (kv0 : v0 % 64 = 7) 
    (h : ((gi M v0 1) = 2 → (CI mTo_letters [.ref v0, .int 97, .int 8] M (fun rv N => X mTo_takeDoctors 26 [(0, .ref v0)] [.int rv] N b (QI K)))) ∧ (¬ (gi M v0 1) = 2 → (CI mTo_fail [.ref v0, .int 2] M (fun rv N => X mTo_takeDoctors 17 [] [.int rv] N b (QI K))))) : X mTo_takeDoctors 4 [(0, .ref v0)] [] M b (QI K) := by
  refine x_wf (fun hw => ?_)
  refine x_aload_n (pc := 4) dTo_takeDoctors_4 rfl (q := 0) rfl ?_
  refine x_getI (pc := 5) dTo_takeDoctors_5 kv0 flTo_15 rfl ?_
  refine x_iconst (pc := 8) dTo_takeDoctors_8 (v := 2) rfl ?_
  obtain ⟨g1_0, g1_1⟩ := h
  refine x_icmp_eq (pc := 9) dTo_takeDoctors_9 (t := 18) rfl (fun q1 => ?_) (fun q1 => ?_)
  · refine x_aload_n (pc := 18) dTo_takeDoctors_18 rfl (q := 0) rfl ?_
    refine x_bipush (pc := 19) dTo_takeDoctors_19 (v := 97) rfl ?_
    refine x_bipush (pc := 21) dTo_takeDoctors_21 (v := 8) rfl ?_
    have h := g1_0 q1
    exact x_invV (pc := 23) dTo_takeDoctors_23 (c := 7) (S := []) (As := [.int 97, .int 8]) mlTo_77 hTo_letters rfl (by decide) rfl kv0 ⟨by decide, by decide⟩ ⟨Nat.zero_le _, Nat.zero_le _⟩ rfl (Nat.le_of_ble_eq_true rfl) (aftI (b' := b) ⟨Nat.le_refl _, Nat.le_refl _⟩ (fun rv N h => h) h)
  · refine x_aload_n (pc := 12) dTo_takeDoctors_12 rfl (q := 0) rfl ?_
    refine x_iconst (pc := 13) dTo_takeDoctors_13 (v := 2) rfl ?_
    have h := g1_1 q1
    exact x_invV (pc := 14) dTo_takeDoctors_14 (c := 7) (S := []) (As := [.int 2]) mlTo_31 hTo_fail rfl (by decide) rfl kv0 ⟨by decide, by decide⟩ ⟨Nat.zero_le _, Nat.zero_le _⟩ rfl (Nat.le_of_ble_eq_true rfl) (aftI (b' := b) ⟨Nat.le_refl _, Nat.le_refl _⟩ (fun rv N h => x_loc [] rfl h) h)

theorem vTo_takeDoctors_17 {M : Mm} {b : Nat × Nat} {K : Int32 → Mm → Prop} {w0 : Int32}  
    (h : K w0 M) : X mTo_takeDoctors 17 [] [.int w0] M b (QI K) := by
  refine x_wf (fun hw => ?_)
  exact x_retQI (pc := 17) dTo_takeDoctors_17 rfl rfl h

theorem vTo_takeDoctors_26 {M : Mm} {b : Nat × Nat} {K : Int32 → Mm → Prop} {v0 : Nat} {w0 : Int32} (kv0 : v0 % 64 = 7) 
    (h : (0 ≤ w0 → (K w0 M)) ∧ (¬ 0 ≤ w0 → (CI mTo_fail [.ref v0, .int 3] M (fun rv N => X mTo_takeDoctors 36 [] [.int rv] N b (QI K))))) : X mTo_takeDoctors 26 [(0, .ref v0)] [.int w0] M b (QI K) := by
  refine x_wf (fun hw => ?_)
  refine x_istore_n (pc := 26) dTo_takeDoctors_26 rfl (by decide) (L' := [(1, .int w0), (0, .ref v0)]) rfl ?_
  refine x_iload_n (pc := 27) dTo_takeDoctors_27 rfl (q := 0) rfl ?_
  obtain ⟨g1_0, g1_1⟩ := h
  refine x_if_ge (pc := 28) dTo_takeDoctors_28 (t := 39) rfl (fun q1 => ?_) (fun q1 => ?_)
  · refine x_iload_n (pc := 39) dTo_takeDoctors_39 rfl (q := 0) rfl ?_
    have h := g1_0 q1
    exact x_retQI (pc := 40) dTo_takeDoctors_40 rfl rfl h
  · refine x_aload_n (pc := 31) dTo_takeDoctors_31 rfl (q := 1) rfl ?_
    refine x_iconst (pc := 32) dTo_takeDoctors_32 (v := 3) rfl ?_
    have h := g1_1 q1
    exact x_invV (pc := 33) dTo_takeDoctors_33 (c := 7) (S := []) (As := [.int 3]) mlTo_31 hTo_fail rfl (by decide) rfl kv0 ⟨by decide, by decide⟩ ⟨Nat.zero_le _, Nat.zero_le _⟩ rfl (Nat.le_of_ble_eq_true rfl) (aftI (b' := b) ⟨Nat.le_refl _, Nat.le_refl _⟩ (fun rv N h => x_loc [] rfl h) h)

theorem vTo_takeDoctors_36 {M : Mm} {b : Nat × Nat} {K : Int32 → Mm → Prop} {w0 : Int32}  
    (h : K w0 M) : X mTo_takeDoctors 36 [] [.int w0] M b (QI K) := by
  refine x_wf (fun hw => ?_)
  refine x_goto (pc := 36) dTo_takeDoctors_36 (t := 40) rfl ?_
  exact x_retQI (pc := 40) dTo_takeDoctors_40 rfl rfl h

theorem dTo_letters_0 : decode (mB mTo_letters) 0 = .ok (.iconst 0, 1) := op3 (by decide +kernel)
theorem dTo_letters_1 : decode (mB mTo_letters) 1 = .ok (.istore_n 3, 1) := op62 (by decide +kernel)
theorem dTo_letters_2 : decode (mB mTo_letters) 2 = .ok (.aload_n 0, 1) := op42 (by decide +kernel)
theorem dTo_letters_3 : decode (mB mTo_letters) 3 = .ok (.getfield 19, 3) := op180 0 19 (by decide +kernel)
theorem dTo_letters_6 : decode (mB mTo_letters) 6 = .ok (.istore 4, 2) := op54 4 (by decide +kernel)
theorem dTo_letters_8 : decode (mB mTo_letters) 8 = .ok (.iload 4, 2) := op21 4 (by decide +kernel)
theorem dTo_letters_10 : decode (mB mTo_letters) 10 = .ok (.aload_n 0, 1) := op42 (by decide +kernel)
theorem dTo_letters_11 : decode (mB mTo_letters) 11 = .ok (.getfield 22, 3) := op180 0 22 (by decide +kernel)
theorem dTo_letters_14 : decode (mB mTo_letters) 14 = .ok (.if_icmp .ge 51, 3) := op162 0 51 (by decide +kernel)
theorem dTo_letters_17 : decode (mB mTo_letters) 17 = .ok (.aload_n 0, 1) := op42 (by decide +kernel)
theorem dTo_letters_18 : decode (mB mTo_letters) 18 = .ok (.getfield 9, 3) := op180 0 9 (by decide +kernel)
theorem dTo_letters_21 : decode (mB mTo_letters) 21 = .ok (.iload 4, 2) := op21 4 (by decide +kernel)
theorem dTo_letters_23 : decode (mB mTo_letters) 23 = .ok (.invokevirtual 41, 3) := op182 0 41 (by decide +kernel)
theorem dTo_letters_26 : decode (mB mTo_letters) 26 = .ok (.iload_n 1, 1) := op27 (by decide +kernel)
theorem dTo_letters_27 : decode (mB mTo_letters) 27 = .ok (.isub, 1) := op100 (by decide +kernel)
theorem dTo_letters_28 : decode (mB mTo_letters) 28 = .ok (.istore 5, 2) := op54 5 (by decide +kernel)
theorem dTo_letters_30 : decode (mB mTo_letters) 30 = .ok (.iload 5, 2) := op21 5 (by decide +kernel)
theorem dTo_letters_32 : decode (mB mTo_letters) 32 = .ok (.ifCond .lt 18, 3) := op155 0 18 (by decide +kernel)
theorem dTo_letters_35 : decode (mB mTo_letters) 35 = .ok (.iload 5, 2) := op21 5 (by decide +kernel)
theorem dTo_letters_37 : decode (mB mTo_letters) 37 = .ok (.iload_n 2, 1) := op28 (by decide +kernel)
theorem dTo_letters_38 : decode (mB mTo_letters) 38 = .ok (.if_icmp .ge 12, 3) := op162 0 12 (by decide +kernel)
theorem dTo_letters_41 : decode (mB mTo_letters) 41 = .ok (.iload_n 3, 1) := op29 (by decide +kernel)
theorem dTo_letters_42 : decode (mB mTo_letters) 42 = .ok (.iload 5, 2) := op21 5 (by decide +kernel)
theorem dTo_letters_44 : decode (mB mTo_letters) 44 = .ok (.invokestatic 70, 3) := op184 0 70 (by decide +kernel)
theorem dTo_letters_47 : decode (mB mTo_letters) 47 = .ok (.ifCond .eq 5, 3) := op153 0 5 (by decide +kernel)
theorem dTo_letters_50 : decode (mB mTo_letters) 50 = .ok (.iconst (-1), 1) := op2 (by decide +kernel)
theorem dTo_letters_51 : decode (mB mTo_letters) 51 = .ok (.ireturn, 1) := op172 (by decide +kernel)
theorem dTo_letters_52 : decode (mB mTo_letters) 52 = .ok (.iload_n 3, 1) := op29 (by decide +kernel)
theorem dTo_letters_53 : decode (mB mTo_letters) 53 = .ok (.iconst 1, 1) := op4 (by decide +kernel)
theorem dTo_letters_54 : decode (mB mTo_letters) 54 = .ok (.iload 5, 2) := op21 5 (by decide +kernel)
theorem dTo_letters_56 : decode (mB mTo_letters) 56 = .ok (.ishl, 1) := op120 (by decide +kernel)
theorem dTo_letters_57 : decode (mB mTo_letters) 57 = .ok (.ior, 1) := op128 (by decide +kernel)
theorem dTo_letters_58 : decode (mB mTo_letters) 58 = .ok (.istore_n 3, 1) := op62 (by decide +kernel)
theorem dTo_letters_59 : decode (mB mTo_letters) 59 = .ok (.iinc 4 1, 3) := op132 4 1 (by decide +kernel)
theorem dTo_letters_62 : decode (mB mTo_letters) 62 = .ok (.goto (-54), 3) := op167 255 202 (by decide +kernel)
theorem dTo_letters_65 : decode (mB mTo_letters) 65 = .ok (.iload_n 3, 1) := op29 (by decide +kernel)
theorem dTo_letters_66 : decode (mB mTo_letters) 66 = .ok (.ireturn, 1) := op172 (by decide +kernel)

theorem vTo_letters_0 {M : Mm} {b : Nat × Nat} {K : Int32 → Mm → Prop} {v0 : Nat} {v1 : Int32} {v2 : Int32} (kv0 : v0 % 64 = 7) 
    (h : X mTo_letters 8 [(0, .ref v0), (1, .int v1), (2, .int v2), (3, .int 0), (4, .int (gi M v0 2))] [] M b (QI K)) : X mTo_letters 0 [(0, .ref v0), (1, .int v1), (2, .int v2)] [] M b (QI K) := by
  refine x_wf (fun hw => ?_)
  refine x_iconst (pc := 0) dTo_letters_0 (v := 0) rfl ?_
  refine x_istore_n (pc := 1) dTo_letters_1 rfl (by decide) (L' := [(3, .int 0), (0, .ref v0), (1, .int v1), (2, .int v2)]) rfl ?_
  refine x_aload_n (pc := 2) dTo_letters_2 rfl (q := 1) rfl ?_
  refine x_getI (pc := 3) dTo_letters_3 kv0 flTo_19 rfl ?_
  refine x_istore (pc := 6) dTo_letters_6 (by decide) (L' := [(4, .int (gi M v0 2)), (3, .int 0), (0, .ref v0), (1, .int v1), (2, .int v2)]) rfl ?_
  exact x_loc [2, 3, 4, 1, 0] rfl h

theorem vTo_letters_8 {M : Mm} {b : Nat × Nat} {K : Int32 → Mm → Prop} {v0 : Nat} {v1 : Int32} {v2 : Int32} {v3 : Int32} {v4 : Int32} {r1 : Nat} (kv0 : v0 % 64 = 7) (e1 : gr M v0 0 = some r1)
    (h : ((gi M v0 3) ≤ v4 → (K v3 M)) ∧ (¬ (gi M v0 3) ≤ v4 → (CI mTa_byteAt [.ref r1, .int v4] M (fun rv N => X mTo_letters 26 [(0, .ref v0), (1, .int v1), (2, .int v2), (3, .int v3), (4, .int v4)] [.int rv] N b (QI K))))) : X mTo_letters 8 [(0, .ref v0), (1, .int v1), (2, .int v2), (3, .int v3), (4, .int v4)] [] M b (QI K) := by
  refine x_wf (fun hw => ?_)
  refine x_iload (pc := 8) dTo_letters_8 (q := 4) rfl ?_
  refine x_aload_n (pc := 10) dTo_letters_10 rfl (q := 0) rfl ?_
  refine x_getI (pc := 11) dTo_letters_11 kv0 flTo_22 rfl ?_
  obtain ⟨g1_0, g1_1⟩ := h
  refine x_icmp_ge (pc := 14) dTo_letters_14 (t := 65) rfl (fun q1 => ?_) (fun q1 => ?_)
  · refine x_iload_n (pc := 65) dTo_letters_65 rfl (q := 3) rfl ?_
    have h := g1_0 q1
    exact x_retQI (pc := 66) dTo_letters_66 rfl rfl h
  · refine x_aload_n (pc := 17) dTo_letters_17 rfl (q := 0) rfl ?_
    refine x_getR (pc := 18) dTo_letters_18 kv0 flTo_9 rfl e1 ?_
    refine x_iload (pc := 21) dTo_letters_21 (q := 4) rfl ?_
    have h := g1_1 q1
    exact x_invV (pc := 23) dTo_letters_23 (c := 6) (S := []) (As := [.int v4]) mlTo_41 hTa_byteAt rfl (by decide) rfl (wfk hw e1 kv0) ⟨by decide, by decide⟩ ⟨Nat.zero_le _, Nat.zero_le _⟩ rfl (Nat.le_of_ble_eq_true rfl) (aftI (b' := b) ⟨Nat.le_refl _, Nat.le_refl _⟩ (fun rv N h => h) h)

theorem vTo_letters_26 {M : Mm} {b : Nat × Nat} {K : Int32 → Mm → Prop} {v0 : Nat} {v1 : Int32} {v2 : Int32} {v3 : Int32} {v4 : Int32} {w0 : Int32}  
    (h : ((((w0 - v1) < 0) ∨ (¬ (w0 - v1) < 0 ∧ v2 ≤ (w0 - v1))) → (K (-1) M)) ∧ ((¬ (w0 - v1) < 0 ∧ ¬ v2 ≤ (w0 - v1)) → (CI mC_holds [.int v3, .int (w0 - v1)] M (fun rv N => X mTo_letters 47 [(0, .ref v0), (1, .int v1), (2, .int v2), (3, .int v3), (4, .int v4), (5, .int (w0 - v1))] [.int rv] N b (QI K))))) : X mTo_letters 26 [(0, .ref v0), (1, .int v1), (2, .int v2), (3, .int v3), (4, .int v4)] [.int w0] M b (QI K) := by
  refine x_wf (fun hw => ?_)
  refine x_iload_n (pc := 26) dTo_letters_26 rfl (q := 1) rfl ?_
  refine x_isub (pc := 27) dTo_letters_27 ?_
  refine x_istore (pc := 28) dTo_letters_28 (by decide) (L' := [(5, .int (w0 - v1)), (0, .ref v0), (1, .int v1), (2, .int v2), (3, .int v3), (4, .int v4)]) rfl ?_
  refine x_iload (pc := 30) dTo_letters_30 (q := 0) rfl ?_
  obtain ⟨g1_0, g1_1⟩ := h
  have g1_k0 : ((w0 - v1) < 0) ∨ (¬ (w0 - v1) < 0 ∧ v2 ≤ (w0 - v1)) → X mTo_letters 50 [(5, .int (w0 - v1)), (0, .ref v0), (1, .int v1), (2, .int v2), (3, .int v3), (4, .int v4)] [] M b (QI K) := fun q => by
    have h := g1_0 q
    refine x_iconst (pc := 50) dTo_letters_50 (v := (-1)) rfl ?_
    exact x_retQI (pc := 51) dTo_letters_51 rfl rfl h
  refine x_if_lt (pc := 32) dTo_letters_32 (t := 50) rfl (fun q1 => ?_) (fun q1 => ?_)
  · exact g1_k0 (Or.inl q1)
  · refine x_iload (pc := 35) dTo_letters_35 (q := 0) rfl ?_
    refine x_iload_n (pc := 37) dTo_letters_37 rfl (q := 3) rfl ?_
    refine x_icmp_ge (pc := 38) dTo_letters_38 (t := 50) rfl (fun q2 => ?_) (fun q2 => ?_)
    · exact g1_k0 (Or.inr ⟨q1, q2⟩)
    · refine x_iload_n (pc := 41) dTo_letters_41 rfl (q := 4) rfl ?_
      refine x_iload (pc := 42) dTo_letters_42 (q := 0) rfl ?_
      have h := g1_1 ⟨q1, q2⟩
      exact x_invSN (pc := 44) dTo_letters_44 (S := []) (As := [.int v3, .int (w0 - v1)]) nlTo_70 hC_holds rfl ⟨by decide, by decide⟩ ⟨Nat.zero_le _, Nat.zero_le _⟩ rfl (Nat.le_of_ble_eq_true rfl) (aftI (b' := b) ⟨Nat.le_refl _, Nat.le_refl _⟩ (fun rv N h => x_loc [1, 2, 3, 4, 5, 0] rfl h) h)

theorem vTo_letters_47 {M : Mm} {b : Nat × Nat} {K : Int32 → Mm → Prop} {v0 : Nat} {v1 : Int32} {v2 : Int32} {v3 : Int32} {v4 : Int32} {v5 : Int32} {w0 : Int32}  
    (h : (w0 = 0 → (X mTo_letters 8 [(0, .ref v0), (1, .int v1), (2, .int v2), (3, .int (v3 ||| ((1 : Int32) <<< (v5 &&& 31)))), (4, .int (v4 + 1))] [] M b (QI K))) ∧ (¬ w0 = 0 → (K (-1) M))) : X mTo_letters 47 [(0, .ref v0), (1, .int v1), (2, .int v2), (3, .int v3), (4, .int v4), (5, .int v5)] [.int w0] M b (QI K) := by
  refine x_wf (fun hw => ?_)
  obtain ⟨g1_0, g1_1⟩ := h
  refine x_if_eq (pc := 47) dTo_letters_47 (t := 52) rfl (fun q1 => ?_) (fun q1 => ?_)
  · refine x_iload_n (pc := 52) dTo_letters_52 rfl (q := 3) rfl ?_
    refine x_iconst (pc := 53) dTo_letters_53 (v := 1) rfl ?_
    refine x_iload (pc := 54) dTo_letters_54 (q := 5) rfl ?_
    refine x_ishl (pc := 56) dTo_letters_56 ?_
    refine x_ior (pc := 57) dTo_letters_57 ?_
    have h := g1_0 q1
    refine x_istore_n (pc := 58) dTo_letters_58 rfl (by decide) (L' := [(3, .int (v3 ||| ((1 : Int32) <<< (v5 &&& 31)))), (0, .ref v0), (1, .int v1), (2, .int v2), (4, .int v4), (5, .int v5)]) rfl ?_
    refine x_iinc (pc := 59) dTo_letters_59 (q := 4) rfl (v := v4 + 1) rfl (by decide) (L' := [(4, .int (v4 + 1)), (3, .int (v3 ||| ((1 : Int32) <<< (v5 &&& 31)))), (0, .ref v0), (1, .int v1), (2, .int v2), (5, .int v5)]) rfl ?_
    refine x_goto (pc := 62) dTo_letters_62 (t := 8) rfl ?_
    exact x_loc [2, 3, 4, 1, 0] rfl h
  · have h := g1_1 q1
    refine x_iconst (pc := 50) dTo_letters_50 (v := (-1)) rfl ?_
    exact x_retQI (pc := 51) dTo_letters_51 rfl rfl h

theorem dTo_takeMarks_0 : decode (mB mTo_takeMarks) 0 = .ok (.aload_n 0, 1) := op42 (by decide +kernel)
theorem dTo_takeMarks_1 : decode (mB mTo_takeMarks) 1 = .ok (.invokevirtual 74, 3) := op182 0 74 (by decide +kernel)
theorem dTo_takeMarks_4 : decode (mB mTo_takeMarks) 4 = .ok (.aload_n 0, 1) := op42 (by decide +kernel)
theorem dTo_takeMarks_5 : decode (mB mTo_takeMarks) 5 = .ok (.getfield 15, 3) := op180 0 15 (by decide +kernel)
theorem dTo_takeMarks_8 : decode (mB mTo_takeMarks) 8 = .ok (.iconst 4, 1) := op7 (by decide +kernel)
theorem dTo_takeMarks_9 : decode (mB mTo_takeMarks) 9 = .ok (.if_icmp .ne 5, 3) := op160 0 5 (by decide +kernel)
theorem dTo_takeMarks_12 : decode (mB mTo_takeMarks) 12 = .ok (.iconst 0, 1) := op3 (by decide +kernel)
theorem dTo_takeMarks_13 : decode (mB mTo_takeMarks) 13 = .ok (.ireturn, 1) := op172 (by decide +kernel)
theorem dTo_takeMarks_14 : decode (mB mTo_takeMarks) 14 = .ok (.aload_n 0, 1) := op42 (by decide +kernel)
theorem dTo_takeMarks_15 : decode (mB mTo_takeMarks) 15 = .ok (.getfield 15, 3) := op180 0 15 (by decide +kernel)
theorem dTo_takeMarks_18 : decode (mB mTo_takeMarks) 18 = .ok (.iconst 2, 1) := op5 (by decide +kernel)
theorem dTo_takeMarks_19 : decode (mB mTo_takeMarks) 19 = .ok (.if_icmp .eq 9, 3) := op159 0 9 (by decide +kernel)
theorem dTo_takeMarks_22 : decode (mB mTo_takeMarks) 22 = .ok (.aload_n 0, 1) := op42 (by decide +kernel)
theorem dTo_takeMarks_23 : decode (mB mTo_takeMarks) 23 = .ok (.iconst 2, 1) := op5 (by decide +kernel)
theorem dTo_takeMarks_24 : decode (mB mTo_takeMarks) 24 = .ok (.invokevirtual 31, 3) := op182 0 31 (by decide +kernel)
theorem dTo_takeMarks_27 : decode (mB mTo_takeMarks) 27 = .ok (.ireturn, 1) := op172 (by decide +kernel)
theorem dTo_takeMarks_28 : decode (mB mTo_takeMarks) 28 = .ok (.aload_n 0, 1) := op42 (by decide +kernel)
theorem dTo_takeMarks_29 : decode (mB mTo_takeMarks) 29 = .ok (.bipush 112, 2) := op16 112 (by decide +kernel)
theorem dTo_takeMarks_31 : decode (mB mTo_takeMarks) 31 = .ok (.bipush 6, 2) := op16 6 (by decide +kernel)
theorem dTo_takeMarks_33 : decode (mB mTo_takeMarks) 33 = .ok (.invokevirtual 77, 3) := op182 0 77 (by decide +kernel)
theorem dTo_takeMarks_36 : decode (mB mTo_takeMarks) 36 = .ok (.istore_n 1, 1) := op60 (by decide +kernel)
theorem dTo_takeMarks_37 : decode (mB mTo_takeMarks) 37 = .ok (.iload_n 1, 1) := op27 (by decide +kernel)
theorem dTo_takeMarks_38 : decode (mB mTo_takeMarks) 38 = .ok (.ifCond .ge 11, 3) := op156 0 11 (by decide +kernel)
theorem dTo_takeMarks_41 : decode (mB mTo_takeMarks) 41 = .ok (.aload_n 0, 1) := op42 (by decide +kernel)
theorem dTo_takeMarks_42 : decode (mB mTo_takeMarks) 42 = .ok (.iconst 3, 1) := op6 (by decide +kernel)
theorem dTo_takeMarks_43 : decode (mB mTo_takeMarks) 43 = .ok (.invokevirtual 31, 3) := op182 0 31 (by decide +kernel)
theorem dTo_takeMarks_46 : decode (mB mTo_takeMarks) 46 = .ok (.goto 4, 3) := op167 0 4 (by decide +kernel)
theorem dTo_takeMarks_49 : decode (mB mTo_takeMarks) 49 = .ok (.iload_n 1, 1) := op27 (by decide +kernel)
theorem dTo_takeMarks_50 : decode (mB mTo_takeMarks) 50 = .ok (.ireturn, 1) := op172 (by decide +kernel)

theorem vTo_takeMarks_0 {M : Mm} {b : Nat × Nat} {K : Int32 → Mm → Prop} {v0 : Nat} (kv0 : v0 % 64 = 7) 
    (h : CV mTo_advance [.ref v0] M (fun N => X mTo_takeMarks 4 [(0, .ref v0)] [] N b (QI K))) : X mTo_takeMarks 0 [(0, .ref v0)] [] M b (QI K) := by
  refine x_wf (fun hw => ?_)
  refine x_aload_n (pc := 0) dTo_takeMarks_0 rfl (q := 0) rfl ?_
  exact x_invV (pc := 1) dTo_takeMarks_1 (c := 7) (S := []) (As := []) mlTo_74 hTo_advance rfl (by decide) rfl kv0 ⟨by decide, by decide⟩ ⟨Nat.zero_le _, Nat.zero_le _⟩ rfl (Nat.le_of_ble_eq_true rfl) (aftV (b' := b) ⟨Nat.le_refl _, Nat.le_refl _⟩ (fun N h => h) h)

theorem vTo_takeMarks_4 {M : Mm} {b : Nat × Nat} {K : Int32 → Mm → Prop} {v0 : Nat} (kv0 : v0 % 64 = 7) 
    (h : ((¬ (gi M v0 1) = 4 ∧ (gi M v0 1) = 2) → (CI mTo_letters [.ref v0, .int 112, .int 6] M (fun rv N => X mTo_takeMarks 36 [(0, .ref v0)] [.int rv] N b (QI K)))) ∧ ((¬ (gi M v0 1) = 4 ∧ ¬ (gi M v0 1) = 2) → (CI mTo_fail [.ref v0, .int 2] M (fun rv N => X mTo_takeMarks 27 [] [.int rv] N b (QI K)))) ∧ ((gi M v0 1) = 4 → (K 0 M))) : X mTo_takeMarks 4 [(0, .ref v0)] [] M b (QI K) := by
  refine x_wf (fun hw => ?_)
  refine x_aload_n (pc := 4) dTo_takeMarks_4 rfl (q := 0) rfl ?_
  refine x_getI (pc := 5) dTo_takeMarks_5 kv0 flTo_15 rfl ?_
  refine x_iconst (pc := 8) dTo_takeMarks_8 (v := 4) rfl ?_
  obtain ⟨g1_0, g1_1, g1_2⟩ := h
  refine x_icmp_ne (pc := 9) dTo_takeMarks_9 (t := 14) rfl (fun q1 => ?_) (fun q1 => ?_)
  · refine x_aload_n (pc := 14) dTo_takeMarks_14 rfl (q := 0) rfl ?_
    refine x_getI (pc := 15) dTo_takeMarks_15 kv0 flTo_15 rfl ?_
    refine x_iconst (pc := 18) dTo_takeMarks_18 (v := 2) rfl ?_
    refine x_icmp_eq (pc := 19) dTo_takeMarks_19 (t := 28) rfl (fun q2 => ?_) (fun q2 => ?_)
    · refine x_aload_n (pc := 28) dTo_takeMarks_28 rfl (q := 0) rfl ?_
      refine x_bipush (pc := 29) dTo_takeMarks_29 (v := 112) rfl ?_
      refine x_bipush (pc := 31) dTo_takeMarks_31 (v := 6) rfl ?_
      have h := g1_0 ⟨q1, q2⟩
      exact x_invV (pc := 33) dTo_takeMarks_33 (c := 7) (S := []) (As := [.int 112, .int 6]) mlTo_77 hTo_letters rfl (by decide) rfl kv0 ⟨by decide, by decide⟩ ⟨Nat.zero_le _, Nat.zero_le _⟩ rfl (Nat.le_of_ble_eq_true rfl) (aftI (b' := b) ⟨Nat.le_refl _, Nat.le_refl _⟩ (fun rv N h => h) h)
    · refine x_aload_n (pc := 22) dTo_takeMarks_22 rfl (q := 0) rfl ?_
      refine x_iconst (pc := 23) dTo_takeMarks_23 (v := 2) rfl ?_
      have h := g1_1 ⟨q1, q2⟩
      exact x_invV (pc := 24) dTo_takeMarks_24 (c := 7) (S := []) (As := [.int 2]) mlTo_31 hTo_fail rfl (by decide) rfl kv0 ⟨by decide, by decide⟩ ⟨Nat.zero_le _, Nat.zero_le _⟩ rfl (Nat.le_of_ble_eq_true rfl) (aftI (b' := b) ⟨Nat.le_refl _, Nat.le_refl _⟩ (fun rv N h => x_loc [] rfl h) h)
  · refine x_iconst (pc := 12) dTo_takeMarks_12 (v := 0) rfl ?_
    have h := g1_2 q1
    exact x_retQI (pc := 13) dTo_takeMarks_13 rfl rfl h

theorem vTo_takeMarks_27 {M : Mm} {b : Nat × Nat} {K : Int32 → Mm → Prop} {w0 : Int32}  
    (h : K w0 M) : X mTo_takeMarks 27 [] [.int w0] M b (QI K) := by
  refine x_wf (fun hw => ?_)
  exact x_retQI (pc := 27) dTo_takeMarks_27 rfl rfl h

theorem vTo_takeMarks_36 {M : Mm} {b : Nat × Nat} {K : Int32 → Mm → Prop} {v0 : Nat} {w0 : Int32} (kv0 : v0 % 64 = 7) 
    (h : (0 ≤ w0 → (K w0 M)) ∧ (¬ 0 ≤ w0 → (CI mTo_fail [.ref v0, .int 3] M (fun rv N => X mTo_takeMarks 46 [] [.int rv] N b (QI K))))) : X mTo_takeMarks 36 [(0, .ref v0)] [.int w0] M b (QI K) := by
  refine x_wf (fun hw => ?_)
  refine x_istore_n (pc := 36) dTo_takeMarks_36 rfl (by decide) (L' := [(1, .int w0), (0, .ref v0)]) rfl ?_
  refine x_iload_n (pc := 37) dTo_takeMarks_37 rfl (q := 0) rfl ?_
  obtain ⟨g1_0, g1_1⟩ := h
  refine x_if_ge (pc := 38) dTo_takeMarks_38 (t := 49) rfl (fun q1 => ?_) (fun q1 => ?_)
  · refine x_iload_n (pc := 49) dTo_takeMarks_49 rfl (q := 0) rfl ?_
    have h := g1_0 q1
    exact x_retQI (pc := 50) dTo_takeMarks_50 rfl rfl h
  · refine x_aload_n (pc := 41) dTo_takeMarks_41 rfl (q := 1) rfl ?_
    refine x_iconst (pc := 42) dTo_takeMarks_42 (v := 3) rfl ?_
    have h := g1_1 q1
    exact x_invV (pc := 43) dTo_takeMarks_43 (c := 7) (S := []) (As := [.int 3]) mlTo_31 hTo_fail rfl (by decide) rfl kv0 ⟨by decide, by decide⟩ ⟨Nat.zero_le _, Nat.zero_le _⟩ rfl (Nat.le_of_ble_eq_true rfl) (aftI (b' := b) ⟨Nat.le_refl _, Nat.le_refl _⟩ (fun rv N h => x_loc [] rfl h) h)

theorem vTo_takeMarks_46 {M : Mm} {b : Nat × Nat} {K : Int32 → Mm → Prop} {w0 : Int32}  
    (h : K w0 M) : X mTo_takeMarks 46 [] [.int w0] M b (QI K) := by
  refine x_wf (fun hw => ?_)
  refine x_goto (pc := 46) dTo_takeMarks_46 (t := 50) rfl ?_
  exact x_retQI (pc := 50) dTo_takeMarks_50 rfl rfl h

theorem dTo_takeAnswer_0 : decode (mB mTo_takeAnswer) 0 = .ok (.aload_n 0, 1) := op42 (by decide +kernel)
theorem dTo_takeAnswer_1 : decode (mB mTo_takeAnswer) 1 = .ok (.invokevirtual 74, 3) := op182 0 74 (by decide +kernel)
theorem dTo_takeAnswer_4 : decode (mB mTo_takeAnswer) 4 = .ok (.aload_n 0, 1) := op42 (by decide +kernel)
theorem dTo_takeAnswer_5 : decode (mB mTo_takeAnswer) 5 = .ok (.getfield 15, 3) := op180 0 15 (by decide +kernel)
theorem dTo_takeAnswer_8 : decode (mB mTo_takeAnswer) 8 = .ok (.iconst 2, 1) := op5 (by decide +kernel)
theorem dTo_takeAnswer_9 : decode (mB mTo_takeAnswer) 9 = .ok (.if_icmp .eq 9, 3) := op159 0 9 (by decide +kernel)
theorem dTo_takeAnswer_12 : decode (mB mTo_takeAnswer) 12 = .ok (.aload_n 0, 1) := op42 (by decide +kernel)
theorem dTo_takeAnswer_13 : decode (mB mTo_takeAnswer) 13 = .ok (.iconst 2, 1) := op5 (by decide +kernel)
theorem dTo_takeAnswer_14 : decode (mB mTo_takeAnswer) 14 = .ok (.invokevirtual 31, 3) := op182 0 31 (by decide +kernel)
theorem dTo_takeAnswer_17 : decode (mB mTo_takeAnswer) 17 = .ok (.ireturn, 1) := op172 (by decide +kernel)
theorem dTo_takeAnswer_18 : decode (mB mTo_takeAnswer) 18 = .ok (.aload_n 0, 1) := op42 (by decide +kernel)
theorem dTo_takeAnswer_19 : decode (mB mTo_takeAnswer) 19 = .ok (.ldc 91, 2) := op18 91 (by decide +kernel)
theorem dTo_takeAnswer_21 : decode (mB mTo_takeAnswer) 21 = .ok (.invokevirtual 93, 3) := op182 0 93 (by decide +kernel)
theorem dTo_takeAnswer_24 : decode (mB mTo_takeAnswer) 24 = .ok (.istore_n 1, 1) := op60 (by decide +kernel)
theorem dTo_takeAnswer_25 : decode (mB mTo_takeAnswer) 25 = .ok (.iload_n 1, 1) := op27 (by decide +kernel)
theorem dTo_takeAnswer_26 : decode (mB mTo_takeAnswer) 26 = .ok (.ifCond .ge 11, 3) := op156 0 11 (by decide +kernel)
theorem dTo_takeAnswer_29 : decode (mB mTo_takeAnswer) 29 = .ok (.aload_n 0, 1) := op42 (by decide +kernel)
theorem dTo_takeAnswer_30 : decode (mB mTo_takeAnswer) 30 = .ok (.iconst 3, 1) := op6 (by decide +kernel)
theorem dTo_takeAnswer_31 : decode (mB mTo_takeAnswer) 31 = .ok (.invokevirtual 31, 3) := op182 0 31 (by decide +kernel)
theorem dTo_takeAnswer_34 : decode (mB mTo_takeAnswer) 34 = .ok (.goto 4, 3) := op167 0 4 (by decide +kernel)
theorem dTo_takeAnswer_37 : decode (mB mTo_takeAnswer) 37 = .ok (.iload_n 1, 1) := op27 (by decide +kernel)
theorem dTo_takeAnswer_38 : decode (mB mTo_takeAnswer) 38 = .ok (.ireturn, 1) := op172 (by decide +kernel)

theorem vTo_takeAnswer_0 {M : Mm} {b : Nat × Nat} {K : Int32 → Mm → Prop} {v0 : Nat} (kv0 : v0 % 64 = 7) 
    (h : CV mTo_advance [.ref v0] M (fun N => X mTo_takeAnswer 4 [(0, .ref v0)] [] N b (QI K))) : X mTo_takeAnswer 0 [(0, .ref v0)] [] M b (QI K) := by
  refine x_wf (fun hw => ?_)
  refine x_aload_n (pc := 0) dTo_takeAnswer_0 rfl (q := 0) rfl ?_
  exact x_invV (pc := 1) dTo_takeAnswer_1 (c := 7) (S := []) (As := []) mlTo_74 hTo_advance rfl (by decide) rfl kv0 ⟨by decide, by decide⟩ ⟨Nat.zero_le _, Nat.zero_le _⟩ rfl (Nat.le_of_ble_eq_true rfl) (aftV (b' := b) ⟨Nat.le_refl _, Nat.le_refl _⟩ (fun N h => h) h)

theorem vTo_takeAnswer_4 {M : Mm} {b : Nat × Nat} {K : Int32 → Mm → Prop} {v0 : Nat} (kv0 : v0 % 64 = 7) 
    (h : ((gi M v0 1) = 2 → (CI mTo_among [.ref v0, .ref (64 * 1 + 63)] M (fun rv N => X mTo_takeAnswer 24 [(0, .ref v0)] [.int rv] N b (QI K)))) ∧ (¬ (gi M v0 1) = 2 → (CI mTo_fail [.ref v0, .int 2] M (fun rv N => X mTo_takeAnswer 17 [] [.int rv] N b (QI K))))) : X mTo_takeAnswer 4 [(0, .ref v0)] [] M b (QI K) := by
  refine x_wf (fun hw => ?_)
  refine x_aload_n (pc := 4) dTo_takeAnswer_4 rfl (q := 0) rfl ?_
  refine x_getI (pc := 5) dTo_takeAnswer_5 kv0 flTo_15 rfl ?_
  refine x_iconst (pc := 8) dTo_takeAnswer_8 (v := 2) rfl ?_
  obtain ⟨g1_0, g1_1⟩ := h
  refine x_icmp_eq (pc := 9) dTo_takeAnswer_9 (t := 18) rfl (fun q1 => ?_) (fun q1 => ?_)
  · refine x_aload_n (pc := 18) dTo_takeAnswer_18 rfl (q := 0) rfl ?_
    refine x_ldcS (pc := 19) dTo_takeAnswer_19 (j := 1) (by decide) ⟨rfl, rfl⟩ ?_
    have h := g1_0 q1
    exact x_invV (pc := 21) dTo_takeAnswer_21 (c := 7) (S := []) (As := [.ref (64 * 1 + 63)]) mlTo_93 hTo_among rfl (by decide) rfl kv0 ⟨by decide, by decide⟩ ⟨Nat.zero_le _, Nat.zero_le _⟩ rfl (Nat.le_of_ble_eq_true rfl) (aftI (b' := b) ⟨Nat.le_refl _, Nat.le_refl _⟩ (fun rv N h => h) h)
  · refine x_aload_n (pc := 12) dTo_takeAnswer_12 rfl (q := 0) rfl ?_
    refine x_iconst (pc := 13) dTo_takeAnswer_13 (v := 2) rfl ?_
    have h := g1_1 q1
    exact x_invV (pc := 14) dTo_takeAnswer_14 (c := 7) (S := []) (As := [.int 2]) mlTo_31 hTo_fail rfl (by decide) rfl kv0 ⟨by decide, by decide⟩ ⟨Nat.zero_le _, Nat.zero_le _⟩ rfl (Nat.le_of_ble_eq_true rfl) (aftI (b' := b) ⟨Nat.le_refl _, Nat.le_refl _⟩ (fun rv N h => x_loc [] rfl h) h)

theorem vTo_takeAnswer_17 {M : Mm} {b : Nat × Nat} {K : Int32 → Mm → Prop} {w0 : Int32}  
    (h : K w0 M) : X mTo_takeAnswer 17 [] [.int w0] M b (QI K) := by
  refine x_wf (fun hw => ?_)
  exact x_retQI (pc := 17) dTo_takeAnswer_17 rfl rfl h

theorem vTo_takeAnswer_24 {M : Mm} {b : Nat × Nat} {K : Int32 → Mm → Prop} {v0 : Nat} {w0 : Int32} (kv0 : v0 % 64 = 7) 
    (h : (0 ≤ w0 → (K w0 M)) ∧ (¬ 0 ≤ w0 → (CI mTo_fail [.ref v0, .int 3] M (fun rv N => X mTo_takeAnswer 34 [] [.int rv] N b (QI K))))) : X mTo_takeAnswer 24 [(0, .ref v0)] [.int w0] M b (QI K) := by
  refine x_wf (fun hw => ?_)
  refine x_istore_n (pc := 24) dTo_takeAnswer_24 rfl (by decide) (L' := [(1, .int w0), (0, .ref v0)]) rfl ?_
  refine x_iload_n (pc := 25) dTo_takeAnswer_25 rfl (q := 0) rfl ?_
  obtain ⟨g1_0, g1_1⟩ := h
  refine x_if_ge (pc := 26) dTo_takeAnswer_26 (t := 37) rfl (fun q1 => ?_) (fun q1 => ?_)
  · refine x_iload_n (pc := 37) dTo_takeAnswer_37 rfl (q := 0) rfl ?_
    have h := g1_0 q1
    exact x_retQI (pc := 38) dTo_takeAnswer_38 rfl rfl h
  · refine x_aload_n (pc := 29) dTo_takeAnswer_29 rfl (q := 1) rfl ?_
    refine x_iconst (pc := 30) dTo_takeAnswer_30 (v := 3) rfl ?_
    have h := g1_1 q1
    exact x_invV (pc := 31) dTo_takeAnswer_31 (c := 7) (S := []) (As := [.int 3]) mlTo_31 hTo_fail rfl (by decide) rfl kv0 ⟨by decide, by decide⟩ ⟨Nat.zero_le _, Nat.zero_le _⟩ rfl (Nat.le_of_ble_eq_true rfl) (aftI (b' := b) ⟨Nat.le_refl _, Nat.le_refl _⟩ (fun rv N h => x_loc [] rfl h) h)

theorem vTo_takeAnswer_34 {M : Mm} {b : Nat × Nat} {K : Int32 → Mm → Prop} {w0 : Int32}  
    (h : K w0 M) : X mTo_takeAnswer 34 [] [.int w0] M b (QI K) := by
  refine x_wf (fun hw => ?_)
  refine x_goto (pc := 34) dTo_takeAnswer_34 (t := 38) rfl ?_
  exact x_retQI (pc := 38) dTo_takeAnswer_38 rfl rfl h

theorem dTo_closeLine_0 : decode (mB mTo_closeLine) 0 = .ok (.aload_n 0, 1) := op42 (by decide +kernel)
theorem dTo_closeLine_1 : decode (mB mTo_closeLine) 1 = .ok (.getfield 25, 3) := op180 0 25 (by decide +kernel)
theorem dTo_closeLine_4 : decode (mB mTo_closeLine) 4 = .ok (.ifCond .eq 4, 3) := op153 0 4 (by decide +kernel)
theorem dTo_closeLine_7 : decode (mB mTo_closeLine) 7 = .ok (.return_, 1) := op177 (by decide +kernel)
theorem dTo_closeLine_8 : decode (mB mTo_closeLine) 8 = .ok (.aload_n 0, 1) := op42 (by decide +kernel)
theorem dTo_closeLine_9 : decode (mB mTo_closeLine) 9 = .ok (.invokevirtual 74, 3) := op182 0 74 (by decide +kernel)
theorem dTo_closeLine_12 : decode (mB mTo_closeLine) 12 = .ok (.aload_n 0, 1) := op42 (by decide +kernel)
theorem dTo_closeLine_13 : decode (mB mTo_closeLine) 13 = .ok (.getfield 15, 3) := op180 0 15 (by decide +kernel)
theorem dTo_closeLine_16 : decode (mB mTo_closeLine) 16 = .ok (.iconst 5, 1) := op8 (by decide +kernel)
theorem dTo_closeLine_17 : decode (mB mTo_closeLine) 17 = .ok (.if_icmp .eq 10, 3) := op159 0 10 (by decide +kernel)
theorem dTo_closeLine_20 : decode (mB mTo_closeLine) 20 = .ok (.aload_n 0, 1) := op42 (by decide +kernel)
theorem dTo_closeLine_21 : decode (mB mTo_closeLine) 21 = .ok (.iconst 2, 1) := op5 (by decide +kernel)
theorem dTo_closeLine_22 : decode (mB mTo_closeLine) 22 = .ok (.invokevirtual 31, 3) := op182 0 31 (by decide +kernel)
theorem dTo_closeLine_25 : decode (mB mTo_closeLine) 25 = .ok (.pop, 1) := op87 (by decide +kernel)
theorem dTo_closeLine_26 : decode (mB mTo_closeLine) 26 = .ok (.return_, 1) := op177 (by decide +kernel)
theorem dTo_closeLine_27 : decode (mB mTo_closeLine) 27 = .ok (.aload_n 0, 1) := op42 (by decide +kernel)
theorem dTo_closeLine_28 : decode (mB mTo_closeLine) 28 = .ok (.invokevirtual 74, 3) := op182 0 74 (by decide +kernel)
theorem dTo_closeLine_31 : decode (mB mTo_closeLine) 31 = .ok (.return_, 1) := op177 (by decide +kernel)

theorem vTo_closeLine_0 {M : Mm} {b : Nat × Nat} {K : Mm → Prop} {v0 : Nat} (kv0 : v0 % 64 = 7) 
    (h : ((gi M v0 5) = 0 → (CV mTo_advance [.ref v0] M (fun N => X mTo_closeLine 12 [(0, .ref v0)] [] N b (QV K)))) ∧ (¬ (gi M v0 5) = 0 → (K M))) : X mTo_closeLine 0 [(0, .ref v0)] [] M b (QV K) := by
  refine x_wf (fun hw => ?_)
  refine x_aload_n (pc := 0) dTo_closeLine_0 rfl (q := 0) rfl ?_
  refine x_getI (pc := 1) dTo_closeLine_1 kv0 flTo_25 rfl ?_
  obtain ⟨g1_0, g1_1⟩ := h
  refine x_if_eq (pc := 4) dTo_closeLine_4 (t := 8) rfl (fun q1 => ?_) (fun q1 => ?_)
  · refine x_aload_n (pc := 8) dTo_closeLine_8 rfl (q := 0) rfl ?_
    have h := g1_0 q1
    exact x_invV (pc := 9) dTo_closeLine_9 (c := 7) (S := []) (As := []) mlTo_74 hTo_advance rfl (by decide) rfl kv0 ⟨by decide, by decide⟩ ⟨Nat.zero_le _, Nat.zero_le _⟩ rfl (Nat.le_of_ble_eq_true rfl) (aftV (b' := b) ⟨Nat.le_refl _, Nat.le_refl _⟩ (fun N h => h) h)
  · have h := g1_1 q1
    exact x_retQV (pc := 7) dTo_closeLine_7 rfl h

theorem vTo_closeLine_12 {M : Mm} {b : Nat × Nat} {K : Mm → Prop} {v0 : Nat} (kv0 : v0 % 64 = 7) 
    (h : ((gi M v0 1) = 5 → (CV mTo_advance [.ref v0] M (fun N => X mTo_closeLine 31 [] [] N b (QV K)))) ∧ (¬ (gi M v0 1) = 5 → (CI mTo_fail [.ref v0, .int 2] M (fun rv N => X mTo_closeLine 25 [] [.int rv] N b (QV K))))) : X mTo_closeLine 12 [(0, .ref v0)] [] M b (QV K) := by
  refine x_wf (fun hw => ?_)
  refine x_aload_n (pc := 12) dTo_closeLine_12 rfl (q := 0) rfl ?_
  refine x_getI (pc := 13) dTo_closeLine_13 kv0 flTo_15 rfl ?_
  refine x_iconst (pc := 16) dTo_closeLine_16 (v := 5) rfl ?_
  obtain ⟨g1_0, g1_1⟩ := h
  refine x_icmp_eq (pc := 17) dTo_closeLine_17 (t := 27) rfl (fun q1 => ?_) (fun q1 => ?_)
  · refine x_aload_n (pc := 27) dTo_closeLine_27 rfl (q := 0) rfl ?_
    have h := g1_0 q1
    exact x_invV (pc := 28) dTo_closeLine_28 (c := 7) (S := []) (As := []) mlTo_74 hTo_advance rfl (by decide) rfl kv0 ⟨by decide, by decide⟩ ⟨Nat.zero_le _, Nat.zero_le _⟩ rfl (Nat.le_of_ble_eq_true rfl) (aftV (b' := b) ⟨Nat.le_refl _, Nat.le_refl _⟩ (fun N h => x_loc [] rfl h) h)
  · refine x_aload_n (pc := 20) dTo_closeLine_20 rfl (q := 0) rfl ?_
    refine x_iconst (pc := 21) dTo_closeLine_21 (v := 2) rfl ?_
    have h := g1_1 q1
    exact x_invV (pc := 22) dTo_closeLine_22 (c := 7) (S := []) (As := [.int 2]) mlTo_31 hTo_fail rfl (by decide) rfl kv0 ⟨by decide, by decide⟩ ⟨Nat.zero_le _, Nat.zero_le _⟩ rfl (Nat.le_of_ble_eq_true rfl) (aftI (b' := b) ⟨Nat.le_refl _, Nat.le_refl _⟩ (fun rv N h => x_loc [] rfl h) h)

theorem vTo_closeLine_25 {M : Mm} {b : Nat × Nat} {K : Mm → Prop} {w0 : Int32}  
    (h : K M) : X mTo_closeLine 25 [] [.int w0] M b (QV K) := by
  refine x_wf (fun hw => ?_)
  refine x_pop (pc := 25) dTo_closeLine_25 rfl ?_
  exact x_retQV (pc := 26) dTo_closeLine_26 rfl h

theorem vTo_closeLine_31 {M : Mm} {b : Nat × Nat} {K : Mm → Prop}   
    (h : K M) : X mTo_closeLine 31 [] [] M b (QV K) := by
  refine x_wf (fun hw => ?_)
  exact x_retQV (pc := 31) dTo_closeLine_31 rfl h

theorem dTo_failAt_0 : decode (mB mTo_failAt) 0 = .ok (.aload_n 0, 1) := op42 (by decide +kernel)
theorem dTo_failAt_1 : decode (mB mTo_failAt) 1 = .ok (.iload_n 2, 1) := op28 (by decide +kernel)
theorem dTo_failAt_2 : decode (mB mTo_failAt) 2 = .ok (.putfield 19, 3) := op181 0 19 (by decide +kernel)
theorem dTo_failAt_5 : decode (mB mTo_failAt) 5 = .ok (.aload_n 0, 1) := op42 (by decide +kernel)
theorem dTo_failAt_6 : decode (mB mTo_failAt) 6 = .ok (.iload_n 1, 1) := op27 (by decide +kernel)
theorem dTo_failAt_7 : decode (mB mTo_failAt) 7 = .ok (.invokevirtual 31, 3) := op182 0 31 (by decide +kernel)
theorem dTo_failAt_10 : decode (mB mTo_failAt) 10 = .ok (.ireturn, 1) := op172 (by decide +kernel)

theorem vTo_failAt_0 {M : Mm} {b : Nat × Nat} {K : Int32 → Mm → Prop} {v0 : Nat} {v1 : Int32} {v2 : Int32} (kv0 : v0 % 64 = 7) 
    (h : CI mTo_fail [.ref v0, .int v1] (si M v0 2 v2) (fun rv N => X mTo_failAt 10 [] [.int rv] N b (QI K))) : X mTo_failAt 0 [(0, .ref v0), (1, .int v1), (2, .int v2)] [] M b (QI K) := by
  refine x_wf (fun hw => ?_)
  refine x_aload_n (pc := 0) dTo_failAt_0 rfl (q := 0) rfl ?_
  refine x_iload_n (pc := 1) dTo_failAt_1 rfl (q := 2) rfl ?_
  refine x_putI (pc := 2) dTo_failAt_2 kv0 flTo_19 rfl rfl ?_
  refine x_aload_n (pc := 5) dTo_failAt_5 rfl (q := 0) rfl ?_
  refine x_iload_n (pc := 6) dTo_failAt_6 rfl (q := 1) rfl ?_
  exact x_invV (pc := 7) dTo_failAt_7 (c := 7) (S := []) (As := [.int v1]) mlTo_31 hTo_fail rfl (by decide) rfl kv0 ⟨by decide, by decide⟩ ⟨Nat.zero_le _, Nat.zero_le _⟩ rfl (Nat.le_of_ble_eq_true rfl) (aftI (b' := b) ⟨Nat.le_refl _, Nat.le_refl _⟩ (fun rv N h => x_loc [] rfl h) h)

theorem vTo_failAt_10 {M : Mm} {b : Nat × Nat} {K : Int32 → Mm → Prop} {w0 : Int32}  
    (h : K w0 M) : X mTo_failAt 10 [] [.int w0] M b (QI K) := by
  refine x_wf (fun hw => ?_)
  exact x_retQI (pc := 10) dTo_failAt_10 rfl rfl h

theorem dTo_takeOneOf_0 : decode (mB mTo_takeOneOf) 0 = .ok (.aload_n 0, 1) := op42 (by decide +kernel)
theorem dTo_takeOneOf_1 : decode (mB mTo_takeOneOf) 1 = .ok (.invokevirtual 74, 3) := op182 0 74 (by decide +kernel)
theorem dTo_takeOneOf_4 : decode (mB mTo_takeOneOf) 4 = .ok (.aload_n 0, 1) := op42 (by decide +kernel)
theorem dTo_takeOneOf_5 : decode (mB mTo_takeOneOf) 5 = .ok (.getfield 15, 3) := op180 0 15 (by decide +kernel)
theorem dTo_takeOneOf_8 : decode (mB mTo_takeOneOf) 8 = .ok (.iconst 2, 1) := op5 (by decide +kernel)
theorem dTo_takeOneOf_9 : decode (mB mTo_takeOneOf) 9 = .ok (.if_icmp .ne 11, 3) := op160 0 11 (by decide +kernel)
theorem dTo_takeOneOf_12 : decode (mB mTo_takeOneOf) 12 = .ok (.aload_n 0, 1) := op42 (by decide +kernel)
theorem dTo_takeOneOf_13 : decode (mB mTo_takeOneOf) 13 = .ok (.aload_n 1, 1) := op43 (by decide +kernel)
theorem dTo_takeOneOf_14 : decode (mB mTo_takeOneOf) 14 = .ok (.invokevirtual 93, 3) := op182 0 93 (by decide +kernel)
theorem dTo_takeOneOf_17 : decode (mB mTo_takeOneOf) 17 = .ok (.goto 4, 3) := op167 0 4 (by decide +kernel)
theorem dTo_takeOneOf_20 : decode (mB mTo_takeOneOf) 20 = .ok (.iconst (-1), 1) := op2 (by decide +kernel)
theorem dTo_takeOneOf_21 : decode (mB mTo_takeOneOf) 21 = .ok (.istore_n 2, 1) := op61 (by decide +kernel)
theorem dTo_takeOneOf_22 : decode (mB mTo_takeOneOf) 22 = .ok (.iload_n 2, 1) := op28 (by decide +kernel)
theorem dTo_takeOneOf_23 : decode (mB mTo_takeOneOf) 23 = .ok (.ifCond .ge 11, 3) := op156 0 11 (by decide +kernel)
theorem dTo_takeOneOf_26 : decode (mB mTo_takeOneOf) 26 = .ok (.aload_n 0, 1) := op42 (by decide +kernel)
theorem dTo_takeOneOf_27 : decode (mB mTo_takeOneOf) 27 = .ok (.iconst 2, 1) := op5 (by decide +kernel)
theorem dTo_takeOneOf_28 : decode (mB mTo_takeOneOf) 28 = .ok (.invokevirtual 31, 3) := op182 0 31 (by decide +kernel)
theorem dTo_takeOneOf_31 : decode (mB mTo_takeOneOf) 31 = .ok (.goto 4, 3) := op167 0 4 (by decide +kernel)
theorem dTo_takeOneOf_34 : decode (mB mTo_takeOneOf) 34 = .ok (.iload_n 2, 1) := op28 (by decide +kernel)
theorem dTo_takeOneOf_35 : decode (mB mTo_takeOneOf) 35 = .ok (.ireturn, 1) := op172 (by decide +kernel)

theorem vTo_takeOneOf_0 {M : Mm} {b : Nat × Nat} {K : Int32 → Mm → Prop} {v0 : Nat} {j1 : Nat} (kv0 : v0 % 64 = 7) (hj1 : j1 < 6)
    (h : CV mTo_advance [.ref v0] M (fun N => X mTo_takeOneOf 4 [(0, .ref v0), (1, .ref (64 * j1 + 63))] [] N b (QI K))) : X mTo_takeOneOf 0 [(0, .ref v0), (1, .ref (64 * j1 + 63))] [] M b (QI K) := by
  refine x_wf (fun hw => ?_)
  refine x_aload_n (pc := 0) dTo_takeOneOf_0 rfl (q := 0) rfl ?_
  exact x_invV (pc := 1) dTo_takeOneOf_1 (c := 7) (S := []) (As := []) mlTo_74 hTo_advance rfl (by decide) rfl kv0 ⟨by decide, by decide⟩ ⟨Nat.zero_le _, Nat.zero_le _⟩ rfl (Nat.le_of_ble_eq_true rfl) (aftV (b' := b) ⟨Nat.le_refl _, Nat.le_refl _⟩ (fun N h => h) h)

theorem vTo_takeOneOf_4 {M : Mm} {b : Nat × Nat} {K : Int32 → Mm → Prop} {v0 : Nat} {j1 : Nat} (kv0 : v0 % 64 = 7) (hj1 : j1 < 6)
    (h : (¬ (gi M v0 1) = 2 → (X mTo_takeOneOf 21 [(0, .ref v0)] [.int (-1)] M b (QI K))) ∧ ((gi M v0 1) = 2 → (CI mTo_among [.ref v0, .ref (64 * j1 + 63)] M (fun rv N => X mTo_takeOneOf 17 [(0, .ref v0)] [.int rv] N b (QI K))))) : X mTo_takeOneOf 4 [(0, .ref v0), (1, .ref (64 * j1 + 63))] [] M b (QI K) := by
  refine x_wf (fun hw => ?_)
  refine x_aload_n (pc := 4) dTo_takeOneOf_4 rfl (q := 0) rfl ?_
  refine x_getI (pc := 5) dTo_takeOneOf_5 kv0 flTo_15 rfl ?_
  refine x_iconst (pc := 8) dTo_takeOneOf_8 (v := 2) rfl ?_
  obtain ⟨g1_0, g1_1⟩ := h
  refine x_icmp_ne (pc := 9) dTo_takeOneOf_9 (t := 20) rfl (fun q1 => ?_) (fun q1 => ?_)
  · refine x_iconst (pc := 20) dTo_takeOneOf_20 (v := (-1)) rfl ?_
    have h := g1_0 q1
    exact x_loc [0] rfl h
  · refine x_aload_n (pc := 12) dTo_takeOneOf_12 rfl (q := 0) rfl ?_
    refine x_aload_n (pc := 13) dTo_takeOneOf_13 rfl (q := 1) rfl ?_
    have h := g1_1 q1
    exact x_invV (pc := 14) dTo_takeOneOf_14 (c := 7) (S := []) (As := [.ref (64 * j1 + 63)]) mlTo_93 hTo_among rfl (by decide) rfl kv0 ⟨by decide, by decide⟩ ⟨Nat.zero_le _, Nat.zero_le _⟩ rfl (Nat.le_of_ble_eq_true rfl) (aftI (b' := b) ⟨Nat.le_refl _, Nat.le_refl _⟩ (fun rv N h => x_loc [0] rfl h) h)

theorem vTo_takeOneOf_17 {M : Mm} {b : Nat × Nat} {K : Int32 → Mm → Prop} {v0 : Nat} {w0 : Int32}  
    (h : X mTo_takeOneOf 21 [(0, .ref v0)] [.int w0] M b (QI K)) : X mTo_takeOneOf 17 [(0, .ref v0)] [.int w0] M b (QI K) := by
  refine x_wf (fun hw => ?_)
  refine x_goto (pc := 17) dTo_takeOneOf_17 (t := 21) rfl ?_
  exact h

theorem vTo_takeOneOf_21 {M : Mm} {b : Nat × Nat} {K : Int32 → Mm → Prop} {v0 : Nat} {w0 : Int32} (kv0 : v0 % 64 = 7) 
    (h : (0 ≤ w0 → (K w0 M)) ∧ (¬ 0 ≤ w0 → (CI mTo_fail [.ref v0, .int 2] M (fun rv N => X mTo_takeOneOf 31 [] [.int rv] N b (QI K))))) : X mTo_takeOneOf 21 [(0, .ref v0)] [.int w0] M b (QI K) := by
  refine x_wf (fun hw => ?_)
  refine x_istore_n (pc := 21) dTo_takeOneOf_21 rfl (by decide) (L' := [(2, .int w0), (0, .ref v0)]) rfl ?_
  refine x_iload_n (pc := 22) dTo_takeOneOf_22 rfl (q := 0) rfl ?_
  obtain ⟨g1_0, g1_1⟩ := h
  refine x_if_ge (pc := 23) dTo_takeOneOf_23 (t := 34) rfl (fun q1 => ?_) (fun q1 => ?_)
  · refine x_iload_n (pc := 34) dTo_takeOneOf_34 rfl (q := 0) rfl ?_
    have h := g1_0 q1
    exact x_retQI (pc := 35) dTo_takeOneOf_35 rfl rfl h
  · refine x_aload_n (pc := 26) dTo_takeOneOf_26 rfl (q := 1) rfl ?_
    refine x_iconst (pc := 27) dTo_takeOneOf_27 (v := 2) rfl ?_
    have h := g1_1 q1
    exact x_invV (pc := 28) dTo_takeOneOf_28 (c := 7) (S := []) (As := [.int 2]) mlTo_31 hTo_fail rfl (by decide) rfl kv0 ⟨by decide, by decide⟩ ⟨Nat.zero_le _, Nat.zero_le _⟩ rfl (Nat.le_of_ble_eq_true rfl) (aftI (b' := b) ⟨Nat.le_refl _, Nat.le_refl _⟩ (fun rv N h => x_loc [] rfl h) h)

theorem vTo_takeOneOf_31 {M : Mm} {b : Nat × Nat} {K : Int32 → Mm → Prop} {w0 : Int32}  
    (h : K w0 M) : X mTo_takeOneOf 31 [] [.int w0] M b (QI K) := by
  refine x_wf (fun hw => ?_)
  refine x_goto (pc := 31) dTo_takeOneOf_31 (t := 35) rfl ?_
  exact x_retQI (pc := 35) dTo_takeOneOf_35 rfl rfl h

theorem dRu_isMain_0 : decode (mB mRu_isMain) 0 = .ok (.aload_n 0, 1) := op42 (by decide +kernel)
theorem dRu_isMain_1 : decode (mB mRu_isMain) 1 = .ok (.getfield 14, 3) := op180 0 14 (by decide +kernel)
theorem dRu_isMain_4 : decode (mB mRu_isMain) 4 = .ok (.iload_n 1, 1) := op27 (by decide +kernel)
theorem dRu_isMain_5 : decode (mB mRu_isMain) 5 = .ok (.iushr, 1) := op124 (by decide +kernel)
theorem dRu_isMain_6 : decode (mB mRu_isMain) 6 = .ok (.iconst 1, 1) := op4 (by decide +kernel)
theorem dRu_isMain_7 : decode (mB mRu_isMain) 7 = .ok (.iand, 1) := op126 (by decide +kernel)
theorem dRu_isMain_8 : decode (mB mRu_isMain) 8 = .ok (.iconst 1, 1) := op4 (by decide +kernel)
theorem dRu_isMain_9 : decode (mB mRu_isMain) 9 = .ok (.if_icmp .ne 7, 3) := op160 0 7 (by decide +kernel)
theorem dRu_isMain_12 : decode (mB mRu_isMain) 12 = .ok (.iconst 1, 1) := op4 (by decide +kernel)
theorem dRu_isMain_13 : decode (mB mRu_isMain) 13 = .ok (.goto 4, 3) := op167 0 4 (by decide +kernel)
theorem dRu_isMain_16 : decode (mB mRu_isMain) 16 = .ok (.iconst 0, 1) := op3 (by decide +kernel)
theorem dRu_isMain_17 : decode (mB mRu_isMain) 17 = .ok (.ireturn, 1) := op172 (by decide +kernel)

theorem vRu_isMain_0 {M : Mm} {b : Nat × Nat} {K : Int32 → Mm → Prop} {v0 : Nat} {v1 : Int32} (kv0 : v0 % 64 = 3) 
    (h : K (if ((ushr (gi M v0 0) v1) &&& 1) = 1 then 1 else 0 : Int32) M) : X mRu_isMain 0 [(0, .ref v0), (1, .int v1)] [] M b (QI K) := by
  refine x_wf (fun hw => ?_)
  refine x_aload_n (pc := 0) dRu_isMain_0 rfl (q := 0) rfl ?_
  refine x_getI (pc := 1) dRu_isMain_1 kv0 flRu_14 rfl ?_
  refine x_iload_n (pc := 4) dRu_isMain_4 rfl (q := 1) rfl ?_
  refine x_iushr (pc := 5) dRu_isMain_5 ?_
  refine x_iconst (pc := 6) dRu_isMain_6 (v := 1) rfl ?_
  refine x_iand (pc := 7) dRu_isMain_7 ?_
  refine x_iconst (pc := 8) dRu_isMain_8 (v := 1) rfl ?_
  suffices hJ : X mRu_isMain 17 [(0, .ref v0), (1, .int v1)] [.int (if ((ushr (gi M v0 0) v1) &&& 1) = 1 then 1 else 0 : Int32)] M b (QI K) by
    refine x_icmp_ne (pc := 9) dRu_isMain_9 (t := 16) rfl (fun q1 => ?_) (fun q1 => ?_)
    · refine x_iconst (pc := 16) dRu_isMain_16 (v := 0) rfl ?_
      first | (rw [if_neg q1] at hJ; exact hJ) | (simp only [if_neg q1] at hJ ⊢; exact hJ)
    · refine x_iconst (pc := 12) dRu_isMain_12 (v := 1) rfl ?_
      refine x_goto (pc := 13) dRu_isMain_13 (t := 17) rfl ?_
      first | (rw [if_pos q1] at hJ; exact hJ) | (simp only [if_pos q1] at hJ ⊢; exact hJ)
  exact x_retQI (pc := 17) dRu_isMain_17 rfl (by (repeat' split) <;> rfl) h

theorem dRu_becomeAs_0 : decode (mB mRu_becomeAs) 0 = .ok (.aload_n 0, 1) := op42 (by decide +kernel)
theorem dRu_becomeAs_1 : decode (mB mRu_becomeAs) 1 = .ok (.aload_n 1, 1) := op43 (by decide +kernel)
theorem dRu_becomeAs_2 : decode (mB mRu_becomeAs) 2 = .ok (.getfield 14, 3) := op180 0 14 (by decide +kernel)
theorem dRu_becomeAs_5 : decode (mB mRu_becomeAs) 5 = .ok (.putfield 14, 3) := op181 0 14 (by decide +kernel)
theorem dRu_becomeAs_8 : decode (mB mRu_becomeAs) 8 = .ok (.aload_n 0, 1) := op42 (by decide +kernel)
theorem dRu_becomeAs_9 : decode (mB mRu_becomeAs) 9 = .ok (.aload_n 1, 1) := op43 (by decide +kernel)
theorem dRu_becomeAs_10 : decode (mB mRu_becomeAs) 10 = .ok (.getfield 18, 3) := op180 0 18 (by decide +kernel)
theorem dRu_becomeAs_13 : decode (mB mRu_becomeAs) 13 = .ok (.putfield 18, 3) := op181 0 18 (by decide +kernel)
theorem dRu_becomeAs_16 : decode (mB mRu_becomeAs) 16 = .ok (.aload_n 0, 1) := op42 (by decide +kernel)
theorem dRu_becomeAs_17 : decode (mB mRu_becomeAs) 17 = .ok (.aload_n 1, 1) := op43 (by decide +kernel)
theorem dRu_becomeAs_18 : decode (mB mRu_becomeAs) 18 = .ok (.getfield 21, 3) := op180 0 21 (by decide +kernel)
theorem dRu_becomeAs_21 : decode (mB mRu_becomeAs) 21 = .ok (.putfield 21, 3) := op181 0 21 (by decide +kernel)
theorem dRu_becomeAs_24 : decode (mB mRu_becomeAs) 24 = .ok (.aload_n 0, 1) := op42 (by decide +kernel)
theorem dRu_becomeAs_25 : decode (mB mRu_becomeAs) 25 = .ok (.aload_n 1, 1) := op43 (by decide +kernel)
theorem dRu_becomeAs_26 : decode (mB mRu_becomeAs) 26 = .ok (.getfield 25, 3) := op180 0 25 (by decide +kernel)
theorem dRu_becomeAs_29 : decode (mB mRu_becomeAs) 29 = .ok (.putfield 25, 3) := op181 0 25 (by decide +kernel)
theorem dRu_becomeAs_32 : decode (mB mRu_becomeAs) 32 = .ok (.aload_n 0, 1) := op42 (by decide +kernel)
theorem dRu_becomeAs_33 : decode (mB mRu_becomeAs) 33 = .ok (.aload_n 1, 1) := op43 (by decide +kernel)
theorem dRu_becomeAs_34 : decode (mB mRu_becomeAs) 34 = .ok (.getfield 28, 3) := op180 0 28 (by decide +kernel)
theorem dRu_becomeAs_37 : decode (mB mRu_becomeAs) 37 = .ok (.putfield 28, 3) := op181 0 28 (by decide +kernel)
theorem dRu_becomeAs_40 : decode (mB mRu_becomeAs) 40 = .ok (.aload_n 0, 1) := op42 (by decide +kernel)
theorem dRu_becomeAs_41 : decode (mB mRu_becomeAs) 41 = .ok (.aload_n 1, 1) := op43 (by decide +kernel)
theorem dRu_becomeAs_42 : decode (mB mRu_becomeAs) 42 = .ok (.getfield 31, 3) := op180 0 31 (by decide +kernel)
theorem dRu_becomeAs_45 : decode (mB mRu_becomeAs) 45 = .ok (.putfield 31, 3) := op181 0 31 (by decide +kernel)
theorem dRu_becomeAs_48 : decode (mB mRu_becomeAs) 48 = .ok (.aload_n 0, 1) := op42 (by decide +kernel)
theorem dRu_becomeAs_49 : decode (mB mRu_becomeAs) 49 = .ok (.aload_n 1, 1) := op43 (by decide +kernel)
theorem dRu_becomeAs_50 : decode (mB mRu_becomeAs) 50 = .ok (.getfield 34, 3) := op180 0 34 (by decide +kernel)
theorem dRu_becomeAs_53 : decode (mB mRu_becomeAs) 53 = .ok (.putfield 34, 3) := op181 0 34 (by decide +kernel)
theorem dRu_becomeAs_56 : decode (mB mRu_becomeAs) 56 = .ok (.return_, 1) := op177 (by decide +kernel)

theorem vRu_becomeAs_0 {M : Mm} {b : Nat × Nat} {K : Mm → Prop} {v0 : Nat} {v1 : Nat} (kv1 : v1 % 64 = 3) (kv0 : v0 % 64 = 3) 
    (h : (gi (si (si M v0 0 (gi M v1 0)) v0 1 (gi (si M v0 0 (gi M v1 0)) v1 1)) v1 2 = 0 ∨ gi (si (si M v0 0 (gi M v1 0)) v0 1 (gi (si M v0 0 (gi M v1 0)) v1 1)) v1 2 = 1) ∧ (K (si (si (si (si (si (si (si M v0 0 (gi M v1 0)) v0 1 (gi (si M v0 0 (gi M v1 0)) v1 1)) v0 2 (gi (si (si M v0 0 (gi M v1 0)) v0 1 (gi (si M v0 0 (gi M v1 0)) v1 1)) v1 2)) v0 3 (gi (si (si (si M v0 0 (gi M v1 0)) v0 1 (gi (si M v0 0 (gi M v1 0)) v1 1)) v0 2 (gi (si (si M v0 0 (gi M v1 0)) v0 1 (gi (si M v0 0 (gi M v1 0)) v1 1)) v1 2)) v1 3)) v0 4 (gi (si (si (si (si M v0 0 (gi M v1 0)) v0 1 (gi (si M v0 0 (gi M v1 0)) v1 1)) v0 2 (gi (si (si M v0 0 (gi M v1 0)) v0 1 (gi (si M v0 0 (gi M v1 0)) v1 1)) v1 2)) v0 3 (gi (si (si (si M v0 0 (gi M v1 0)) v0 1 (gi (si M v0 0 (gi M v1 0)) v1 1)) v0 2 (gi (si (si M v0 0 (gi M v1 0)) v0 1 (gi (si M v0 0 (gi M v1 0)) v1 1)) v1 2)) v1 3)) v1 4)) v0 5 (gi (si (si (si (si (si M v0 0 (gi M v1 0)) v0 1 (gi (si M v0 0 (gi M v1 0)) v1 1)) v0 2 (gi (si (si M v0 0 (gi M v1 0)) v0 1 (gi (si M v0 0 (gi M v1 0)) v1 1)) v1 2)) v0 3 (gi (si (si (si M v0 0 (gi M v1 0)) v0 1 (gi (si M v0 0 (gi M v1 0)) v1 1)) v0 2 (gi (si (si M v0 0 (gi M v1 0)) v0 1 (gi (si M v0 0 (gi M v1 0)) v1 1)) v1 2)) v1 3)) v0 4 (gi (si (si (si (si M v0 0 (gi M v1 0)) v0 1 (gi (si M v0 0 (gi M v1 0)) v1 1)) v0 2 (gi (si (si M v0 0 (gi M v1 0)) v0 1 (gi (si M v0 0 (gi M v1 0)) v1 1)) v1 2)) v0 3 (gi (si (si (si M v0 0 (gi M v1 0)) v0 1 (gi (si M v0 0 (gi M v1 0)) v1 1)) v0 2 (gi (si (si M v0 0 (gi M v1 0)) v0 1 (gi (si M v0 0 (gi M v1 0)) v1 1)) v1 2)) v1 3)) v1 4)) v1 5)) v0 6 (gi (si (si (si (si (si (si M v0 0 (gi M v1 0)) v0 1 (gi (si M v0 0 (gi M v1 0)) v1 1)) v0 2 (gi (si (si M v0 0 (gi M v1 0)) v0 1 (gi (si M v0 0 (gi M v1 0)) v1 1)) v1 2)) v0 3 (gi (si (si (si M v0 0 (gi M v1 0)) v0 1 (gi (si M v0 0 (gi M v1 0)) v1 1)) v0 2 (gi (si (si M v0 0 (gi M v1 0)) v0 1 (gi (si M v0 0 (gi M v1 0)) v1 1)) v1 2)) v1 3)) v0 4 (gi (si (si (si (si M v0 0 (gi M v1 0)) v0 1 (gi (si M v0 0 (gi M v1 0)) v1 1)) v0 2 (gi (si (si M v0 0 (gi M v1 0)) v0 1 (gi (si M v0 0 (gi M v1 0)) v1 1)) v1 2)) v0 3 (gi (si (si (si M v0 0 (gi M v1 0)) v0 1 (gi (si M v0 0 (gi M v1 0)) v1 1)) v0 2 (gi (si (si M v0 0 (gi M v1 0)) v0 1 (gi (si M v0 0 (gi M v1 0)) v1 1)) v1 2)) v1 3)) v1 4)) v0 5 (gi (si (si (si (si (si M v0 0 (gi M v1 0)) v0 1 (gi (si M v0 0 (gi M v1 0)) v1 1)) v0 2 (gi (si (si M v0 0 (gi M v1 0)) v0 1 (gi (si M v0 0 (gi M v1 0)) v1 1)) v1 2)) v0 3 (gi (si (si (si M v0 0 (gi M v1 0)) v0 1 (gi (si M v0 0 (gi M v1 0)) v1 1)) v0 2 (gi (si (si M v0 0 (gi M v1 0)) v0 1 (gi (si M v0 0 (gi M v1 0)) v1 1)) v1 2)) v1 3)) v0 4 (gi (si (si (si (si M v0 0 (gi M v1 0)) v0 1 (gi (si M v0 0 (gi M v1 0)) v1 1)) v0 2 (gi (si (si M v0 0 (gi M v1 0)) v0 1 (gi (si M v0 0 (gi M v1 0)) v1 1)) v1 2)) v0 3 (gi (si (si (si M v0 0 (gi M v1 0)) v0 1 (gi (si M v0 0 (gi M v1 0)) v1 1)) v0 2 (gi (si (si M v0 0 (gi M v1 0)) v0 1 (gi (si M v0 0 (gi M v1 0)) v1 1)) v1 2)) v1 3)) v1 4)) v1 5)) v1 6)))) : X mRu_becomeAs 0 [(0, .ref v0), (1, .ref v1)] [] M b (QV K) := by
  refine x_wf (fun hw => ?_)
  refine x_aload_n (pc := 0) dRu_becomeAs_0 rfl (q := 0) rfl ?_
  refine x_aload_n (pc := 1) dRu_becomeAs_1 rfl (q := 1) rfl ?_
  refine x_getI (pc := 2) dRu_becomeAs_2 kv1 flRu_14 rfl ?_
  refine x_putI (pc := 5) dRu_becomeAs_5 kv0 flRu_14 rfl rfl ?_
  refine x_aload_n (pc := 8) dRu_becomeAs_8 rfl (q := 0) rfl ?_
  refine x_aload_n (pc := 9) dRu_becomeAs_9 rfl (q := 1) rfl ?_
  refine x_getI (pc := 10) dRu_becomeAs_10 kv1 flRu_18 rfl ?_
  refine x_putI (pc := 13) dRu_becomeAs_13 kv0 flRu_18 rfl rfl ?_
  refine x_aload_n (pc := 16) dRu_becomeAs_16 rfl (q := 0) rfl ?_
  refine x_aload_n (pc := 17) dRu_becomeAs_17 rfl (q := 1) rfl ?_
  refine x_getI (pc := 18) dRu_becomeAs_18 kv1 flRu_21 rfl ?_
  obtain ⟨s501, h⟩ := h
  refine x_putZ (pc := 21) dRu_becomeAs_21 kv0 flRu_21 rfl rfl s501 ?_
  refine x_aload_n (pc := 24) dRu_becomeAs_24 rfl (q := 0) rfl ?_
  refine x_aload_n (pc := 25) dRu_becomeAs_25 rfl (q := 1) rfl ?_
  refine x_getI (pc := 26) dRu_becomeAs_26 kv1 flRu_25 rfl ?_
  refine x_putI (pc := 29) dRu_becomeAs_29 kv0 flRu_25 rfl rfl ?_
  refine x_aload_n (pc := 32) dRu_becomeAs_32 rfl (q := 0) rfl ?_
  refine x_aload_n (pc := 33) dRu_becomeAs_33 rfl (q := 1) rfl ?_
  refine x_getI (pc := 34) dRu_becomeAs_34 kv1 flRu_28 rfl ?_
  refine x_putI (pc := 37) dRu_becomeAs_37 kv0 flRu_28 rfl rfl ?_
  refine x_aload_n (pc := 40) dRu_becomeAs_40 rfl (q := 0) rfl ?_
  refine x_aload_n (pc := 41) dRu_becomeAs_41 rfl (q := 1) rfl ?_
  refine x_getI (pc := 42) dRu_becomeAs_42 kv1 flRu_31 rfl ?_
  refine x_putI (pc := 45) dRu_becomeAs_45 kv0 flRu_31 rfl rfl ?_
  refine x_aload_n (pc := 48) dRu_becomeAs_48 rfl (q := 0) rfl ?_
  refine x_aload_n (pc := 49) dRu_becomeAs_49 rfl (q := 1) rfl ?_
  refine x_getI (pc := 50) dRu_becomeAs_50 kv1 flRu_34 rfl ?_
  refine x_putI (pc := 53) dRu_becomeAs_53 kv0 flRu_34 rfl rfl ?_
  exact x_retQV (pc := 56) dRu_becomeAs_56 rfl h

theorem dSh_renew_0 : decode (mB mSh_renew) 0 = .ok (.aload_n 0, 1) := op42 (by decide +kernel)
theorem dSh_renew_1 : decode (mB mSh_renew) 1 = .ok (.iload_n 1, 1) := op27 (by decide +kernel)
theorem dSh_renew_2 : decode (mB mSh_renew) 2 = .ok (.putfield 15, 3) := op181 0 15 (by decide +kernel)
theorem dSh_renew_5 : decode (mB mSh_renew) 5 = .ok (.aload_n 0, 1) := op42 (by decide +kernel)
theorem dSh_renew_6 : decode (mB mSh_renew) 6 = .ok (.iload_n 2, 1) := op28 (by decide +kernel)
theorem dSh_renew_7 : decode (mB mSh_renew) 7 = .ok (.putfield 19, 3) := op181 0 19 (by decide +kernel)
theorem dSh_renew_10 : decode (mB mSh_renew) 10 = .ok (.aload_n 0, 1) := op42 (by decide +kernel)
theorem dSh_renew_11 : decode (mB mSh_renew) 11 = .ok (.getfield 9, 3) := op180 0 9 (by decide +kernel)
theorem dSh_renew_14 : decode (mB mSh_renew) 14 = .ok (.iconst 0, 1) := op3 (by decide +kernel)
theorem dSh_renew_15 : decode (mB mSh_renew) 15 = .ok (.invokestatic 22, 3) := op184 0 22 (by decide +kernel)
theorem dSh_renew_18 : decode (mB mSh_renew) 18 = .ok (.return_, 1) := op177 (by decide +kernel)

theorem vSh_renew_0 {M : Mm} {b : Nat × Nat} {K : Mm → Prop} {v0 : Nat} {v1 : Int32} {v2 : Int32} {r1 : Nat} (kv0 : v0 % 64 = 5) (e1 : gr M v0 0 = some r1)
    (h : CV mJr_fill [.ref r1, .int 0] (si (si M v0 1 v1) v0 2 v2) (fun N => X mSh_renew 18 [] [] N b (QV K))) : X mSh_renew 0 [(0, .ref v0), (1, .int v1), (2, .int v2)] [] M b (QV K) := by
  refine x_wf (fun hw => ?_)
  refine x_aload_n (pc := 0) dSh_renew_0 rfl (q := 0) rfl ?_
  refine x_iload_n (pc := 1) dSh_renew_1 rfl (q := 1) rfl ?_
  refine x_putI (pc := 2) dSh_renew_2 kv0 flSh_15 rfl rfl ?_
  refine x_aload_n (pc := 5) dSh_renew_5 rfl (q := 0) rfl ?_
  refine x_iload_n (pc := 6) dSh_renew_6 rfl (q := 2) rfl ?_
  refine x_putI (pc := 7) dSh_renew_7 kv0 flSh_19 rfl rfl ?_
  refine x_aload_n (pc := 10) dSh_renew_10 rfl (q := 0) rfl ?_
  refine x_getR (pc := 11) dSh_renew_11 kv0 flSh_9 rfl e1 ?_
  refine x_iconst (pc := 14) dSh_renew_14 (v := 0) rfl ?_
  exact x_invS (pc := 15) dSh_renew_15 (S := []) (As := [.ref r1, .int 0]) mlSh_22 hJr_fill rfl ⟨by decide, by decide⟩ ⟨Nat.zero_le _, Nat.zero_le _⟩ rfl (Nat.le_of_ble_eq_true rfl) (aftV (b' := b) ⟨Nat.le_refl _, Nat.le_refl _⟩ (fun N h => x_loc [] rfl h) h)

theorem vSh_renew_18 {M : Mm} {b : Nat × Nat} {K : Mm → Prop}   
    (h : K M) : X mSh_renew 18 [] [] M b (QV K) := by
  refine x_wf (fun hw => ?_)
  exact x_retQV (pc := 18) dSh_renew_18 rfl h

theorem dSh_isNothing_0 : decode (mB mSh_isNothing) 0 = .ok (.aload_n 0, 1) := op42 (by decide +kernel)
theorem dSh_isNothing_1 : decode (mB mSh_isNothing) 1 = .ok (.getfield 15, 3) := op180 0 15 (by decide +kernel)
theorem dSh_isNothing_4 : decode (mB mSh_isNothing) 4 = .ok (.bipush (-4), 2) := op16 252 (by decide +kernel)
theorem dSh_isNothing_6 : decode (mB mSh_isNothing) 6 = .ok (.if_icmp .ne 7, 3) := op160 0 7 (by decide +kernel)
theorem dSh_isNothing_9 : decode (mB mSh_isNothing) 9 = .ok (.iconst 1, 1) := op4 (by decide +kernel)
theorem dSh_isNothing_10 : decode (mB mSh_isNothing) 10 = .ok (.goto 4, 3) := op167 0 4 (by decide +kernel)
theorem dSh_isNothing_13 : decode (mB mSh_isNothing) 13 = .ok (.iconst 0, 1) := op3 (by decide +kernel)
theorem dSh_isNothing_14 : decode (mB mSh_isNothing) 14 = .ok (.ireturn, 1) := op172 (by decide +kernel)

theorem vSh_isNothing_0 {M : Mm} {b : Nat × Nat} {K : Int32 → Mm → Prop} {v0 : Nat} (kv0 : v0 % 64 = 5) 
    (h : K (if (gi M v0 1) = (-4) then 1 else 0 : Int32) M) : X mSh_isNothing 0 [(0, .ref v0)] [] M b (QI K) := by
  refine x_wf (fun hw => ?_)
  refine x_aload_n (pc := 0) dSh_isNothing_0 rfl (q := 0) rfl ?_
  refine x_getI (pc := 1) dSh_isNothing_1 kv0 flSh_15 rfl ?_
  refine x_bipush (pc := 4) dSh_isNothing_4 (v := (-4)) rfl ?_
  suffices hJ : X mSh_isNothing 14 [(0, .ref v0)] [.int (if (gi M v0 1) = (-4) then 1 else 0 : Int32)] M b (QI K) by
    refine x_icmp_ne (pc := 6) dSh_isNothing_6 (t := 13) rfl (fun q1 => ?_) (fun q1 => ?_)
    · refine x_iconst (pc := 13) dSh_isNothing_13 (v := 0) rfl ?_
      first | (rw [if_neg q1] at hJ; exact hJ) | (simp only [if_neg q1] at hJ ⊢; exact hJ)
    · refine x_iconst (pc := 9) dSh_isNothing_9 (v := 1) rfl ?_
      refine x_goto (pc := 10) dSh_isNothing_10 (t := 14) rfl ?_
      first | (rw [if_pos q1] at hJ; exact hJ) | (simp only [if_pos q1] at hJ ⊢; exact hJ)
  exact x_retQI (pc := 14) dSh_isNothing_14 rfl (by (repeat' split) <;> rfl) h

theorem dSh_hasCell_0 : decode (mB mSh_hasCell) 0 = .ok (.iload_n 1, 1) := op27 (by decide +kernel)
theorem dSh_hasCell_1 : decode (mB mSh_hasCell) 1 = .ok (.ifCond .lt 15, 3) := op155 0 15 (by decide +kernel)
theorem dSh_hasCell_4 : decode (mB mSh_hasCell) 4 = .ok (.iload_n 1, 1) := op27 (by decide +kernel)
theorem dSh_hasCell_5 : decode (mB mSh_hasCell) 5 = .ok (.aload_n 0, 1) := op42 (by decide +kernel)
theorem dSh_hasCell_6 : decode (mB mSh_hasCell) 6 = .ok (.getfield 19, 3) := op180 0 19 (by decide +kernel)
theorem dSh_hasCell_9 : decode (mB mSh_hasCell) 9 = .ok (.if_icmp .ge 7, 3) := op162 0 7 (by decide +kernel)
theorem dSh_hasCell_12 : decode (mB mSh_hasCell) 12 = .ok (.iconst 1, 1) := op4 (by decide +kernel)
theorem dSh_hasCell_13 : decode (mB mSh_hasCell) 13 = .ok (.goto 4, 3) := op167 0 4 (by decide +kernel)
theorem dSh_hasCell_16 : decode (mB mSh_hasCell) 16 = .ok (.iconst 0, 1) := op3 (by decide +kernel)
theorem dSh_hasCell_17 : decode (mB mSh_hasCell) 17 = .ok (.ireturn, 1) := op172 (by decide +kernel)

theorem vSh_hasCell_0 {M : Mm} {b : Nat × Nat} {K : Int32 → Mm → Prop} {v0 : Nat} {v1 : Int32} (kv0 : v0 % 64 = 5) 
    (h : (((v1 < 0) ∨ (¬ v1 < 0 ∧ (gi M v0 2) ≤ v1)) → (K 0 M)) ∧ ((¬ v1 < 0 ∧ ¬ (gi M v0 2) ≤ v1) → (K 1 M))) : X mSh_hasCell 0 [(0, .ref v0), (1, .int v1)] [] M b (QI K) := by
  refine x_wf (fun hw => ?_)
  refine x_iload_n (pc := 0) dSh_hasCell_0 rfl (q := 1) rfl ?_
  obtain ⟨g1_0, g1_1⟩ := h
  have g1_k0 : (v1 < 0) ∨ (¬ v1 < 0 ∧ (gi M v0 2) ≤ v1) → X mSh_hasCell 16 [(0, .ref v0), (1, .int v1)] [] M b (QI K) := fun q => by
    have h := g1_0 q
    refine x_iconst (pc := 16) dSh_hasCell_16 (v := 0) rfl ?_
    exact x_retQI (pc := 17) dSh_hasCell_17 rfl (by (repeat' split) <;> rfl) h
  refine x_if_lt (pc := 1) dSh_hasCell_1 (t := 16) rfl (fun q1 => ?_) (fun q1 => ?_)
  · exact g1_k0 (Or.inl q1)
  · refine x_iload_n (pc := 4) dSh_hasCell_4 rfl (q := 1) rfl ?_
    refine x_aload_n (pc := 5) dSh_hasCell_5 rfl (q := 0) rfl ?_
    refine x_getI (pc := 6) dSh_hasCell_6 kv0 flSh_19 rfl ?_
    refine x_icmp_ge (pc := 9) dSh_hasCell_9 (t := 16) rfl (fun q2 => ?_) (fun q2 => ?_)
    · exact g1_k0 (Or.inr ⟨q1, q2⟩)
    · refine x_iconst (pc := 12) dSh_hasCell_12 (v := 1) rfl ?_
      refine x_goto (pc := 13) dSh_hasCell_13 (t := 17) rfl ?_
      have h := g1_1 ⟨q1, q2⟩
      exact x_retQI (pc := 17) dSh_hasCell_17 rfl (by (repeat' split) <;> rfl) h

theorem dSh_put_0 : decode (mB mSh_put) 0 = .ok (.aload_n 0, 1) := op42 (by decide +kernel)
theorem dSh_put_1 : decode (mB mSh_put) 1 = .ok (.getfield 9, 3) := op180 0 9 (by decide +kernel)
theorem dSh_put_4 : decode (mB mSh_put) 4 = .ok (.iload_n 1, 1) := op27 (by decide +kernel)
theorem dSh_put_5 : decode (mB mSh_put) 5 = .ok (.aload_n 0, 1) := op42 (by decide +kernel)
theorem dSh_put_6 : decode (mB mSh_put) 6 = .ok (.getfield 15, 3) := op180 0 15 (by decide +kernel)
theorem dSh_put_9 : decode (mB mSh_put) 9 = .ok (.ifCond .ne 8, 3) := op154 0 8 (by decide +kernel)
theorem dSh_put_12 : decode (mB mSh_put) 12 = .ok (.iload_n 2, 1) := op28 (by decide +kernel)
theorem dSh_put_13 : decode (mB mSh_put) 13 = .ok (.i2b, 1) := op145 (by decide +kernel)
theorem dSh_put_14 : decode (mB mSh_put) 14 = .ok (.goto 17, 3) := op167 0 17 (by decide +kernel)
theorem dSh_put_17 : decode (mB mSh_put) 17 = .ok (.aload_n 0, 1) := op42 (by decide +kernel)
theorem dSh_put_18 : decode (mB mSh_put) 18 = .ok (.getfield 15, 3) := op180 0 15 (by decide +kernel)
theorem dSh_put_21 : decode (mB mSh_put) 21 = .ok (.iconst 1, 1) := op4 (by decide +kernel)
theorem dSh_put_22 : decode (mB mSh_put) 22 = .ok (.if_icmp .ne 8, 3) := op160 0 8 (by decide +kernel)
theorem dSh_put_25 : decode (mB mSh_put) 25 = .ok (.iload_n 2, 1) := op28 (by decide +kernel)
theorem dSh_put_26 : decode (mB mSh_put) 26 = .ok (.i2s, 1) := op147 (by decide +kernel)
theorem dSh_put_27 : decode (mB mSh_put) 27 = .ok (.goto 4, 3) := op167 0 4 (by decide +kernel)
theorem dSh_put_30 : decode (mB mSh_put) 30 = .ok (.iload_n 2, 1) := op28 (by decide +kernel)
theorem dSh_put_31 : decode (mB mSh_put) 31 = .ok (.iastore, 1) := op79 (by decide +kernel)
theorem dSh_put_32 : decode (mB mSh_put) 32 = .ok (.return_, 1) := op177 (by decide +kernel)

theorem vSh_put_0 {M : Mm} {b : Nat × Nat} {K : Mm → Prop} {v0 : Nat} {v1 : Int32} {v2 : Int32} {r1 : Nat} (kv0 : v0 % 64 = 5) (e1 : gr M v0 0 = some r1)
    (h : vp_in v1 40 ∧ (K (si M r1 (v1).toNatClampNeg (if (gi M v0 1) = 0 then ((v2).toInt8.toInt32) else (if (gi M v0 1) = 1 then ((v2).toInt16.toInt32) else v2 : Int32) : Int32)))) : X mSh_put 0 [(0, .ref v0), (1, .int v1), (2, .int v2)] [] M b (QV K) := by
  refine x_wf (fun hw => ?_)
  refine x_aload_n (pc := 0) dSh_put_0 rfl (q := 0) rfl ?_
  refine x_getR (pc := 1) dSh_put_1 kv0 flSh_9 rfl e1 ?_
  refine x_iload_n (pc := 4) dSh_put_4 rfl (q := 1) rfl ?_
  refine x_aload_n (pc := 5) dSh_put_5 rfl (q := 0) rfl ?_
  refine x_getI (pc := 6) dSh_put_6 kv0 flSh_15 rfl ?_
  suffices hJ : X mSh_put 31 [(0, .ref v0), (1, .int v1), (2, .int v2)] [.int (if (gi M v0 1) = 0 then ((v2).toInt8.toInt32) else (if (gi M v0 1) = 1 then ((v2).toInt16.toInt32) else v2 : Int32) : Int32), .int v1, .ref r1] M b (QV K) by
    refine x_if_ne (pc := 9) dSh_put_9 (t := 17) rfl (fun q1 => ?_) (fun q1 => ?_)
    · refine x_aload_n (pc := 17) dSh_put_17 rfl (q := 0) rfl ?_
      refine x_getI (pc := 18) dSh_put_18 kv0 flSh_15 rfl ?_
      refine x_iconst (pc := 21) dSh_put_21 (v := 1) rfl ?_
      refine x_icmp_ne (pc := 22) dSh_put_22 (t := 30) rfl (fun q2 => ?_) (fun q2 => ?_)
      · refine x_iload_n (pc := 30) dSh_put_30 rfl (q := 2) rfl ?_
        first | (rw [if_neg q1, if_neg q2] at hJ; exact hJ) | (simp only [if_neg q1, if_neg q2] at hJ ⊢; exact hJ)
      · refine x_iload_n (pc := 25) dSh_put_25 rfl (q := 2) rfl ?_
        refine x_i2s (pc := 26) dSh_put_26 ?_
        refine x_goto (pc := 27) dSh_put_27 (t := 31) rfl ?_
        first | (rw [if_neg q1, if_pos q2] at hJ; exact hJ) | (simp only [if_neg q1, if_pos q2] at hJ ⊢; exact hJ)
    · refine x_iload_n (pc := 12) dSh_put_12 rfl (q := 2) rfl ?_
      refine x_i2b (pc := 13) dSh_put_13 ?_
      refine x_goto (pc := 14) dSh_put_14 (t := 31) rfl ?_
      first | (rw [if_pos q1] at hJ; exact hJ) | (simp only [if_pos q1] at hJ ⊢; exact hJ)
  obtain ⟨s501, h⟩ := h
  refine x_astIj (pc := 31) (j := (v1).toNatClampNeg) (v := (if (gi M v0 1) = 0 then ((v2).toInt8.toInt32) else (if (gi M v0 1) = 1 then ((v2).toInt16.toInt32) else v2 : Int32) : Int32)) (Or.inl ⟨rfl, rfl, rfl⟩) dSh_put_31 (wfk hw e1 kv0) ak_20 rfl s501 ?_
  exact x_retQV (pc := 32) dSh_put_32 rfl h

