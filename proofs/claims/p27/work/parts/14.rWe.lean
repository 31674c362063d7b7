theorem dWe_init_0 : decode (mB mWe_init) 0 = .ok (.aload_n 0, 1) := op42 (by decide +kernel)
theorem dWe_init_1 : decode (mB mWe_init) 1 = .ok (.invokespecial 3, 3) := op183 0 3 (by decide +kernel)
theorem dWe_init_4 : decode (mB mWe_init) 4 = .ok (.aload_n 0, 1) := op42 (by decide +kernel)
theorem dWe_init_5 : decode (mB mWe_init) 5 = .ok (.bipush 8, 2) := op16 8 (by decide +kernel)
theorem dWe_init_7 : decode (mB mWe_init) 7 = .ok (.newarray .int, 2) := by decide +kernel
theorem dWe_init_9 : decode (mB mWe_init) 9 = .ok (.putfield 9, 3) := op181 0 9 (by decide +kernel)
theorem dWe_init_12 : decode (mB mWe_init) 12 = .ok (.aload_n 0, 1) := op42 (by decide +kernel)
theorem dWe_init_13 : decode (mB mWe_init) 13 = .ok (.aload_n 1, 1) := op43 (by decide +kernel)
theorem dWe_init_14 : decode (mB mWe_init) 14 = .ok (.putfield 15, 3) := op181 0 15 (by decide +kernel)
theorem dWe_init_17 : decode (mB mWe_init) 17 = .ok (.aload_n 0, 1) := op42 (by decide +kernel)
theorem dWe_init_18 : decode (mB mWe_init) 18 = .ok (.aload_n 2, 1) := op44 (by decide +kernel)
theorem dWe_init_19 : decode (mB mWe_init) 19 = .ok (.putfield 19, 3) := op181 0 19 (by decide +kernel)
theorem dWe_init_22 : decode (mB mWe_init) 22 = .ok (.return_, 1) := op177 (by decide +kernel)

theorem vWe_init_0 {M : Mm} {b : Nat × Nat} {K : Mm → Prop} {v0 : Nat} {v1 : Nat} {v2 : Nat}  
    (h : X mWe_init 4 [(0, .ref v0), (1, .ref v1), (2, .ref v2)] [] M b (QV K)) : X mWe_init 0 [(0, .ref v0), (1, .ref v1), (2, .ref v2)] [] M b (QV K) := by
  refine x_wf (fun hw => ?_)
  refine x_aload_n (pc := 0) dWe_init_0 rfl (q := 0) rfl ?_
  refine x_obj (pc := 1) dWe_init_1 mlWe_3 h_obj.1 h_obj.2 (by decide) (Nat.le_of_ble_eq_true rfl) ?_
  exact h

theorem vWe_init_4 {M : Mm} {b b' : Nat × Nat} (hb : b'.1 + 1 ≤ b.1 ∧ b'.2 + 8 ≤ b.2) {K : Mm → Prop} {v0 : Nat} {v1 : Nat} {v2 : Nat} (kv0 : v0 % 64 = 8) 
    (h : X mWe_init 12 [(0, .ref v0), (1, .ref v1), (2, .ref v2)] [] (sr (nw M 13) v0 3 (some (64 * M.1.1.length + 13))) b' (QV K)) : X mWe_init 4 [(0, .ref v0), (1, .ref v1), (2, .ref v2)] [] M b (QV K) := by
  refine x_wf (fun hw => ?_)
  refine x_aload_n (pc := 4) dWe_init_4 rfl (q := 0) rfl ?_
  refine x_bipush (pc := 5) dWe_init_5 (v := 8) rfl ?_
  refine x_newaB (pc := 7) dWe_init_7 ak_13 (Or.inl ⟨rfl, rfl⟩) (by decide) (by decide) (by decide) ac_int (b' := b') (by have := hb; (try dsimp only); omega) ?_
  refine x_putR (pc := 9) dWe_init_9 kv0 flWe_9 (Or.inr ⟨rfl, rfl, rfl⟩) (Or.inr ⟨_, rfl⟩) (by first | exact (nwk M.1.1.length 13 (by decide)) | (rw [(nwk M.1.1.length 13 (by decide))]; rfl)) (by decide) ?_
  exact h

theorem vWe_init_12 {M : Mm} {b : Nat × Nat} {K : Mm → Prop} {v0 : Nat} {v1 : Nat} {v2 : Nat} (kv0 : v0 % 64 = 8) (kv1 : v1 % 64 = 1) 
    (h : X mWe_init 17 [(0, .ref v0), (2, .ref v2)] [] (sr M v0 0 (some v1)) b (QV K)) : X mWe_init 12 [(0, .ref v0), (1, .ref v1), (2, .ref v2)] [] M b (QV K) := by
  refine x_wf (fun hw => ?_)
  refine x_aload_n (pc := 12) dWe_init_12 rfl (q := 0) rfl ?_
  refine x_aload_n (pc := 13) dWe_init_13 rfl (q := 1) rfl ?_
  refine x_putR (pc := 14) dWe_init_14 kv0 flWe_15 (Or.inl rfl) (Or.inl ⟨_, rfl⟩) (by first | exact kv1 | (rw [kv1]; rfl)) (by decide) ?_
  exact x_loc [0, 2] rfl h

theorem vWe_init_17 {M : Mm} {b : Nat × Nat} {K : Mm → Prop} {v0 : Nat} {v2 : Nat} (kv0 : v0 % 64 = 8) (kv2 : v2 % 64 = 3) 
    (h : X mWe_init 22 [] [] (sr M v0 1 (some v2)) b (QV K)) : X mWe_init 17 [(0, .ref v0), (2, .ref v2)] [] M b (QV K) := by
  refine x_wf (fun hw => ?_)
  refine x_aload_n (pc := 17) dWe_init_17 rfl (q := 0) rfl ?_
  refine x_aload_n (pc := 18) dWe_init_18 rfl (q := 1) rfl ?_
  refine x_putR (pc := 19) dWe_init_19 kv0 flWe_19 (Or.inl rfl) (Or.inl ⟨_, rfl⟩) (by first | exact kv2 | (rw [kv2]; rfl)) (by decide) ?_
  exact x_loc [] rfl h

theorem vWe_init_22 {M : Mm} {b : Nat × Nat} {K : Mm → Prop}   
    (h : K M) : X mWe_init 22 [] [] M b (QV K) := by
  refine x_wf (fun hw => ?_)
  exact x_retQV (pc := 22) dWe_init_22 rfl h

theorem dFi_init_0 : decode (mB mFi_init) 0 = .ok (.aload_n 0, 1) := op42 (by decide +kernel)
theorem dFi_init_1 : decode (mB mFi_init) 1 = .ok (.invokespecial 3, 3) := op183 0 3 (by decide +kernel)
theorem dFi_init_4 : decode (mB mFi_init) 4 = .ok (.aload_n 0, 1) := op42 (by decide +kernel)
theorem dFi_init_5 : decode (mB mFi_init) 5 = .ok (.sipush 1024, 3) := op17 4 0 (by decide +kernel)
theorem dFi_init_8 : decode (mB mFi_init) 8 = .ok (.newarray .int, 2) := by decide +kernel
theorem dFi_init_10 : decode (mB mFi_init) 10 = .ok (.putfield 9, 3) := op181 0 9 (by decide +kernel)
theorem dFi_init_13 : decode (mB mFi_init) 13 = .ok (.aload_n 0, 1) := op42 (by decide +kernel)
theorem dFi_init_14 : decode (mB mFi_init) 14 = .ok (.aload_n 1, 1) := op43 (by decide +kernel)
theorem dFi_init_15 : decode (mB mFi_init) 15 = .ok (.putfield 15, 3) := op181 0 15 (by decide +kernel)
theorem dFi_init_18 : decode (mB mFi_init) 18 = .ok (.return_, 1) := op177 (by decide +kernel)

theorem vFi_init_0 {M : Mm} {b : Nat × Nat} {K : Mm → Prop} {v0 : Nat} {v1 : Nat}  
    (h : X mFi_init 4 [(0, .ref v0), (1, .ref v1)] [] M b (QV K)) : X mFi_init 0 [(0, .ref v0), (1, .ref v1)] [] M b (QV K) := by
  refine x_wf (fun hw => ?_)
  refine x_aload_n (pc := 0) dFi_init_0 rfl (q := 0) rfl ?_
  refine x_obj (pc := 1) dFi_init_1 mlFi_3 h_obj.1 h_obj.2 (by decide) (Nat.le_of_ble_eq_true rfl) ?_
  exact h

theorem vFi_init_4 {M : Mm} {b b' : Nat × Nat} (hb : b'.1 + 1 ≤ b.1 ∧ b'.2 + 1024 ≤ b.2) {K : Mm → Prop} {v0 : Nat} {v1 : Nat} (kv0 : v0 % 64 = 0) 
    (h : X mFi_init 13 [(0, .ref v0), (1, .ref v1)] [] (sr (nw M 16) v0 1 (some (64 * M.1.1.length + 16))) b' (QV K)) : X mFi_init 4 [(0, .ref v0), (1, .ref v1)] [] M b (QV K) := by
  refine x_wf (fun hw => ?_)
  refine x_aload_n (pc := 4) dFi_init_4 rfl (q := 0) rfl ?_
  refine x_sipush (pc := 5) dFi_init_5 (v := 1024) rfl ?_
  refine x_newaB (pc := 8) dFi_init_8 ak_16 (Or.inl ⟨rfl, rfl⟩) (by decide) (by decide) (by decide) ac_int (b' := b') (by have := hb; (try dsimp only); omega) ?_
  refine x_putR (pc := 10) dFi_init_10 kv0 flFi_9 (Or.inr ⟨rfl, rfl, rfl⟩) (Or.inr ⟨_, rfl⟩) (by first | exact (nwk M.1.1.length 16 (by decide)) | (rw [(nwk M.1.1.length 16 (by decide))]; rfl)) (by decide) ?_
  exact h

theorem vFi_init_13 {M : Mm} {b : Nat × Nat} {K : Mm → Prop} {v0 : Nat} {v1 : Nat} (kv0 : v0 % 64 = 0) (kv1 : v1 % 64 = 8) 
    (h : X mFi_init 18 [] [] (sr M v0 0 (some v1)) b (QV K)) : X mFi_init 13 [(0, .ref v0), (1, .ref v1)] [] M b (QV K) := by
  refine x_wf (fun hw => ?_)
  refine x_aload_n (pc := 13) dFi_init_13 rfl (q := 0) rfl ?_
  refine x_aload_n (pc := 14) dFi_init_14 rfl (q := 1) rfl ?_
  refine x_putR (pc := 15) dFi_init_15 kv0 flFi_15 (Or.inr ⟨rfl, rfl, rfl⟩) (Or.inl ⟨_, rfl⟩) (by first | exact kv1 | (rw [kv1]; rfl)) (by decide) ?_
  exact x_loc [] rfl h

theorem vFi_init_18 {M : Mm} {b : Nat × Nat} {K : Mm → Prop}   
    (h : K M) : X mFi_init 18 [] [] M b (QV K) := by
  refine x_wf (fun hw => ?_)
  exact x_retQV (pc := 18) dFi_init_18 rfl h

theorem dWe_begin_0 : decode (mB mWe_begin) 0 = .ok (.aload_n 0, 1) := op42 (by decide +kernel)
theorem dWe_begin_1 : decode (mB mWe_begin) 1 = .ok (.aload_n 1, 1) := op43 (by decide +kernel)
theorem dWe_begin_2 : decode (mB mWe_begin) 2 = .ok (.putfield 15, 3) := op181 0 15 (by decide +kernel)
theorem dWe_begin_5 : decode (mB mWe_begin) 5 = .ok (.aload_n 0, 1) := op42 (by decide +kernel)
theorem dWe_begin_6 : decode (mB mWe_begin) 6 = .ok (.aload_n 2, 1) := op44 (by decide +kernel)
theorem dWe_begin_7 : decode (mB mWe_begin) 7 = .ok (.putfield 19, 3) := op181 0 19 (by decide +kernel)
theorem dWe_begin_10 : decode (mB mWe_begin) 10 = .ok (.aload_n 0, 1) := op42 (by decide +kernel)
theorem dWe_begin_11 : decode (mB mWe_begin) 11 = .ok (.aload_n 1, 1) := op43 (by decide +kernel)
theorem dWe_begin_12 : decode (mB mWe_begin) 12 = .ok (.aload_n 2, 1) := op44 (by decide +kernel)
theorem dWe_begin_13 : decode (mB mWe_begin) 13 = .ok (.iload_n 3, 1) := op29 (by decide +kernel)
theorem dWe_begin_14 : decode (mB mWe_begin) 14 = .ok (.invokevirtual 23, 3) := op182 0 23 (by decide +kernel)
theorem dWe_begin_17 : decode (mB mWe_begin) 17 = .ok (.putfield 29, 3) := op181 0 29 (by decide +kernel)
theorem dWe_begin_20 : decode (mB mWe_begin) 20 = .ok (.return_, 1) := op177 (by decide +kernel)

theorem vWe_begin_0 {M : Mm} {b : Nat × Nat} {K : Mm → Prop} {v0 : Nat} {v1 : Nat} {v2 : Nat} {v3 : Int32} (kv0 : v0 % 64 = 8) (kv1 : v1 % 64 = 1) (kv2 : v2 % 64 = 3) 
    (h : CI mLi_counting [.ref v1, .ref v2, .int v3] (sr (sr M v0 0 (some v1)) v0 1 (some v2)) (fun rv N => X mWe_begin 17 [] [.int rv, .ref v0] N b (QV K))) : X mWe_begin 0 [(0, .ref v0), (1, .ref v1), (2, .ref v2), (3, .int v3)] [] M b (QV K) := by
  refine x_wf (fun hw => ?_)
  refine x_aload_n (pc := 0) dWe_begin_0 rfl (q := 0) rfl ?_
  refine x_aload_n (pc := 1) dWe_begin_1 rfl (q := 1) rfl ?_
  refine x_putR (pc := 2) dWe_begin_2 kv0 flWe_15 (Or.inl rfl) (Or.inl ⟨_, rfl⟩) (by first | exact kv1 | (rw [kv1]; rfl)) (by decide) ?_
  refine x_aload_n (pc := 5) dWe_begin_5 rfl (q := 0) rfl ?_
  refine x_aload_n (pc := 6) dWe_begin_6 rfl (q := 2) rfl ?_
  refine x_putR (pc := 7) dWe_begin_7 kv0 flWe_19 (Or.inl rfl) (Or.inl ⟨_, rfl⟩) (by first | exact kv2 | (rw [kv2]; rfl)) (by decide) ?_
  refine x_aload_n (pc := 10) dWe_begin_10 rfl (q := 0) rfl ?_
  refine x_aload_n (pc := 11) dWe_begin_11 rfl (q := 1) rfl ?_
  refine x_aload_n (pc := 12) dWe_begin_12 rfl (q := 2) rfl ?_
  refine x_iload_n (pc := 13) dWe_begin_13 rfl (q := 3) rfl ?_
  exact x_invV (pc := 14) dWe_begin_14 (c := 1) (S := [.ref v0]) (As := [.ref v2, .int v3]) mlWe_23 hLi_counting rfl (by decide) rfl kv1 ⟨by decide, by decide⟩ ⟨Nat.zero_le _, Nat.zero_le _⟩ rfl (Nat.le_of_ble_eq_true rfl) (aftI (b' := b) ⟨Nat.le_refl _, Nat.le_refl _⟩ (fun rv N h => x_loc [] rfl h) h)

theorem vWe_begin_17 {M : Mm} {b : Nat × Nat} {K : Mm → Prop} {w0 : Int32} {w1 : Nat} (kw1 : w1 % 64 = 8) 
    (h : K (si M w1 2 w0)) : X mWe_begin 17 [] [.int w0, .ref w1] M b (QV K) := by
  refine x_wf (fun hw => ?_)
  refine x_putI (pc := 17) dWe_begin_17 kw1 flWe_29 rfl rfl ?_
  exact x_retQV (pc := 20) dWe_begin_20 rfl h

theorem dWe_opinion_0 : decode (mB mWe_opinion) 0 = .ok (.aload_n 0, 1) := op42 (by decide +kernel)
theorem dWe_opinion_1 : decode (mB mWe_opinion) 1 = .ok (.getfield 15, 3) := op180 0 15 (by decide +kernel)
theorem dWe_opinion_4 : decode (mB mWe_opinion) 4 = .ok (.getfield 91, 3) := op180 0 91 (by decide +kernel)
theorem dWe_opinion_7 : decode (mB mWe_opinion) 7 = .ok (.iload_n 1, 1) := op27 (by decide +kernel)
theorem dWe_opinion_8 : decode (mB mWe_opinion) 8 = .ok (.iaload, 1) := op46 (by decide +kernel)
theorem dWe_opinion_9 : decode (mB mWe_opinion) 9 = .ok (.aload_n 0, 1) := op42 (by decide +kernel)
theorem dWe_opinion_10 : decode (mB mWe_opinion) 10 = .ok (.getfield 29, 3) := op180 0 29 (by decide +kernel)
theorem dWe_opinion_13 : decode (mB mWe_opinion) 13 = .ok (.iand, 1) := op126 (by decide +kernel)
theorem dWe_opinion_14 : decode (mB mWe_opinion) 14 = .ok (.istore_n 3, 1) := op62 (by decide +kernel)
theorem dWe_opinion_15 : decode (mB mWe_opinion) 15 = .ok (.aload_n 0, 1) := op42 (by decide +kernel)
theorem dWe_opinion_16 : decode (mB mWe_opinion) 16 = .ok (.iload_n 3, 1) := op29 (by decide +kernel)
theorem dWe_opinion_17 : decode (mB mWe_opinion) 17 = .ok (.aload_n 0, 1) := op42 (by decide +kernel)
theorem dWe_opinion_18 : decode (mB mWe_opinion) 18 = .ok (.getfield 15, 3) := op180 0 15 (by decide +kernel)
theorem dWe_opinion_21 : decode (mB mWe_opinion) 21 = .ok (.getfield 94, 3) := op180 0 94 (by decide +kernel)
theorem dWe_opinion_24 : decode (mB mWe_opinion) 24 = .ok (.iload_n 2, 1) := op28 (by decide +kernel)
theorem dWe_opinion_25 : decode (mB mWe_opinion) 25 = .ok (.iaload, 1) := op46 (by decide +kernel)
theorem dWe_opinion_26 : decode (mB mWe_opinion) 26 = .ok (.iand, 1) := op126 (by decide +kernel)
theorem dWe_opinion_27 : decode (mB mWe_opinion) 27 = .ok (.iload_n 3, 1) := op29 (by decide +kernel)
theorem dWe_opinion_28 : decode (mB mWe_opinion) 28 = .ok (.aload_n 0, 1) := op42 (by decide +kernel)
theorem dWe_opinion_29 : decode (mB mWe_opinion) 29 = .ok (.getfield 15, 3) := op180 0 15 (by decide +kernel)
theorem dWe_opinion_32 : decode (mB mWe_opinion) 32 = .ok (.getfield 97, 3) := op180 0 97 (by decide +kernel)
theorem dWe_opinion_35 : decode (mB mWe_opinion) 35 = .ok (.iload_n 2, 1) := op28 (by decide +kernel)
theorem dWe_opinion_36 : decode (mB mWe_opinion) 36 = .ok (.iaload, 1) := op46 (by decide +kernel)
theorem dWe_opinion_37 : decode (mB mWe_opinion) 37 = .ok (.iand, 1) := op126 (by decide +kernel)
theorem dWe_opinion_38 : decode (mB mWe_opinion) 38 = .ok (.iconst 0, 1) := op3 (by decide +kernel)
theorem dWe_opinion_39 : decode (mB mWe_opinion) 39 = .ok (.invokevirtual 100, 3) := op182 0 100 (by decide +kernel)
theorem dWe_opinion_42 : decode (mB mWe_opinion) 42 = .ok (.ireturn, 1) := op172 (by decide +kernel)

theorem vWe_opinion_0 {M : Mm} {b : Nat × Nat} {K : Int32 → Mm → Prop} {v0 : Nat} {v1 : Int32} {v2 : Int32} {r1 : Nat} {r2 : Nat} {r3 : Nat} {r4 : Nat} (kv0 : v0 % 64 = 8) (e1 : gr M v0 0 = some r1) (e2 : gr M r1 7 = some r2) (e3 : gr M r1 3 = some r3) (e4 : gr M r1 4 = some r4)
    (h : vp_in v1 8 ∧ (vp_in v2 64 ∧ (vp_in v2 64 ∧ (CI mWe_settled [.ref v0, .int (((gi M r2 (v1).toNatClampNeg) &&& (gi M v0 2)) &&& (gi M r3 (v2).toNatClampNeg)), .int (((gi M r2 (v1).toNatClampNeg) &&& (gi M v0 2)) &&& (gi M r4 (v2).toNatClampNeg)), .int 0] M (fun rv N => X mWe_opinion 42 [] [.int rv] N b (QI K)))))) : X mWe_opinion 0 [(0, .ref v0), (1, .int v1), (2, .int v2)] [] M b (QI K) := by
  refine x_wf (fun hw => ?_)
  refine x_aload_n (pc := 0) dWe_opinion_0 rfl (q := 0) rfl ?_
  refine x_getR (pc := 1) dWe_opinion_1 kv0 flWe_15 rfl e1 ?_
  refine x_getR (pc := 4) dWe_opinion_4 (wfk hw e1 kv0) flWe_91 rfl e2 ?_
  refine x_iload_n (pc := 7) dWe_opinion_7 rfl (q := 1) rfl ?_
  obtain ⟨s501, h⟩ := h
  refine x_aldIj (pc := 8) (j := (v1).toNatClampNeg) (Or.inl ⟨rfl, rfl⟩) dWe_opinion_8 (wfk hw e2 (wfk hw e1 kv0)) ak_13 rfl s501 ?_
  refine x_aload_n (pc := 9) dWe_opinion_9 rfl (q := 0) rfl ?_
  refine x_getI (pc := 10) dWe_opinion_10 kv0 flWe_29 rfl ?_
  refine x_iand (pc := 13) dWe_opinion_13 ?_
  refine x_istore_n (pc := 14) dWe_opinion_14 rfl (by decide) (L' := [(3, .int ((gi M r2 (v1).toNatClampNeg) &&& (gi M v0 2))), (0, .ref v0), (1, .int v1), (2, .int v2)]) rfl ?_
  refine x_aload_n (pc := 15) dWe_opinion_15 rfl (q := 1) rfl ?_
  refine x_iload_n (pc := 16) dWe_opinion_16 rfl (q := 0) rfl ?_
  refine x_aload_n (pc := 17) dWe_opinion_17 rfl (q := 1) rfl ?_
  refine x_getR (pc := 18) dWe_opinion_18 kv0 flWe_15 rfl e1 ?_
  refine x_getR (pc := 21) dWe_opinion_21 (wfk hw e1 kv0) flWe_94 rfl e3 ?_
  refine x_iload_n (pc := 24) dWe_opinion_24 rfl (q := 3) rfl ?_
  obtain ⟨s502, h⟩ := h
  refine x_aldIj (pc := 25) (j := (v2).toNatClampNeg) (Or.inl ⟨rfl, rfl⟩) dWe_opinion_25 (wfk hw e3 (wfk hw e1 kv0)) ak_14 rfl s502 ?_
  refine x_iand (pc := 26) dWe_opinion_26 ?_
  refine x_iload_n (pc := 27) dWe_opinion_27 rfl (q := 0) rfl ?_
  refine x_aload_n (pc := 28) dWe_opinion_28 rfl (q := 1) rfl ?_
  refine x_getR (pc := 29) dWe_opinion_29 kv0 flWe_15 rfl e1 ?_
  refine x_getR (pc := 32) dWe_opinion_32 (wfk hw e1 kv0) flWe_97 rfl e4 ?_
  refine x_iload_n (pc := 35) dWe_opinion_35 rfl (q := 3) rfl ?_
  obtain ⟨s503, h⟩ := h
  refine x_aldIj (pc := 36) (j := (v2).toNatClampNeg) (Or.inl ⟨rfl, rfl⟩) dWe_opinion_36 (wfk hw e4 (wfk hw e1 kv0)) ak_14 rfl s503 ?_
  refine x_iand (pc := 37) dWe_opinion_37 ?_
  refine x_iconst (pc := 38) dWe_opinion_38 (v := 0) rfl ?_
  exact x_invV (pc := 39) dWe_opinion_39 (c := 8) (S := []) (As := [.int (((gi M r2 (v1).toNatClampNeg) &&& (gi M v0 2)) &&& (gi M r3 (v2).toNatClampNeg)), .int (((gi M r2 (v1).toNatClampNeg) &&& (gi M v0 2)) &&& (gi M r4 (v2).toNatClampNeg)), .int 0]) mlWe_100 hWe_settled rfl (by decide) rfl kv0 ⟨by decide, by decide⟩ ⟨Nat.zero_le _, Nat.zero_le _⟩ rfl (Nat.le_of_ble_eq_true rfl) (aftI (b' := b) ⟨Nat.le_refl _, Nat.le_refl _⟩ (fun rv N h => x_loc [] rfl h) h)

theorem vWe_opinion_42 {M : Mm} {b : Nat × Nat} {K : Int32 → Mm → Prop} {w0 : Int32}  
    (h : K w0 M) : X mWe_opinion 42 [] [.int w0] M b (QI K) := by
  refine x_wf (fun hw => ?_)
  exact x_retQI (pc := 42) dWe_opinion_42 rfl rfl h

theorem dWe_settled_0 : decode (mB mWe_settled) 0 = .ok (.iload_n 1, 1) := op27 (by decide +kernel)
theorem dWe_settled_1 : decode (mB mWe_settled) 1 = .ok (.ifCond .eq 7, 3) := op153 0 7 (by decide +kernel)
theorem dWe_settled_4 : decode (mB mWe_settled) 4 = .ok (.iload_n 2, 1) := op28 (by decide +kernel)
theorem dWe_settled_5 : decode (mB mWe_settled) 5 = .ok (.ifCond .ne 9, 3) := op154 0 9 (by decide +kernel)
theorem dWe_settled_8 : decode (mB mWe_settled) 8 = .ok (.iload_n 1, 1) := op27 (by decide +kernel)
theorem dWe_settled_9 : decode (mB mWe_settled) 9 = .ok (.iload_n 2, 1) := op28 (by decide +kernel)
theorem dWe_settled_10 : decode (mB mWe_settled) 10 = .ok (.invokestatic 103, 3) := op184 0 103 (by decide +kernel)
theorem dWe_settled_13 : decode (mB mWe_settled) 13 = .ok (.ireturn, 1) := op172 (by decide +kernel)
theorem dWe_settled_14 : decode (mB mWe_settled) 14 = .ok (.aload_n 0, 1) := op42 (by decide +kernel)
theorem dWe_settled_15 : decode (mB mWe_settled) 15 = .ok (.getfield 19, 3) := op180 0 19 (by decide +kernel)
theorem dWe_settled_18 : decode (mB mWe_settled) 18 = .ok (.getfield 106, 3) := op180 0 106 (by decide +kernel)
theorem dWe_settled_21 : decode (mB mWe_settled) 21 = .ok (.iconst 1, 1) := op4 (by decide +kernel)
theorem dWe_settled_22 : decode (mB mWe_settled) 22 = .ok (.if_icmp .ne 14, 3) := op160 0 14 (by decide +kernel)
theorem dWe_settled_25 : decode (mB mWe_settled) 25 = .ok (.iload_n 1, 1) := op27 (by decide +kernel)
theorem dWe_settled_26 : decode (mB mWe_settled) 26 = .ok (.iload_n 2, 1) := op28 (by decide +kernel)
theorem dWe_settled_27 : decode (mB mWe_settled) 27 = .ok (.if_icmp .le 7, 3) := op164 0 7 (by decide +kernel)
theorem dWe_settled_30 : decode (mB mWe_settled) 30 = .ok (.iconst 1, 1) := op4 (by decide +kernel)
theorem dWe_settled_31 : decode (mB mWe_settled) 31 = .ok (.goto 4, 3) := op167 0 4 (by decide +kernel)
theorem dWe_settled_34 : decode (mB mWe_settled) 34 = .ok (.iconst 0, 1) := op3 (by decide +kernel)
theorem dWe_settled_35 : decode (mB mWe_settled) 35 = .ok (.ireturn, 1) := op172 (by decide +kernel)
theorem dWe_settled_36 : decode (mB mWe_settled) 36 = .ok (.aload_n 0, 1) := op42 (by decide +kernel)
theorem dWe_settled_37 : decode (mB mWe_settled) 37 = .ok (.getfield 19, 3) := op180 0 19 (by decide +kernel)
theorem dWe_settled_40 : decode (mB mWe_settled) 40 = .ok (.getfield 106, 3) := op180 0 106 (by decide +kernel)
theorem dWe_settled_43 : decode (mB mWe_settled) 43 = .ok (.iconst 2, 1) := op5 (by decide +kernel)
theorem dWe_settled_44 : decode (mB mWe_settled) 44 = .ok (.if_icmp .ne 25, 3) := op160 0 25 (by decide +kernel)
theorem dWe_settled_47 : decode (mB mWe_settled) 47 = .ok (.aload_n 0, 1) := op42 (by decide +kernel)
theorem dWe_settled_48 : decode (mB mWe_settled) 48 = .ok (.iload_n 1, 1) := op27 (by decide +kernel)
theorem dWe_settled_49 : decode (mB mWe_settled) 49 = .ok (.iload_n 2, 1) := op28 (by decide +kernel)
theorem dWe_settled_50 : decode (mB mWe_settled) 50 = .ok (.ior, 1) := op128 (by decide +kernel)
theorem dWe_settled_51 : decode (mB mWe_settled) 51 = .ok (.iload_n 3, 1) := op29 (by decide +kernel)
theorem dWe_settled_52 : decode (mB mWe_settled) 52 = .ok (.invokevirtual 109, 3) := op182 0 109 (by decide +kernel)
theorem dWe_settled_55 : decode (mB mWe_settled) 55 = .ok (.istore 4, 2) := op54 4 (by decide +kernel)
theorem dWe_settled_57 : decode (mB mWe_settled) 57 = .ok (.iload_n 1, 1) := op27 (by decide +kernel)
theorem dWe_settled_58 : decode (mB mWe_settled) 58 = .ok (.iload 4, 2) := op21 4 (by decide +kernel)
theorem dWe_settled_60 : decode (mB mWe_settled) 60 = .ok (.iand, 1) := op126 (by decide +kernel)
theorem dWe_settled_61 : decode (mB mWe_settled) 61 = .ok (.iload_n 2, 1) := op28 (by decide +kernel)
theorem dWe_settled_62 : decode (mB mWe_settled) 62 = .ok (.iload 4, 2) := op21 4 (by decide +kernel)
theorem dWe_settled_64 : decode (mB mWe_settled) 64 = .ok (.iand, 1) := op126 (by decide +kernel)
theorem dWe_settled_65 : decode (mB mWe_settled) 65 = .ok (.invokestatic 103, 3) := op184 0 103 (by decide +kernel)
theorem dWe_settled_68 : decode (mB mWe_settled) 68 = .ok (.ireturn, 1) := op172 (by decide +kernel)
theorem dWe_settled_69 : decode (mB mWe_settled) 69 = .ok (.bipush (-4), 2) := op16 252 (by decide +kernel)
theorem dWe_settled_71 : decode (mB mWe_settled) 71 = .ok (.ireturn, 1) := op172 (by decide +kernel)

theorem vWe_settled_0 {M : Mm} {b : Nat × Nat} {K : Int32 → Mm → Prop} {v0 : Nat} {v1 : Int32} {v2 : Int32} {v3 : Int32} {r1 : Nat} (kv0 : v0 % 64 = 8) (e1 : gr M v0 1 = some r1)
    (h : (((v1 = 0) ∨ (¬ v1 = 0 ∧ v2 = 0)) → (CI mC_agreed [.int v1, .int v2] M (fun rv N => X mWe_settled 13 [] [.int rv] N b (QI K)))) ∧ ((¬ v1 = 0 ∧ ¬ v2 = 0 ∧ ¬ (gi M r1 3) = 1 ∧ ¬ (gi M r1 3) = 2) → (K (-4) M)) ∧ ((¬ v1 = 0 ∧ ¬ v2 = 0 ∧ ¬ (gi M r1 3) = 1 ∧ (gi M r1 3) = 2) → (CI mWe_heaviest [.ref v0, .int (v1 ||| v2), .int v3] M (fun rv N => X mWe_settled 55 [(1, .int v1), (2, .int v2)] [.int rv] N b (QI K)))) ∧ ((¬ v1 = 0 ∧ ¬ v2 = 0 ∧ (gi M r1 3) = 1 ∧ v1 ≤ v2) → (K 0 M)) ∧ ((¬ v1 = 0 ∧ ¬ v2 = 0 ∧ (gi M r1 3) = 1 ∧ ¬ v1 ≤ v2) → (K 1 M))) : X mWe_settled 0 [(0, .ref v0), (1, .int v1), (2, .int v2), (3, .int v3)] [] M b (QI K) := by
  refine x_wf (fun hw => ?_)
  refine x_iload_n (pc := 0) dWe_settled_0 rfl (q := 1) rfl ?_
  obtain ⟨g1_0, g1_1, g1_2, g1_3, g1_4⟩ := h
  have g1_k0 : (v1 = 0) ∨ (¬ v1 = 0 ∧ v2 = 0) → X mWe_settled 8 [(0, .ref v0), (1, .int v1), (2, .int v2), (3, .int v3)] [] M b (QI K) := fun q => by
    have h := g1_0 q
    refine x_iload_n (pc := 8) dWe_settled_8 rfl (q := 1) rfl ?_
    refine x_iload_n (pc := 9) dWe_settled_9 rfl (q := 2) rfl ?_
    exact x_invSN (pc := 10) dWe_settled_10 (S := []) (As := [.int v1, .int v2]) nlWe_103 hC_agreed rfl ⟨by decide, by decide⟩ ⟨Nat.zero_le _, Nat.zero_le _⟩ rfl (Nat.le_of_ble_eq_true rfl) (aftI (b' := b) ⟨Nat.le_refl _, Nat.le_refl _⟩ (fun rv N h => x_loc [] rfl h) h)
  refine x_if_eq (pc := 1) dWe_settled_1 (t := 8) rfl (fun q1 => ?_) (fun q1 => ?_)
  · exact g1_k0 (Or.inl q1)
  · refine x_iload_n (pc := 4) dWe_settled_4 rfl (q := 2) rfl ?_
    refine x_if_ne (pc := 5) dWe_settled_5 (t := 14) rfl (fun q2 => ?_) (fun q2 => ?_)
    · refine x_aload_n (pc := 14) dWe_settled_14 rfl (q := 0) rfl ?_
      refine x_getR (pc := 15) dWe_settled_15 kv0 flWe_19 rfl e1 ?_
      refine x_getI (pc := 18) dWe_settled_18 (wfk hw e1 kv0) flWe_106 rfl ?_
      refine x_iconst (pc := 21) dWe_settled_21 (v := 1) rfl ?_
      refine x_icmp_ne (pc := 22) dWe_settled_22 (t := 36) rfl (fun q3 => ?_) (fun q3 => ?_)
      · refine x_aload_n (pc := 36) dWe_settled_36 rfl (q := 0) rfl ?_
        refine x_getR (pc := 37) dWe_settled_37 kv0 flWe_19 rfl e1 ?_
        refine x_getI (pc := 40) dWe_settled_40 (wfk hw e1 kv0) flWe_106 rfl ?_
        refine x_iconst (pc := 43) dWe_settled_43 (v := 2) rfl ?_
        refine x_icmp_ne (pc := 44) dWe_settled_44 (t := 69) rfl (fun q4 => ?_) (fun q4 => ?_)
        · refine x_bipush (pc := 69) dWe_settled_69 (v := (-4)) rfl ?_
          have h := g1_1 ⟨q1, q2, q3, q4⟩
          exact x_retQI (pc := 71) dWe_settled_71 rfl rfl h
        · refine x_aload_n (pc := 47) dWe_settled_47 rfl (q := 0) rfl ?_
          refine x_iload_n (pc := 48) dWe_settled_48 rfl (q := 1) rfl ?_
          refine x_iload_n (pc := 49) dWe_settled_49 rfl (q := 2) rfl ?_
          refine x_ior (pc := 50) dWe_settled_50 ?_
          refine x_iload_n (pc := 51) dWe_settled_51 rfl (q := 3) rfl ?_
          have h := g1_2 ⟨q1, q2, q3, q4⟩
          exact x_invV (pc := 52) dWe_settled_52 (c := 8) (S := []) (As := [.int (v1 ||| v2), .int v3]) mlWe_109 hWe_heaviest rfl (by decide) rfl kv0 ⟨by decide, by decide⟩ ⟨Nat.zero_le _, Nat.zero_le _⟩ rfl (Nat.le_of_ble_eq_true rfl) (aftI (b' := b) ⟨Nat.le_refl _, Nat.le_refl _⟩ (fun rv N h => x_loc [1, 2] rfl h) h)
      · refine x_iload_n (pc := 25) dWe_settled_25 rfl (q := 1) rfl ?_
        refine x_iload_n (pc := 26) dWe_settled_26 rfl (q := 2) rfl ?_
        refine x_icmp_le (pc := 27) dWe_settled_27 (t := 34) rfl (fun q5 => ?_) (fun q5 => ?_)
        · refine x_iconst (pc := 34) dWe_settled_34 (v := 0) rfl ?_
          have h := g1_3 ⟨q1, q2, q3, q5⟩
          exact x_retQI (pc := 35) dWe_settled_35 rfl rfl h
        · refine x_iconst (pc := 30) dWe_settled_30 (v := 1) rfl ?_
          refine x_goto (pc := 31) dWe_settled_31 (t := 35) rfl ?_
          have h := g1_4 ⟨q1, q2, q3, q5⟩
          exact x_retQI (pc := 35) dWe_settled_35 rfl rfl h
    · exact g1_k0 (Or.inr ⟨q1, q2⟩)

theorem vWe_settled_13 {M : Mm} {b : Nat × Nat} {K : Int32 → Mm → Prop} {w0 : Int32}  
    (h : K w0 M) : X mWe_settled 13 [] [.int w0] M b (QI K) := by
  refine x_wf (fun hw => ?_)
  exact x_retQI (pc := 13) dWe_settled_13 rfl rfl h

theorem vWe_settled_55 {M : Mm} {b : Nat × Nat} {K : Int32 → Mm → Prop} {v1 : Int32} {v2 : Int32} {w0 : Int32}  
    (h : CI mC_agreed [.int (v1 &&& w0), .int (v2 &&& w0)] M (fun rv N => X mWe_settled 68 [] [.int rv] N b (QI K))) : X mWe_settled 55 [(1, .int v1), (2, .int v2)] [.int w0] M b (QI K) := by
  refine x_wf (fun hw => ?_)
  refine x_istore (pc := 55) dWe_settled_55 (by decide) (L' := [(4, .int w0), (1, .int v1), (2, .int v2)]) rfl ?_
  refine x_iload_n (pc := 57) dWe_settled_57 rfl (q := 1) rfl ?_
  refine x_iload (pc := 58) dWe_settled_58 (q := 0) rfl ?_
  refine x_iand (pc := 60) dWe_settled_60 ?_
  refine x_iload_n (pc := 61) dWe_settled_61 rfl (q := 2) rfl ?_
  refine x_iload (pc := 62) dWe_settled_62 (q := 0) rfl ?_
  refine x_iand (pc := 64) dWe_settled_64 ?_
  exact x_invSN (pc := 65) dWe_settled_65 (S := []) (As := [.int (v1 &&& w0), .int (v2 &&& w0)]) nlWe_103 hC_agreed rfl ⟨by decide, by decide⟩ ⟨Nat.zero_le _, Nat.zero_le _⟩ rfl (Nat.le_of_ble_eq_true rfl) (aftI (b' := b) ⟨Nat.le_refl _, Nat.le_refl _⟩ (fun rv N h => x_loc [] rfl h) h)

theorem vWe_settled_68 {M : Mm} {b : Nat × Nat} {K : Int32 → Mm → Prop} {w0 : Int32}  
    (h : K w0 M) : X mWe_settled 68 [] [.int w0] M b (QI K) := by
  refine x_wf (fun hw => ?_)
  exact x_retQI (pc := 68) dWe_settled_68 rfl rfl h

theorem dWe_heaviest_0 : decode (mB mWe_heaviest) 0 = .ok (.bipush 6, 2) := op16 6 (by decide +kernel)
theorem dWe_heaviest_2 : decode (mB mWe_heaviest) 2 = .ok (.istore_n 3, 1) := op62 (by decide +kernel)
theorem dWe_heaviest_3 : decode (mB mWe_heaviest) 3 = .ok (.iload_n 3, 1) := op29 (by decide +kernel)
theorem dWe_heaviest_4 : decode (mB mWe_heaviest) 4 = .ok (.ifCond .lt 42, 3) := op155 0 42 (by decide +kernel)
theorem dWe_heaviest_7 : decode (mB mWe_heaviest) 7 = .ok (.iload_n 1, 1) := op27 (by decide +kernel)
theorem dWe_heaviest_8 : decode (mB mWe_heaviest) 8 = .ok (.aload_n 0, 1) := op42 (by decide +kernel)
theorem dWe_heaviest_9 : decode (mB mWe_heaviest) 9 = .ok (.getfield 15, 3) := op180 0 15 (by decide +kernel)
theorem dWe_heaviest_12 : decode (mB mWe_heaviest) 12 = .ok (.getfield 112, 3) := op180 0 112 (by decide +kernel)
theorem dWe_heaviest_15 : decode (mB mWe_heaviest) 15 = .ok (.iload_n 3, 1) := op29 (by decide +kernel)
theorem dWe_heaviest_16 : decode (mB mWe_heaviest) 16 = .ok (.iaload, 1) := op46 (by decide +kernel)
theorem dWe_heaviest_17 : decode (mB mWe_heaviest) 17 = .ok (.iload_n 3, 1) := op29 (by decide +kernel)
theorem dWe_heaviest_18 : decode (mB mWe_heaviest) 18 = .ok (.iload_n 2, 1) := op28 (by decide +kernel)
theorem dWe_heaviest_19 : decode (mB mWe_heaviest) 19 = .ok (.if_icmp .ne 8, 3) := op160 0 8 (by decide +kernel)
theorem dWe_heaviest_22 : decode (mB mWe_heaviest) 22 = .ok (.ldc 115, 2) := op18 115 (by decide +kernel)
theorem dWe_heaviest_24 : decode (mB mWe_heaviest) 24 = .ok (.goto 4, 3) := op167 0 4 (by decide +kernel)
theorem dWe_heaviest_27 : decode (mB mWe_heaviest) 27 = .ok (.iconst 0, 1) := op3 (by decide +kernel)
theorem dWe_heaviest_28 : decode (mB mWe_heaviest) 28 = .ok (.ior, 1) := op128 (by decide +kernel)
theorem dWe_heaviest_29 : decode (mB mWe_heaviest) 29 = .ok (.iand, 1) := op126 (by decide +kernel)
theorem dWe_heaviest_30 : decode (mB mWe_heaviest) 30 = .ok (.istore 4, 2) := op54 4 (by decide +kernel)
theorem dWe_heaviest_32 : decode (mB mWe_heaviest) 32 = .ok (.iload 4, 2) := op21 4 (by decide +kernel)
theorem dWe_heaviest_34 : decode (mB mWe_heaviest) 34 = .ok (.ifCond .eq 6, 3) := op153 0 6 (by decide +kernel)
theorem dWe_heaviest_37 : decode (mB mWe_heaviest) 37 = .ok (.iload 4, 2) := op21 4 (by decide +kernel)
theorem dWe_heaviest_39 : decode (mB mWe_heaviest) 39 = .ok (.ireturn, 1) := op172 (by decide +kernel)
theorem dWe_heaviest_40 : decode (mB mWe_heaviest) 40 = .ok (.iinc 3 (-1), 3) := op132 3 255 (by decide +kernel)
theorem dWe_heaviest_43 : decode (mB mWe_heaviest) 43 = .ok (.goto (-40), 3) := op167 255 216 (by decide +kernel)
theorem dWe_heaviest_46 : decode (mB mWe_heaviest) 46 = .ok (.iconst 0, 1) := op3 (by decide +kernel)
theorem dWe_heaviest_47 : decode (mB mWe_heaviest) 47 = .ok (.ireturn, 1) := op172 (by decide +kernel)

theorem vWe_heaviest_0 {M : Mm} {b : Nat × Nat} {K : Int32 → Mm → Prop} {v0 : Nat} {v1 : Int32} {v2 : Int32}  
    (h : X mWe_heaviest 3 [(0, .ref v0), (1, .int v1), (2, .int v2), (3, .int 6)] [] M b (QI K)) : X mWe_heaviest 0 [(0, .ref v0), (1, .int v1), (2, .int v2)] [] M b (QI K) := by
  refine x_wf (fun hw => ?_)
  refine x_bipush (pc := 0) dWe_heaviest_0 (v := 6) rfl ?_
  refine x_istore_n (pc := 2) dWe_heaviest_2 rfl (by decide) (L' := [(3, .int 6), (0, .ref v0), (1, .int v1), (2, .int v2)]) rfl ?_
  exact x_loc [1, 2, 3, 0] rfl h

theorem vWe_heaviest_3 {M : Mm} {b : Nat × Nat} {K : Int32 → Mm → Prop} {v0 : Nat} {v1 : Int32} {v2 : Int32} {v3 : Int32} {r1 : Nat} {r2 : Nat} (kv0 : v0 % 64 = 8) (e1 : gr M v0 0 = some r1) (e2 : gr M r1 9 = some r2)
    (h : (¬ v3 < 0 → vp_in v3 7) ∧ (v3 < 0 → (K 0 M)) ∧ ((¬ v3 < 0 ∧ ¬ v3 = v2) → (X mWe_heaviest 28 [(0, .ref v0), (1, .int v1), (2, .int v2), (3, .int v3)] [.int 0, .int (gi M r2 (v3).toNatClampNeg), .int v1] M b (QI K))) ∧ ((¬ v3 < 0 ∧ v3 = v2) → (X mWe_heaviest 28 [(0, .ref v0), (1, .int v1), (2, .int v2), (3, .int v3)] [.int 16777216, .int (gi M r2 (v3).toNatClampNeg), .int v1] M b (QI K)))) : X mWe_heaviest 3 [(0, .ref v0), (1, .int v1), (2, .int v2), (3, .int v3)] [] M b (QI K) := by
  refine x_wf (fun hw => ?_)
  refine x_iload_n (pc := 3) dWe_heaviest_3 rfl (q := 3) rfl ?_
  obtain ⟨s1, g1_0, g1_1, g1_2⟩ := h
  refine x_if_lt (pc := 4) dWe_heaviest_4 (t := 46) rfl (fun q1 => ?_) (fun q1 => ?_)
  · refine x_iconst (pc := 46) dWe_heaviest_46 (v := 0) rfl ?_
    have h := g1_0 q1
    exact x_retQI (pc := 47) dWe_heaviest_47 rfl rfl h
  · refine x_iload_n (pc := 7) dWe_heaviest_7 rfl (q := 1) rfl ?_
    refine x_aload_n (pc := 8) dWe_heaviest_8 rfl (q := 0) rfl ?_
    refine x_getR (pc := 9) dWe_heaviest_9 kv0 flWe_15 rfl e1 ?_
    refine x_getR (pc := 12) dWe_heaviest_12 (wfk hw e1 kv0) flWe_112 rfl e2 ?_
    refine x_iload_n (pc := 15) dWe_heaviest_15 rfl (q := 3) rfl ?_
    refine x_aldIj (pc := 16) (j := (v3).toNatClampNeg) (Or.inl ⟨rfl, rfl⟩) dWe_heaviest_16 (wfk hw e2 (wfk hw e1 kv0)) ak_15 rfl (s1 q1) ?_
    refine x_iload_n (pc := 17) dWe_heaviest_17 rfl (q := 3) rfl ?_
    refine x_iload_n (pc := 18) dWe_heaviest_18 rfl (q := 2) rfl ?_
    refine x_icmp_ne (pc := 19) dWe_heaviest_19 (t := 27) rfl (fun q2 => ?_) (fun q2 => ?_)
    · refine x_iconst (pc := 27) dWe_heaviest_27 (v := 0) rfl ?_
      have h := g1_1 ⟨q1, q2⟩
      exact h
    · refine x_ldc (pc := 22) dWe_heaviest_22 kcWe_115 ?_
      refine x_goto (pc := 24) dWe_heaviest_24 (t := 28) rfl ?_
      have h := g1_2 ⟨q1, q2⟩
      exact h

theorem vWe_heaviest_28 {M : Mm} {b : Nat × Nat} {K : Int32 → Mm → Prop} {v0 : Nat} {v1 : Int32} {v2 : Int32} {v3 : Int32} {w0 : Int32} {w1 : Int32} {w2 : Int32}  
    (h : ((w2 &&& (w1 ||| w0)) = 0 → (X mWe_heaviest 3 [(0, .ref v0), (1, .int v1), (2, .int v2), (3, .int (v3 + (-1)))] [] M b (QI K))) ∧ (¬ (w2 &&& (w1 ||| w0)) = 0 → (K (w2 &&& (w1 ||| w0)) M))) : X mWe_heaviest 28 [(0, .ref v0), (1, .int v1), (2, .int v2), (3, .int v3)] [.int w0, .int w1, .int w2] M b (QI K) := by
  refine x_wf (fun hw => ?_)
  refine x_ior (pc := 28) dWe_heaviest_28 ?_
  refine x_iand (pc := 29) dWe_heaviest_29 ?_
  refine x_istore (pc := 30) dWe_heaviest_30 (by decide) (L' := [(4, .int (w2 &&& (w1 ||| w0))), (0, .ref v0), (1, .int v1), (2, .int v2), (3, .int v3)]) rfl ?_
  refine x_iload (pc := 32) dWe_heaviest_32 (q := 0) rfl ?_
  obtain ⟨g1_0, g1_1⟩ := h
  refine x_if_eq (pc := 34) dWe_heaviest_34 (t := 40) rfl (fun q1 => ?_) (fun q1 => ?_)
  · have h := g1_0 q1
    refine x_iinc (pc := 40) dWe_heaviest_40 (q := 4) rfl (v := v3 + (-1)) rfl (by decide) (L' := [(3, .int (v3 + (-1))), (4, .int (w2 &&& (w1 ||| w0))), (0, .ref v0), (1, .int v1), (2, .int v2)]) rfl ?_
    refine x_goto (pc := 43) dWe_heaviest_43 (t := 3) rfl ?_
    exact x_loc [2, 3, 4, 0] rfl h
  · refine x_iload (pc := 37) dWe_heaviest_37 (q := 0) rfl ?_
    have h := g1_1 q1
    exact x_retQI (pc := 39) dWe_heaviest_39 rfl rfl h

theorem dWe_clashes_0 : decode (mB mWe_clashes) 0 = .ok (.aload_n 0, 1) := op42 (by decide +kernel)
theorem dWe_clashes_1 : decode (mB mWe_clashes) 1 = .ok (.getfield 15, 3) := op180 0 15 (by decide +kernel)
theorem dWe_clashes_4 : decode (mB mWe_clashes) 4 = .ok (.getfield 91, 3) := op180 0 91 (by decide +kernel)
theorem dWe_clashes_7 : decode (mB mWe_clashes) 7 = .ok (.iload_n 1, 1) := op27 (by decide +kernel)
theorem dWe_clashes_8 : decode (mB mWe_clashes) 8 = .ok (.iaload, 1) := op46 (by decide +kernel)
theorem dWe_clashes_9 : decode (mB mWe_clashes) 9 = .ok (.aload_n 0, 1) := op42 (by decide +kernel)
theorem dWe_clashes_10 : decode (mB mWe_clashes) 10 = .ok (.getfield 29, 3) := op180 0 29 (by decide +kernel)
theorem dWe_clashes_13 : decode (mB mWe_clashes) 13 = .ok (.iand, 1) := op126 (by decide +kernel)
theorem dWe_clashes_14 : decode (mB mWe_clashes) 14 = .ok (.istore_n 3, 1) := op62 (by decide +kernel)
theorem dWe_clashes_15 : decode (mB mWe_clashes) 15 = .ok (.iload_n 3, 1) := op29 (by decide +kernel)
theorem dWe_clashes_16 : decode (mB mWe_clashes) 16 = .ok (.aload_n 0, 1) := op42 (by decide +kernel)
theorem dWe_clashes_17 : decode (mB mWe_clashes) 17 = .ok (.getfield 15, 3) := op180 0 15 (by decide +kernel)
theorem dWe_clashes_20 : decode (mB mWe_clashes) 20 = .ok (.getfield 94, 3) := op180 0 94 (by decide +kernel)
theorem dWe_clashes_23 : decode (mB mWe_clashes) 23 = .ok (.iload_n 2, 1) := op28 (by decide +kernel)
theorem dWe_clashes_24 : decode (mB mWe_clashes) 24 = .ok (.iaload, 1) := op46 (by decide +kernel)
theorem dWe_clashes_25 : decode (mB mWe_clashes) 25 = .ok (.iand, 1) := op126 (by decide +kernel)
theorem dWe_clashes_26 : decode (mB mWe_clashes) 26 = .ok (.ifCond .eq 21, 3) := op153 0 21 (by decide +kernel)
theorem dWe_clashes_29 : decode (mB mWe_clashes) 29 = .ok (.iload_n 3, 1) := op29 (by decide +kernel)
theorem dWe_clashes_30 : decode (mB mWe_clashes) 30 = .ok (.aload_n 0, 1) := op42 (by decide +kernel)
theorem dWe_clashes_31 : decode (mB mWe_clashes) 31 = .ok (.getfield 15, 3) := op180 0 15 (by decide +kernel)
theorem dWe_clashes_34 : decode (mB mWe_clashes) 34 = .ok (.getfield 97, 3) := op180 0 97 (by decide +kernel)
theorem dWe_clashes_37 : decode (mB mWe_clashes) 37 = .ok (.iload_n 2, 1) := op28 (by decide +kernel)
theorem dWe_clashes_38 : decode (mB mWe_clashes) 38 = .ok (.iaload, 1) := op46 (by decide +kernel)
theorem dWe_clashes_39 : decode (mB mWe_clashes) 39 = .ok (.iand, 1) := op126 (by decide +kernel)
theorem dWe_clashes_40 : decode (mB mWe_clashes) 40 = .ok (.ifCond .eq 7, 3) := op153 0 7 (by decide +kernel)
theorem dWe_clashes_43 : decode (mB mWe_clashes) 43 = .ok (.iconst 1, 1) := op4 (by decide +kernel)
theorem dWe_clashes_44 : decode (mB mWe_clashes) 44 = .ok (.goto 4, 3) := op167 0 4 (by decide +kernel)
theorem dWe_clashes_47 : decode (mB mWe_clashes) 47 = .ok (.iconst 0, 1) := op3 (by decide +kernel)
theorem dWe_clashes_48 : decode (mB mWe_clashes) 48 = .ok (.ireturn, 1) := op172 (by decide +kernel)

theorem vWe_clashes_0 {M : Mm} {b : Nat × Nat} {K : Int32 → Mm → Prop} {v0 : Nat} {v1 : Int32} {v2 : Int32} {r1 : Nat} {r2 : Nat} {r3 : Nat} {r4 : Nat} (kv0 : v0 % 64 = 8) (e1 : gr M v0 0 = some r1) (e2 : gr M r1 7 = some r2) (e3 : gr M r1 3 = some r3) (e4 : gr M r1 4 = some r4)
    (h : vp_in v1 8 ∧ (vp_in v2 64 ∧ ((¬ (((gi M r2 (v1).toNatClampNeg) &&& (gi M v0 2)) &&& (gi M r3 (v2).toNatClampNeg)) = 0 → vp_in v2 64) ∧ ((((((gi M r2 (v1).toNatClampNeg) &&& (gi M v0 2)) &&& (gi M r3 (v2).toNatClampNeg)) = 0) ∨ (¬ (((gi M r2 (v1).toNatClampNeg) &&& (gi M v0 2)) &&& (gi M r3 (v2).toNatClampNeg)) = 0 ∧ (((gi M r2 (v1).toNatClampNeg) &&& (gi M v0 2)) &&& (gi M r4 (v2).toNatClampNeg)) = 0)) → (K 0 M)) ∧ ((¬ (((gi M r2 (v1).toNatClampNeg) &&& (gi M v0 2)) &&& (gi M r3 (v2).toNatClampNeg)) = 0 ∧ ¬ (((gi M r2 (v1).toNatClampNeg) &&& (gi M v0 2)) &&& (gi M r4 (v2).toNatClampNeg)) = 0) → (K 1 M))))) : X mWe_clashes 0 [(0, .ref v0), (1, .int v1), (2, .int v2)] [] M b (QI K) := by
  refine x_wf (fun hw => ?_)
  refine x_aload_n (pc := 0) dWe_clashes_0 rfl (q := 0) rfl ?_
  refine x_getR (pc := 1) dWe_clashes_1 kv0 flWe_15 rfl e1 ?_
  refine x_getR (pc := 4) dWe_clashes_4 (wfk hw e1 kv0) flWe_91 rfl e2 ?_
  refine x_iload_n (pc := 7) dWe_clashes_7 rfl (q := 1) rfl ?_
  obtain ⟨s501, h⟩ := h
  refine x_aldIj (pc := 8) (j := (v1).toNatClampNeg) (Or.inl ⟨rfl, rfl⟩) dWe_clashes_8 (wfk hw e2 (wfk hw e1 kv0)) ak_13 rfl s501 ?_
  refine x_aload_n (pc := 9) dWe_clashes_9 rfl (q := 0) rfl ?_
  refine x_getI (pc := 10) dWe_clashes_10 kv0 flWe_29 rfl ?_
  refine x_iand (pc := 13) dWe_clashes_13 ?_
  refine x_istore_n (pc := 14) dWe_clashes_14 rfl (by decide) (L' := [(3, .int ((gi M r2 (v1).toNatClampNeg) &&& (gi M v0 2))), (0, .ref v0), (1, .int v1), (2, .int v2)]) rfl ?_
  refine x_iload_n (pc := 15) dWe_clashes_15 rfl (q := 0) rfl ?_
  refine x_aload_n (pc := 16) dWe_clashes_16 rfl (q := 1) rfl ?_
  refine x_getR (pc := 17) dWe_clashes_17 kv0 flWe_15 rfl e1 ?_
  refine x_getR (pc := 20) dWe_clashes_20 (wfk hw e1 kv0) flWe_94 rfl e3 ?_
  refine x_iload_n (pc := 23) dWe_clashes_23 rfl (q := 3) rfl ?_
  obtain ⟨s502, h⟩ := h
  refine x_aldIj (pc := 24) (j := (v2).toNatClampNeg) (Or.inl ⟨rfl, rfl⟩) dWe_clashes_24 (wfk hw e3 (wfk hw e1 kv0)) ak_14 rfl s502 ?_
  refine x_iand (pc := 25) dWe_clashes_25 ?_
  obtain ⟨s3, g1_0, g1_1⟩ := h
  have g1_k0 : ((((gi M r2 (v1).toNatClampNeg) &&& (gi M v0 2)) &&& (gi M r3 (v2).toNatClampNeg)) = 0) ∨ (¬ (((gi M r2 (v1).toNatClampNeg) &&& (gi M v0 2)) &&& (gi M r3 (v2).toNatClampNeg)) = 0 ∧ (((gi M r2 (v1).toNatClampNeg) &&& (gi M v0 2)) &&& (gi M r4 (v2).toNatClampNeg)) = 0) → X mWe_clashes 47 [(3, .int ((gi M r2 (v1).toNatClampNeg) &&& (gi M v0 2))), (0, .ref v0), (1, .int v1), (2, .int v2)] [] M b (QI K) := fun q => by
    have h := g1_0 q
    refine x_iconst (pc := 47) dWe_clashes_47 (v := 0) rfl ?_
    exact x_retQI (pc := 48) dWe_clashes_48 rfl (by (repeat' split) <;> rfl) h
  refine x_if_eq (pc := 26) dWe_clashes_26 (t := 47) rfl (fun q1 => ?_) (fun q1 => ?_)
  · exact g1_k0 (Or.inl q1)
  · refine x_iload_n (pc := 29) dWe_clashes_29 rfl (q := 0) rfl ?_
    refine x_aload_n (pc := 30) dWe_clashes_30 rfl (q := 1) rfl ?_
    refine x_getR (pc := 31) dWe_clashes_31 kv0 flWe_15 rfl e1 ?_
    refine x_getR (pc := 34) dWe_clashes_34 (wfk hw e1 kv0) flWe_97 rfl e4 ?_
    refine x_iload_n (pc := 37) dWe_clashes_37 rfl (q := 3) rfl ?_
    refine x_aldIj (pc := 38) (j := (v2).toNatClampNeg) (Or.inl ⟨rfl, rfl⟩) dWe_clashes_38 (wfk hw e4 (wfk hw e1 kv0)) ak_14 rfl (s3 q1) ?_
    refine x_iand (pc := 39) dWe_clashes_39 ?_
    refine x_if_eq (pc := 40) dWe_clashes_40 (t := 47) rfl (fun q2 => ?_) (fun q2 => ?_)
    · exact g1_k0 (Or.inr ⟨q1, q2⟩)
    · refine x_iconst (pc := 43) dWe_clashes_43 (v := 1) rfl ?_
      refine x_goto (pc := 44) dWe_clashes_44 (t := 48) rfl ?_
      have h := g1_1 ⟨q1, q2⟩
      exact x_retQI (pc := 48) dWe_clashes_48 rfl (by (repeat' split) <;> rfl) h

theorem dWe_weigh_0 : decode (mB mWe_weigh) 0 = .ok (.aload_n 0, 1) := op42 (by decide +kernel)
theorem dWe_weigh_1 : decode (mB mWe_weigh) 1 = .ok (.iload_n 1, 1) := op27 (by decide +kernel)
theorem dWe_weigh_2 : decode (mB mWe_weigh) 2 = .ok (.putfield 32, 3) := op181 0 32 (by decide +kernel)
theorem dWe_weigh_5 : decode (mB mWe_weigh) 5 = .ok (.aload_n 0, 1) := op42 (by decide +kernel)
theorem dWe_weigh_6 : decode (mB mWe_weigh) 6 = .ok (.aload_n 0, 1) := op42 (by decide +kernel)
theorem dWe_weigh_7 : decode (mB mWe_weigh) 7 = .ok (.iload_n 1, 1) := op27 (by decide +kernel)
theorem dWe_weigh_8 : decode (mB mWe_weigh) 8 = .ok (.invokevirtual 35, 3) := op182 0 35 (by decide +kernel)
theorem dWe_weigh_11 : decode (mB mWe_weigh) 11 = .ok (.putfield 39, 3) := op181 0 39 (by decide +kernel)
theorem dWe_weigh_14 : decode (mB mWe_weigh) 14 = .ok (.aload_n 0, 1) := op42 (by decide +kernel)
theorem dWe_weigh_15 : decode (mB mWe_weigh) 15 = .ok (.iconst 0, 1) := op3 (by decide +kernel)
theorem dWe_weigh_16 : decode (mB mWe_weigh) 16 = .ok (.putfield 42, 3) := op181 0 42 (by decide +kernel)
theorem dWe_weigh_19 : decode (mB mWe_weigh) 19 = .ok (.aload_n 0, 1) := op42 (by decide +kernel)
theorem dWe_weigh_20 : decode (mB mWe_weigh) 20 = .ok (.iconst 0, 1) := op3 (by decide +kernel)
theorem dWe_weigh_21 : decode (mB mWe_weigh) 21 = .ok (.putfield 45, 3) := op181 0 45 (by decide +kernel)
theorem dWe_weigh_24 : decode (mB mWe_weigh) 24 = .ok (.iconst 0, 1) := op3 (by decide +kernel)
theorem dWe_weigh_25 : decode (mB mWe_weigh) 25 = .ok (.istore_n 2, 1) := op61 (by decide +kernel)
theorem dWe_weigh_26 : decode (mB mWe_weigh) 26 = .ok (.iload_n 2, 1) := op28 (by decide +kernel)
theorem dWe_weigh_27 : decode (mB mWe_weigh) 27 = .ok (.bipush 8, 2) := op16 8 (by decide +kernel)
theorem dWe_weigh_29 : decode (mB mWe_weigh) 29 = .ok (.if_icmp .ge 60, 3) := op162 0 60 (by decide +kernel)
theorem dWe_weigh_32 : decode (mB mWe_weigh) 32 = .ok (.aload_n 0, 1) := op42 (by decide +kernel)
theorem dWe_weigh_33 : decode (mB mWe_weigh) 33 = .ok (.iload_n 2, 1) := op28 (by decide +kernel)
theorem dWe_weigh_34 : decode (mB mWe_weigh) 34 = .ok (.iload_n 1, 1) := op27 (by decide +kernel)
theorem dWe_weigh_35 : decode (mB mWe_weigh) 35 = .ok (.invokevirtual 48, 3) := op182 0 48 (by decide +kernel)
theorem dWe_weigh_38 : decode (mB mWe_weigh) 38 = .ok (.istore_n 3, 1) := op62 (by decide +kernel)
theorem dWe_weigh_39 : decode (mB mWe_weigh) 39 = .ok (.aload_n 0, 1) := op42 (by decide +kernel)
theorem dWe_weigh_40 : decode (mB mWe_weigh) 40 = .ok (.getfield 9, 3) := op180 0 9 (by decide +kernel)
theorem dWe_weigh_43 : decode (mB mWe_weigh) 43 = .ok (.iload_n 2, 1) := op28 (by decide +kernel)
theorem dWe_weigh_44 : decode (mB mWe_weigh) 44 = .ok (.iload_n 3, 1) := op29 (by decide +kernel)
theorem dWe_weigh_45 : decode (mB mWe_weigh) 45 = .ok (.iastore, 1) := op79 (by decide +kernel)
theorem dWe_weigh_46 : decode (mB mWe_weigh) 46 = .ok (.aload_n 0, 1) := op42 (by decide +kernel)
theorem dWe_weigh_47 : decode (mB mWe_weigh) 47 = .ok (.dup, 1) := op89 (by decide +kernel)
theorem dWe_weigh_48 : decode (mB mWe_weigh) 48 = .ok (.getfield 42, 3) := op180 0 42 (by decide +kernel)
theorem dWe_weigh_51 : decode (mB mWe_weigh) 51 = .ok (.iload_n 3, 1) := op29 (by decide +kernel)
theorem dWe_weigh_52 : decode (mB mWe_weigh) 52 = .ok (.iconst 1, 1) := op4 (by decide +kernel)
theorem dWe_weigh_53 : decode (mB mWe_weigh) 53 = .ok (.if_icmp .ne 7, 3) := op160 0 7 (by decide +kernel)
theorem dWe_weigh_56 : decode (mB mWe_weigh) 56 = .ok (.iconst 1, 1) := op4 (by decide +kernel)
theorem dWe_weigh_57 : decode (mB mWe_weigh) 57 = .ok (.goto 4, 3) := op167 0 4 (by decide +kernel)
theorem dWe_weigh_60 : decode (mB mWe_weigh) 60 = .ok (.iconst 0, 1) := op3 (by decide +kernel)
theorem dWe_weigh_61 : decode (mB mWe_weigh) 61 = .ok (.iadd, 1) := op96 (by decide +kernel)
theorem dWe_weigh_62 : decode (mB mWe_weigh) 62 = .ok (.putfield 42, 3) := op181 0 42 (by decide +kernel)
theorem dWe_weigh_65 : decode (mB mWe_weigh) 65 = .ok (.aload_n 0, 1) := op42 (by decide +kernel)
theorem dWe_weigh_66 : decode (mB mWe_weigh) 66 = .ok (.dup, 1) := op89 (by decide +kernel)
theorem dWe_weigh_67 : decode (mB mWe_weigh) 67 = .ok (.getfield 45, 3) := op180 0 45 (by decide +kernel)
theorem dWe_weigh_70 : decode (mB mWe_weigh) 70 = .ok (.iload_n 3, 1) := op29 (by decide +kernel)
theorem dWe_weigh_71 : decode (mB mWe_weigh) 71 = .ok (.ifCond .ne 7, 3) := op154 0 7 (by decide +kernel)
theorem dWe_weigh_74 : decode (mB mWe_weigh) 74 = .ok (.iconst 1, 1) := op4 (by decide +kernel)
theorem dWe_weigh_75 : decode (mB mWe_weigh) 75 = .ok (.goto 4, 3) := op167 0 4 (by decide +kernel)
theorem dWe_weigh_78 : decode (mB mWe_weigh) 78 = .ok (.iconst 0, 1) := op3 (by decide +kernel)
theorem dWe_weigh_79 : decode (mB mWe_weigh) 79 = .ok (.iadd, 1) := op96 (by decide +kernel)
theorem dWe_weigh_80 : decode (mB mWe_weigh) 80 = .ok (.putfield 45, 3) := op181 0 45 (by decide +kernel)
theorem dWe_weigh_83 : decode (mB mWe_weigh) 83 = .ok (.iinc 2 1, 3) := op132 2 1 (by decide +kernel)
theorem dWe_weigh_86 : decode (mB mWe_weigh) 86 = .ok (.goto (-60), 3) := op167 255 196 (by decide +kernel)
theorem dWe_weigh_89 : decode (mB mWe_weigh) 89 = .ok (.aload_n 0, 1) := op42 (by decide +kernel)
theorem dWe_weigh_90 : decode (mB mWe_weigh) 90 = .ok (.invokevirtual 52, 3) := op182 0 52 (by decide +kernel)
theorem dWe_weigh_93 : decode (mB mWe_weigh) 93 = .ok (.istore_n 2, 1) := op61 (by decide +kernel)
theorem dWe_weigh_94 : decode (mB mWe_weigh) 94 = .ok (.aload_n 0, 1) := op42 (by decide +kernel)
theorem dWe_weigh_95 : decode (mB mWe_weigh) 95 = .ok (.aload_n 0, 1) := op42 (by decide +kernel)
theorem dWe_weigh_96 : decode (mB mWe_weigh) 96 = .ok (.aload_n 0, 1) := op42 (by decide +kernel)
theorem dWe_weigh_97 : decode (mB mWe_weigh) 97 = .ok (.getfield 42, 3) := op180 0 42 (by decide +kernel)
theorem dWe_weigh_100 : decode (mB mWe_weigh) 100 = .ok (.aload_n 0, 1) := op42 (by decide +kernel)
theorem dWe_weigh_101 : decode (mB mWe_weigh) 101 = .ok (.getfield 45, 3) := op180 0 45 (by decide +kernel)
theorem dWe_weigh_104 : decode (mB mWe_weigh) 104 = .ok (.iload_n 2, 1) := op28 (by decide +kernel)
theorem dWe_weigh_105 : decode (mB mWe_weigh) 105 = .ok (.invokevirtual 56, 3) := op182 0 56 (by decide +kernel)
theorem dWe_weigh_108 : decode (mB mWe_weigh) 108 = .ok (.putfield 60, 3) := op181 0 60 (by decide +kernel)
theorem dWe_weigh_111 : decode (mB mWe_weigh) 111 = .ok (.aload_n 0, 1) := op42 (by decide +kernel)
theorem dWe_weigh_112 : decode (mB mWe_weigh) 112 = .ok (.aload_n 0, 1) := op42 (by decide +kernel)
theorem dWe_weigh_113 : decode (mB mWe_weigh) 113 = .ok (.aload_n 0, 1) := op42 (by decide +kernel)
theorem dWe_weigh_114 : decode (mB mWe_weigh) 114 = .ok (.getfield 60, 3) := op180 0 60 (by decide +kernel)
theorem dWe_weigh_117 : decode (mB mWe_weigh) 117 = .ok (.aload_n 0, 1) := op42 (by decide +kernel)
theorem dWe_weigh_118 : decode (mB mWe_weigh) 118 = .ok (.getfield 42, 3) := op180 0 42 (by decide +kernel)
theorem dWe_weigh_121 : decode (mB mWe_weigh) 121 = .ok (.aload_n 0, 1) := op42 (by decide +kernel)
theorem dWe_weigh_122 : decode (mB mWe_weigh) 122 = .ok (.getfield 45, 3) := op180 0 45 (by decide +kernel)
theorem dWe_weigh_125 : decode (mB mWe_weigh) 125 = .ok (.iload_n 2, 1) := op28 (by decide +kernel)
theorem dWe_weigh_126 : decode (mB mWe_weigh) 126 = .ok (.invokevirtual 63, 3) := op182 0 63 (by decide +kernel)
theorem dWe_weigh_129 : decode (mB mWe_weigh) 129 = .ok (.putfield 67, 3) := op181 0 67 (by decide +kernel)
theorem dWe_weigh_132 : decode (mB mWe_weigh) 132 = .ok (.return_, 1) := op177 (by decide +kernel)

theorem vWe_weigh_0 {M : Mm} {b : Nat × Nat} {K : Mm → Prop} {v0 : Nat} {v1 : Int32} (kv0 : v0 % 64 = 8) 
    (h : CI mWe_lawIn [.ref v0, .int v1] (si M v0 4 v1) (fun rv N => X mWe_weigh 11 [(0, .ref v0), (1, .int v1)] [.int rv, .ref v0] N b (QV K))) : X mWe_weigh 0 [(0, .ref v0), (1, .int v1)] [] M b (QV K) := by
  refine x_wf (fun hw => ?_)
  refine x_aload_n (pc := 0) dWe_weigh_0 rfl (q := 0) rfl ?_
  refine x_iload_n (pc := 1) dWe_weigh_1 rfl (q := 1) rfl ?_
  refine x_putI (pc := 2) dWe_weigh_2 kv0 flWe_32 rfl rfl ?_
  refine x_aload_n (pc := 5) dWe_weigh_5 rfl (q := 0) rfl ?_
  refine x_aload_n (pc := 6) dWe_weigh_6 rfl (q := 0) rfl ?_
  refine x_iload_n (pc := 7) dWe_weigh_7 rfl (q := 1) rfl ?_
  exact x_invV (pc := 8) dWe_weigh_8 (c := 8) (S := [.ref v0]) (As := [.int v1]) mlWe_35 hWe_lawIn rfl (by decide) rfl kv0 ⟨by decide, by decide⟩ ⟨Nat.zero_le _, Nat.zero_le _⟩ rfl (Nat.le_of_ble_eq_true rfl) (aftI (b' := b) ⟨Nat.le_refl _, Nat.le_refl _⟩ (fun rv N h => h) h)

theorem vWe_weigh_11 {M : Mm} {b : Nat × Nat} {K : Mm → Prop} {v0 : Nat} {v1 : Int32} {w0 : Int32} {w1 : Nat} (kw1 : w1 % 64 = 8) (kv0 : v0 % 64 = 8) 
    (h : X mWe_weigh 26 [(0, .ref v0), (1, .int v1), (2, .int 0)] [] (si (si (si M w1 5 w0) v0 6 0) v0 7 0) b (QV K)) : X mWe_weigh 11 [(0, .ref v0), (1, .int v1)] [.int w0, .ref w1] M b (QV K) := by
  refine x_wf (fun hw => ?_)
  refine x_putI (pc := 11) dWe_weigh_11 kw1 flWe_39 rfl rfl ?_
  refine x_aload_n (pc := 14) dWe_weigh_14 rfl (q := 0) rfl ?_
  refine x_iconst (pc := 15) dWe_weigh_15 (v := 0) rfl ?_
  refine x_putI (pc := 16) dWe_weigh_16 kv0 flWe_42 rfl rfl ?_
  refine x_aload_n (pc := 19) dWe_weigh_19 rfl (q := 0) rfl ?_
  refine x_iconst (pc := 20) dWe_weigh_20 (v := 0) rfl ?_
  refine x_putI (pc := 21) dWe_weigh_21 kv0 flWe_45 rfl rfl ?_
  refine x_iconst (pc := 24) dWe_weigh_24 (v := 0) rfl ?_
  refine x_istore_n (pc := 25) dWe_weigh_25 rfl (by decide) (L' := [(2, .int 0), (0, .ref v0), (1, .int v1)]) rfl ?_
  exact x_loc [1, 2, 0] rfl h

theorem vWe_weigh_26 {M : Mm} {b : Nat × Nat} {K : Mm → Prop} {v0 : Nat} {v1 : Int32} {v2 : Int32} (kv0 : v0 % 64 = 8) 
    (h : (8 ≤ v2 → (CI mWe_headSaying [.ref v0] M (fun rv N => X mWe_weigh 93 [(0, .ref v0)] [.int rv] N b (QV K)))) ∧ (¬ 8 ≤ v2 → (CI mWe_opinion [.ref v0, .int v2, .int v1] M (fun rv N => X mWe_weigh 38 [(0, .ref v0), (1, .int v1), (2, .int v2)] [.int rv] N b (QV K))))) : X mWe_weigh 26 [(0, .ref v0), (1, .int v1), (2, .int v2)] [] M b (QV K) := by
  refine x_wf (fun hw => ?_)
  refine x_iload_n (pc := 26) dWe_weigh_26 rfl (q := 2) rfl ?_
  refine x_bipush (pc := 27) dWe_weigh_27 (v := 8) rfl ?_
  obtain ⟨g1_0, g1_1⟩ := h
  refine x_icmp_ge (pc := 29) dWe_weigh_29 (t := 89) rfl (fun q1 => ?_) (fun q1 => ?_)
  · refine x_aload_n (pc := 89) dWe_weigh_89 rfl (q := 0) rfl ?_
    have h := g1_0 q1
    exact x_invV (pc := 90) dWe_weigh_90 (c := 8) (S := []) (As := []) mlWe_52 hWe_headSaying rfl (by decide) rfl kv0 ⟨by decide, by decide⟩ ⟨Nat.zero_le _, Nat.zero_le _⟩ rfl (Nat.le_of_ble_eq_true rfl) (aftI (b' := b) ⟨Nat.le_refl _, Nat.le_refl _⟩ (fun rv N h => x_loc [0] rfl h) h)
  · refine x_aload_n (pc := 32) dWe_weigh_32 rfl (q := 0) rfl ?_
    refine x_iload_n (pc := 33) dWe_weigh_33 rfl (q := 2) rfl ?_
    refine x_iload_n (pc := 34) dWe_weigh_34 rfl (q := 1) rfl ?_
    have h := g1_1 q1
    exact x_invV (pc := 35) dWe_weigh_35 (c := 8) (S := []) (As := [.int v2, .int v1]) mlWe_48 hWe_opinion rfl (by decide) rfl kv0 ⟨by decide, by decide⟩ ⟨Nat.zero_le _, Nat.zero_le _⟩ rfl (Nat.le_of_ble_eq_true rfl) (aftI (b' := b) ⟨Nat.le_refl _, Nat.le_refl _⟩ (fun rv N h => h) h)

theorem vWe_weigh_38 {M : Mm} {b : Nat × Nat} {K : Mm → Prop} {v0 : Nat} {v1 : Int32} {v2 : Int32} {w0 : Int32} {r1 : Nat} (kv0 : v0 % 64 = 8) (e1 : gr M v0 3 = some r1)
    (h : vp_in v2 8 ∧ (X mWe_weigh 26 [(0, .ref v0), (1, .int v1), (2, .int (v2 + 1))] [] (si (si (si M r1 (v2).toNatClampNeg w0) v0 6 ((gi (si M r1 (v2).toNatClampNeg w0) v0 6) + (if w0 = 1 then 1 else 0 : Int32))) v0 7 ((gi (si (si M r1 (v2).toNatClampNeg w0) v0 6 ((gi (si M r1 (v2).toNatClampNeg w0) v0 6) + (if w0 = 1 then 1 else 0 : Int32))) v0 7) + (if w0 = 0 then 1 else 0 : Int32))) b (QV K))) : X mWe_weigh 38 [(0, .ref v0), (1, .int v1), (2, .int v2)] [.int w0] M b (QV K) := by
  refine x_wf (fun hw => ?_)
  refine x_istore_n (pc := 38) dWe_weigh_38 rfl (by decide) (L' := [(3, .int w0), (0, .ref v0), (1, .int v1), (2, .int v2)]) rfl ?_
  refine x_aload_n (pc := 39) dWe_weigh_39 rfl (q := 1) rfl ?_
  refine x_getR (pc := 40) dWe_weigh_40 kv0 flWe_9 rfl e1 ?_
  refine x_iload_n (pc := 43) dWe_weigh_43 rfl (q := 3) rfl ?_
  refine x_iload_n (pc := 44) dWe_weigh_44 rfl (q := 0) rfl ?_
  obtain ⟨s501, h⟩ := h
  refine x_astIj (pc := 45) (j := (v2).toNatClampNeg) (v := w0) (Or.inl ⟨rfl, rfl, rfl⟩) dWe_weigh_45 (wfk hw e1 kv0) ak_13 rfl s501 ?_
  refine x_aload_n (pc := 46) dWe_weigh_46 rfl (q := 1) rfl ?_
  refine x_dup (pc := 47) dWe_weigh_47 rfl ?_
  refine x_getI (pc := 48) dWe_weigh_48 kv0 flWe_42 rfl ?_
  refine x_iload_n (pc := 51) dWe_weigh_51 rfl (q := 0) rfl ?_
  refine x_iconst (pc := 52) dWe_weigh_52 (v := 1) rfl ?_
  suffices hJ : X mWe_weigh 61 [(3, .int w0), (0, .ref v0), (1, .int v1), (2, .int v2)] [.int (if w0 = 1 then 1 else 0 : Int32), .int (gi (si M r1 (v2).toNatClampNeg w0) v0 6), .ref v0] (si M r1 (v2).toNatClampNeg w0) b (QV K) by
    refine x_icmp_ne (pc := 53) dWe_weigh_53 (t := 60) rfl (fun q1 => ?_) (fun q1 => ?_)
    · refine x_iconst (pc := 60) dWe_weigh_60 (v := 0) rfl ?_
      first | (rw [if_neg q1] at hJ; exact hJ) | (simp only [if_neg q1] at hJ ⊢; exact hJ)
    · refine x_iconst (pc := 56) dWe_weigh_56 (v := 1) rfl ?_
      refine x_goto (pc := 57) dWe_weigh_57 (t := 61) rfl ?_
      first | (rw [if_pos q1] at hJ; exact hJ) | (simp only [if_pos q1] at hJ ⊢; exact hJ)
  refine x_iadd (pc := 61) dWe_weigh_61 ?_
  refine x_putI (pc := 62) dWe_weigh_62 kv0 flWe_42 rfl rfl ?_
  refine x_aload_n (pc := 65) dWe_weigh_65 rfl (q := 1) rfl ?_
  refine x_dup (pc := 66) dWe_weigh_66 rfl ?_
  refine x_getI (pc := 67) dWe_weigh_67 kv0 flWe_45 rfl ?_
  refine x_iload_n (pc := 70) dWe_weigh_70 rfl (q := 0) rfl ?_
  suffices hJ : X mWe_weigh 79 [(3, .int w0), (0, .ref v0), (1, .int v1), (2, .int v2)] [.int (if w0 = 0 then 1 else 0 : Int32), .int (gi (si (si M r1 (v2).toNatClampNeg w0) v0 6 ((gi (si M r1 (v2).toNatClampNeg w0) v0 6) + (if w0 = 1 then 1 else 0 : Int32))) v0 7), .ref v0] (si (si M r1 (v2).toNatClampNeg w0) v0 6 ((gi (si M r1 (v2).toNatClampNeg w0) v0 6) + (if w0 = 1 then 1 else 0 : Int32))) b (QV K) by
    refine x_if_ne (pc := 71) dWe_weigh_71 (t := 78) rfl (fun q2 => ?_) (fun q2 => ?_)
    · refine x_iconst (pc := 78) dWe_weigh_78 (v := 0) rfl ?_
      first | (rw [if_neg q2] at hJ; exact hJ) | (simp only [if_neg q2] at hJ ⊢; exact hJ)
    · refine x_iconst (pc := 74) dWe_weigh_74 (v := 1) rfl ?_
      refine x_goto (pc := 75) dWe_weigh_75 (t := 79) rfl ?_
      first | (rw [if_pos q2] at hJ; exact hJ) | (simp only [if_pos q2] at hJ ⊢; exact hJ)
  refine x_iadd (pc := 79) dWe_weigh_79 ?_
  refine x_putI (pc := 80) dWe_weigh_80 kv0 flWe_45 rfl rfl ?_
  refine x_iinc (pc := 83) dWe_weigh_83 (q := 3) rfl (v := v2 + 1) rfl (by decide) (L' := [(2, .int (v2 + 1)), (3, .int w0), (0, .ref v0), (1, .int v1)]) rfl ?_
  refine x_goto (pc := 86) dWe_weigh_86 (t := 26) rfl ?_
  exact x_loc [2, 3, 0] rfl h

theorem vWe_weigh_93 {M : Mm} {b : Nat × Nat} {K : Mm → Prop} {v0 : Nat} {w0 : Int32} (kv0 : v0 % 64 = 8) 
    (h : CI mWe_decider [.ref v0, .int (gi M v0 6), .int (gi M v0 7), .int w0] M (fun rv N => X mWe_weigh 108 [(0, .ref v0), (2, .int w0)] [.int rv, .ref v0] N b (QV K))) : X mWe_weigh 93 [(0, .ref v0)] [.int w0] M b (QV K) := by
  refine x_wf (fun hw => ?_)
  refine x_istore_n (pc := 93) dWe_weigh_93 rfl (by decide) (L' := [(2, .int w0), (0, .ref v0)]) rfl ?_
  refine x_aload_n (pc := 94) dWe_weigh_94 rfl (q := 1) rfl ?_
  refine x_aload_n (pc := 95) dWe_weigh_95 rfl (q := 1) rfl ?_
  refine x_aload_n (pc := 96) dWe_weigh_96 rfl (q := 1) rfl ?_
  refine x_getI (pc := 97) dWe_weigh_97 kv0 flWe_42 rfl ?_
  refine x_aload_n (pc := 100) dWe_weigh_100 rfl (q := 1) rfl ?_
  refine x_getI (pc := 101) dWe_weigh_101 kv0 flWe_45 rfl ?_
  refine x_iload_n (pc := 104) dWe_weigh_104 rfl (q := 0) rfl ?_
  exact x_invV (pc := 105) dWe_weigh_105 (c := 8) (S := [.ref v0]) (As := [.int (gi M v0 6), .int (gi M v0 7), .int w0]) mlWe_56 hWe_decider rfl (by decide) rfl kv0 ⟨by decide, by decide⟩ ⟨Nat.zero_le _, Nat.zero_le _⟩ rfl (Nat.le_of_ble_eq_true rfl) (aftI (b' := b) ⟨Nat.le_refl _, Nat.le_refl _⟩ (fun rv N h => x_loc [1, 0] rfl h) h)

theorem vWe_weigh_108 {M : Mm} {b : Nat × Nat} {K : Mm → Prop} {v0 : Nat} {v2 : Int32} {w0 : Int32} {w1 : Nat} (kw1 : w1 % 64 = 8) (kv0 : v0 % 64 = 8) 
    (h : CI mWe_answerBy [.ref v0, .int (gi (si M w1 8 w0) v0 8), .int (gi (si M w1 8 w0) v0 6), .int (gi (si M w1 8 w0) v0 7), .int v2] (si M w1 8 w0) (fun rv N => X mWe_weigh 129 [] [.int rv, .ref v0] N b (QV K))) : X mWe_weigh 108 [(0, .ref v0), (2, .int v2)] [.int w0, .ref w1] M b (QV K) := by
  refine x_wf (fun hw => ?_)
  refine x_putI (pc := 108) dWe_weigh_108 kw1 flWe_60 rfl rfl ?_
  refine x_aload_n (pc := 111) dWe_weigh_111 rfl (q := 0) rfl ?_
  refine x_aload_n (pc := 112) dWe_weigh_112 rfl (q := 0) rfl ?_
  refine x_aload_n (pc := 113) dWe_weigh_113 rfl (q := 0) rfl ?_
  refine x_getI (pc := 114) dWe_weigh_114 kv0 flWe_60 rfl ?_
  refine x_aload_n (pc := 117) dWe_weigh_117 rfl (q := 0) rfl ?_
  refine x_getI (pc := 118) dWe_weigh_118 kv0 flWe_42 rfl ?_
  refine x_aload_n (pc := 121) dWe_weigh_121 rfl (q := 0) rfl ?_
  refine x_getI (pc := 122) dWe_weigh_122 kv0 flWe_45 rfl ?_
  refine x_iload_n (pc := 125) dWe_weigh_125 rfl (q := 1) rfl ?_
  exact x_invV (pc := 126) dWe_weigh_126 (c := 8) (S := [.ref v0]) (As := [.int (gi (si M w1 8 w0) v0 8), .int (gi (si M w1 8 w0) v0 6), .int (gi (si M w1 8 w0) v0 7), .int v2]) mlWe_63 hWe_answerBy rfl (by decide) rfl kv0 ⟨by decide, by decide⟩ ⟨Nat.zero_le _, Nat.zero_le _⟩ rfl (Nat.le_of_ble_eq_true rfl) (aftI (b' := b) ⟨Nat.le_refl _, Nat.le_refl _⟩ (fun rv N h => x_loc [] rfl h) h)

theorem vWe_weigh_129 {M : Mm} {b : Nat × Nat} {K : Mm → Prop} {w0 : Int32} {w1 : Nat} (kw1 : w1 % 64 = 8) 
    (h : K (si M w1 9 w0)) : X mWe_weigh 129 [] [.int w0, .ref w1] M b (QV K) := by
  refine x_wf (fun hw => ?_)
  refine x_putI (pc := 129) dWe_weigh_129 kw1 flWe_67 rfl rfl ?_
  exact x_retQV (pc := 132) dWe_weigh_132 rfl h

theorem dWe_lawIn_0 : decode (mB mWe_lawIn) 0 = .ok (.aload_n 0, 1) := op42 (by decide +kernel)
theorem dWe_lawIn_1 : decode (mB mWe_lawIn) 1 = .ok (.getfield 19, 3) := op180 0 19 (by decide +kernel)
theorem dWe_lawIn_4 : decode (mB mWe_lawIn) 4 = .ok (.getfield 74, 3) := op180 0 74 (by decide +kernel)
theorem dWe_lawIn_7 : decode (mB mWe_lawIn) 7 = .ok (.ifCond .ne 6, 3) := op154 0 6 (by decide +kernel)
theorem dWe_lawIn_10 : decode (mB mWe_lawIn) 10 = .ok (.bipush (-4), 2) := op16 252 (by decide +kernel)
theorem dWe_lawIn_12 : decode (mB mWe_lawIn) 12 = .ok (.ireturn, 1) := op172 (by decide +kernel)
theorem dWe_lawIn_13 : decode (mB mWe_lawIn) 13 = .ok (.aload_n 0, 1) := op42 (by decide +kernel)
theorem dWe_lawIn_14 : decode (mB mWe_lawIn) 14 = .ok (.getfield 19, 3) := op180 0 19 (by decide +kernel)
theorem dWe_lawIn_17 : decode (mB mWe_lawIn) 17 = .ok (.getfield 74, 3) := op180 0 74 (by decide +kernel)
theorem dWe_lawIn_20 : decode (mB mWe_lawIn) 20 = .ok (.iconst 2, 1) := op5 (by decide +kernel)
theorem dWe_lawIn_21 : decode (mB mWe_lawIn) 21 = .ok (.if_icmp .ne 15, 3) := op160 0 15 (by decide +kernel)
theorem dWe_lawIn_24 : decode (mB mWe_lawIn) 24 = .ok (.aload_n 0, 1) := op42 (by decide +kernel)
theorem dWe_lawIn_25 : decode (mB mWe_lawIn) 25 = .ok (.getfield 15, 3) := op180 0 15 (by decide +kernel)
theorem dWe_lawIn_28 : decode (mB mWe_lawIn) 28 = .ok (.getfield 79, 3) := op180 0 79 (by decide +kernel)
theorem dWe_lawIn_31 : decode (mB mWe_lawIn) 31 = .ok (.iload_n 1, 1) := op27 (by decide +kernel)
theorem dWe_lawIn_32 : decode (mB mWe_lawIn) 32 = .ok (.iaload, 1) := op46 (by decide +kernel)
theorem dWe_lawIn_33 : decode (mB mWe_lawIn) 33 = .ok (.goto 12, 3) := op167 0 12 (by decide +kernel)
theorem dWe_lawIn_36 : decode (mB mWe_lawIn) 36 = .ok (.aload_n 0, 1) := op42 (by decide +kernel)
theorem dWe_lawIn_37 : decode (mB mWe_lawIn) 37 = .ok (.getfield 15, 3) := op180 0 15 (by decide +kernel)
theorem dWe_lawIn_40 : decode (mB mWe_lawIn) 40 = .ok (.getfield 82, 3) := op180 0 82 (by decide +kernel)
theorem dWe_lawIn_43 : decode (mB mWe_lawIn) 43 = .ok (.iload_n 1, 1) := op27 (by decide +kernel)
theorem dWe_lawIn_44 : decode (mB mWe_lawIn) 44 = .ok (.iaload, 1) := op46 (by decide +kernel)
theorem dWe_lawIn_45 : decode (mB mWe_lawIn) 45 = .ok (.ireturn, 1) := op172 (by decide +kernel)

theorem vWe_lawIn_0 {M : Mm} {b : Nat × Nat} {K : Int32 → Mm → Prop} {v0 : Nat} {v1 : Int32} {r1 : Nat} {r2 : Nat} {r3 : Nat} {r4 : Nat} (kv0 : v0 % 64 = 8) (e1 : gr M v0 1 = some r1) (e2 : gr M v0 0 = some r2) (e3 : gr M r2 5 = some r3) (e4 : gr M r2 6 = some r4)
    (h : (¬ (gi M r1 6) = 0 ∧ ¬ (gi M r1 6) = 2 → vp_in v1 64) ∧ (¬ (gi M r1 6) = 0 ∧ (gi M r1 6) = 2 → vp_in v1 64) ∧ ((¬ (gi M r1 6) = 0 ∧ ¬ (gi M r1 6) = 2) → (K (gi M r3 (v1).toNatClampNeg) M)) ∧ ((¬ (gi M r1 6) = 0 ∧ (gi M r1 6) = 2) → (K (gi M r4 (v1).toNatClampNeg) M)) ∧ ((gi M r1 6) = 0 → (K (-4) M))) : X mWe_lawIn 0 [(0, .ref v0), (1, .int v1)] [] M b (QI K) := by
  refine x_wf (fun hw => ?_)
  refine x_aload_n (pc := 0) dWe_lawIn_0 rfl (q := 0) rfl ?_
  refine x_getR (pc := 1) dWe_lawIn_1 kv0 flWe_19 rfl e1 ?_
  refine x_getI (pc := 4) dWe_lawIn_4 (wfk hw e1 kv0) flWe_74 rfl ?_
  obtain ⟨s1, s2, g1_0, g1_1, g1_2⟩ := h
  refine x_if_ne (pc := 7) dWe_lawIn_7 (t := 13) rfl (fun q1 => ?_) (fun q1 => ?_)
  · refine x_aload_n (pc := 13) dWe_lawIn_13 rfl (q := 0) rfl ?_
    refine x_getR (pc := 14) dWe_lawIn_14 kv0 flWe_19 rfl e1 ?_
    refine x_getI (pc := 17) dWe_lawIn_17 (wfk hw e1 kv0) flWe_74 rfl ?_
    refine x_iconst (pc := 20) dWe_lawIn_20 (v := 2) rfl ?_
    refine x_icmp_ne (pc := 21) dWe_lawIn_21 (t := 36) rfl (fun q2 => ?_) (fun q2 => ?_)
    · refine x_aload_n (pc := 36) dWe_lawIn_36 rfl (q := 0) rfl ?_
      refine x_getR (pc := 37) dWe_lawIn_37 kv0 flWe_15 rfl e2 ?_
      refine x_getR (pc := 40) dWe_lawIn_40 (wfk hw e2 kv0) flWe_82 rfl e3 ?_
      refine x_iload_n (pc := 43) dWe_lawIn_43 rfl (q := 1) rfl ?_
      refine x_aldIj (pc := 44) (j := (v1).toNatClampNeg) (Or.inl ⟨rfl, rfl⟩) dWe_lawIn_44 (wfk hw e3 (wfk hw e2 kv0)) ak_14 rfl (s1 ⟨q1, q2⟩) ?_
      have h := g1_0 ⟨q1, q2⟩
      exact x_retQI (pc := 45) dWe_lawIn_45 rfl rfl h
    · refine x_aload_n (pc := 24) dWe_lawIn_24 rfl (q := 0) rfl ?_
      refine x_getR (pc := 25) dWe_lawIn_25 kv0 flWe_15 rfl e2 ?_
      refine x_getR (pc := 28) dWe_lawIn_28 (wfk hw e2 kv0) flWe_79 rfl e4 ?_
      refine x_iload_n (pc := 31) dWe_lawIn_31 rfl (q := 1) rfl ?_
      refine x_aldIj (pc := 32) (j := (v1).toNatClampNeg) (Or.inl ⟨rfl, rfl⟩) dWe_lawIn_32 (wfk hw e4 (wfk hw e2 kv0)) ak_14 rfl (s2 ⟨q1, q2⟩) ?_
      refine x_goto (pc := 33) dWe_lawIn_33 (t := 45) rfl ?_
      have h := g1_1 ⟨q1, q2⟩
      exact x_retQI (pc := 45) dWe_lawIn_45 rfl rfl h
  · refine x_bipush (pc := 10) dWe_lawIn_10 (v := (-4)) rfl ?_
    have h := g1_2 q1
    exact x_retQI (pc := 12) dWe_lawIn_12 rfl rfl h

theorem dWe_headSaying_0 : decode (mB mWe_headSaying) 0 = .ok (.aload_n 0, 1) := op42 (by decide +kernel)
theorem dWe_headSaying_1 : decode (mB mWe_headSaying) 1 = .ok (.getfield 19, 3) := op180 0 19 (by decide +kernel)
theorem dWe_headSaying_4 : decode (mB mWe_headSaying) 4 = .ok (.getfield 85, 3) := op180 0 85 (by decide +kernel)
theorem dWe_headSaying_7 : decode (mB mWe_headSaying) 7 = .ok (.ifCond .lt 30, 3) := op155 0 30 (by decide +kernel)
theorem dWe_headSaying_10 : decode (mB mWe_headSaying) 10 = .ok (.aload_n 0, 1) := op42 (by decide +kernel)
theorem dWe_headSaying_11 : decode (mB mWe_headSaying) 11 = .ok (.getfield 19, 3) := op180 0 19 (by decide +kernel)
theorem dWe_headSaying_14 : decode (mB mWe_headSaying) 14 = .ok (.getfield 85, 3) := op180 0 85 (by decide +kernel)
theorem dWe_headSaying_17 : decode (mB mWe_headSaying) 17 = .ok (.bipush 8, 2) := op16 8 (by decide +kernel)
theorem dWe_headSaying_19 : decode (mB mWe_headSaying) 19 = .ok (.if_icmp .ge 18, 3) := op162 0 18 (by decide +kernel)
theorem dWe_headSaying_22 : decode (mB mWe_headSaying) 22 = .ok (.aload_n 0, 1) := op42 (by decide +kernel)
theorem dWe_headSaying_23 : decode (mB mWe_headSaying) 23 = .ok (.getfield 9, 3) := op180 0 9 (by decide +kernel)
theorem dWe_headSaying_26 : decode (mB mWe_headSaying) 26 = .ok (.aload_n 0, 1) := op42 (by decide +kernel)
theorem dWe_headSaying_27 : decode (mB mWe_headSaying) 27 = .ok (.getfield 19, 3) := op180 0 19 (by decide +kernel)
theorem dWe_headSaying_30 : decode (mB mWe_headSaying) 30 = .ok (.getfield 85, 3) := op180 0 85 (by decide +kernel)
theorem dWe_headSaying_33 : decode (mB mWe_headSaying) 33 = .ok (.iaload, 1) := op46 (by decide +kernel)
theorem dWe_headSaying_34 : decode (mB mWe_headSaying) 34 = .ok (.goto 5, 3) := op167 0 5 (by decide +kernel)
theorem dWe_headSaying_37 : decode (mB mWe_headSaying) 37 = .ok (.bipush (-4), 2) := op16 252 (by decide +kernel)
theorem dWe_headSaying_39 : decode (mB mWe_headSaying) 39 = .ok (.ireturn, 1) := op172 (by decide +kernel)

theorem vWe_headSaying_0 {M : Mm} {b : Nat × Nat} {K : Int32 → Mm → Prop} {v0 : Nat} {r1 : Nat} {r2 : Nat} (kv0 : v0 % 64 = 8) (e1 : gr M v0 1 = some r1) (e2 : gr M v0 3 = some r2)
    (h : (¬ (gi M r1 4) < 0 ∧ ¬ 8 ≤ (gi M r1 4) → vp_in (gi M r1 4) 8) ∧ ((((gi M r1 4) < 0) ∨ (¬ (gi M r1 4) < 0 ∧ 8 ≤ (gi M r1 4))) → (K (-4) M)) ∧ ((¬ (gi M r1 4) < 0 ∧ ¬ 8 ≤ (gi M r1 4)) → (K (gi M r2 (gi M r1 4).toNatClampNeg) M))) : X mWe_headSaying 0 [(0, .ref v0)] [] M b (QI K) := by
  refine x_wf (fun hw => ?_)
  refine x_aload_n (pc := 0) dWe_headSaying_0 rfl (q := 0) rfl ?_
  refine x_getR (pc := 1) dWe_headSaying_1 kv0 flWe_19 rfl e1 ?_
  refine x_getI (pc := 4) dWe_headSaying_4 (wfk hw e1 kv0) flWe_85 rfl ?_
  obtain ⟨s1, g1_0, g1_1⟩ := h
  have g1_k0 : ((gi M r1 4) < 0) ∨ (¬ (gi M r1 4) < 0 ∧ 8 ≤ (gi M r1 4)) → X mWe_headSaying 37 [(0, .ref v0)] [] M b (QI K) := fun q => by
    have h := g1_0 q
    refine x_bipush (pc := 37) dWe_headSaying_37 (v := (-4)) rfl ?_
    exact x_retQI (pc := 39) dWe_headSaying_39 rfl rfl h
  refine x_if_lt (pc := 7) dWe_headSaying_7 (t := 37) rfl (fun q1 => ?_) (fun q1 => ?_)
  · exact g1_k0 (Or.inl q1)
  · refine x_aload_n (pc := 10) dWe_headSaying_10 rfl (q := 0) rfl ?_
    refine x_getR (pc := 11) dWe_headSaying_11 kv0 flWe_19 rfl e1 ?_
    refine x_getI (pc := 14) dWe_headSaying_14 (wfk hw e1 kv0) flWe_85 rfl ?_
    refine x_bipush (pc := 17) dWe_headSaying_17 (v := 8) rfl ?_
    refine x_icmp_ge (pc := 19) dWe_headSaying_19 (t := 37) rfl (fun q2 => ?_) (fun q2 => ?_)
    · exact g1_k0 (Or.inr ⟨q1, q2⟩)
    · refine x_aload_n (pc := 22) dWe_headSaying_22 rfl (q := 0) rfl ?_
      refine x_getR (pc := 23) dWe_headSaying_23 kv0 flWe_9 rfl e2 ?_
      refine x_aload_n (pc := 26) dWe_headSaying_26 rfl (q := 0) rfl ?_
      refine x_getR (pc := 27) dWe_headSaying_27 kv0 flWe_19 rfl e1 ?_
      refine x_getI (pc := 30) dWe_headSaying_30 (wfk hw e1 kv0) flWe_85 rfl ?_
      refine x_aldIj (pc := 33) (j := (gi M r1 4).toNatClampNeg) (Or.inl ⟨rfl, rfl⟩) dWe_headSaying_33 (wfk hw e2 kv0) ak_13 rfl (s1 ⟨q1, q2⟩) ?_
      refine x_goto (pc := 34) dWe_headSaying_34 (t := 39) rfl ?_
      have h := g1_1 ⟨q1, q2⟩
      exact x_retQI (pc := 39) dWe_headSaying_39 rfl rfl h

theorem dWe_decider_0 : decode (mB mWe_decider) 0 = .ok (.aload_n 0, 1) := op42 (by decide +kernel)
theorem dWe_decider_1 : decode (mB mWe_decider) 1 = .ok (.getfield 39, 3) := op180 0 39 (by decide +kernel)
theorem dWe_decider_4 : decode (mB mWe_decider) 4 = .ok (.bipush (-4), 2) := op16 252 (by decide +kernel)
theorem dWe_decider_6 : decode (mB mWe_decider) 6 = .ok (.if_icmp .eq 5, 3) := op159 0 5 (by decide +kernel)
theorem dWe_decider_9 : decode (mB mWe_decider) 9 = .ok (.iconst 1, 1) := op4 (by decide +kernel)
theorem dWe_decider_10 : decode (mB mWe_decider) 10 = .ok (.ireturn, 1) := op172 (by decide +kernel)
theorem dWe_decider_11 : decode (mB mWe_decider) 11 = .ok (.iload_n 1, 1) := op27 (by decide +kernel)
theorem dWe_decider_12 : decode (mB mWe_decider) 12 = .ok (.iload_n 2, 1) := op28 (by decide +kernel)
theorem dWe_decider_13 : decode (mB mWe_decider) 13 = .ok (.if_icmp .eq 5, 3) := op159 0 5 (by decide +kernel)
theorem dWe_decider_16 : decode (mB mWe_decider) 16 = .ok (.iconst 2, 1) := op5 (by decide +kernel)
theorem dWe_decider_17 : decode (mB mWe_decider) 17 = .ok (.ireturn, 1) := op172 (by decide +kernel)
theorem dWe_decider_18 : decode (mB mWe_decider) 18 = .ok (.iload_n 3, 1) := op29 (by decide +kernel)
theorem dWe_decider_19 : decode (mB mWe_decider) 19 = .ok (.bipush (-4), 2) := op16 252 (by decide +kernel)
theorem dWe_decider_21 : decode (mB mWe_decider) 21 = .ok (.if_icmp .eq 5, 3) := op159 0 5 (by decide +kernel)
theorem dWe_decider_24 : decode (mB mWe_decider) 24 = .ok (.iconst 3, 1) := op6 (by decide +kernel)
theorem dWe_decider_25 : decode (mB mWe_decider) 25 = .ok (.ireturn, 1) := op172 (by decide +kernel)
theorem dWe_decider_26 : decode (mB mWe_decider) 26 = .ok (.aload_n 0, 1) := op42 (by decide +kernel)
theorem dWe_decider_27 : decode (mB mWe_decider) 27 = .ok (.getfield 19, 3) := op180 0 19 (by decide +kernel)
theorem dWe_decider_30 : decode (mB mWe_decider) 30 = .ok (.getfield 88, 3) := op180 0 88 (by decide +kernel)
theorem dWe_decider_33 : decode (mB mWe_decider) 33 = .ok (.bipush (-4), 2) := op16 252 (by decide +kernel)
theorem dWe_decider_35 : decode (mB mWe_decider) 35 = .ok (.if_icmp .eq 7, 3) := op159 0 7 (by decide +kernel)
theorem dWe_decider_38 : decode (mB mWe_decider) 38 = .ok (.iconst 4, 1) := op7 (by decide +kernel)
theorem dWe_decider_39 : decode (mB mWe_decider) 39 = .ok (.goto 4, 3) := op167 0 4 (by decide +kernel)
theorem dWe_decider_42 : decode (mB mWe_decider) 42 = .ok (.iconst 0, 1) := op3 (by decide +kernel)
theorem dWe_decider_43 : decode (mB mWe_decider) 43 = .ok (.ireturn, 1) := op172 (by decide +kernel)

theorem vWe_decider_0 {M : Mm} {b : Nat × Nat} {K : Int32 → Mm → Prop} {v0 : Nat} {v1 : Int32} {v2 : Int32} {v3 : Int32} {r1 : Nat} (kv0 : v0 % 64 = 8) (e1 : gr M v0 1 = some r1)
    (h : (((gi M v0 5) = (-4) ∧ v1 = v2 ∧ v3 = (-4) ∧ (gi M r1 5) = (-4)) → (K 0 M)) ∧ (((gi M v0 5) = (-4) ∧ v1 = v2 ∧ v3 = (-4) ∧ ¬ (gi M r1 5) = (-4)) → (K 4 M)) ∧ (((gi M v0 5) = (-4) ∧ v1 = v2 ∧ ¬ v3 = (-4)) → (K 3 M)) ∧ (((gi M v0 5) = (-4) ∧ ¬ v1 = v2) → (K 2 M)) ∧ (¬ (gi M v0 5) = (-4) → (K 1 M))) : X mWe_decider 0 [(0, .ref v0), (1, .int v1), (2, .int v2), (3, .int v3)] [] M b (QI K) := by
  refine x_wf (fun hw => ?_)
  refine x_aload_n (pc := 0) dWe_decider_0 rfl (q := 0) rfl ?_
  refine x_getI (pc := 1) dWe_decider_1 kv0 flWe_39 rfl ?_
  refine x_bipush (pc := 4) dWe_decider_4 (v := (-4)) rfl ?_
  obtain ⟨g1_0, g1_1, g1_2, g1_3, g1_4⟩ := h
  refine x_icmp_eq (pc := 6) dWe_decider_6 (t := 11) rfl (fun q1 => ?_) (fun q1 => ?_)
  · refine x_iload_n (pc := 11) dWe_decider_11 rfl (q := 1) rfl ?_
    refine x_iload_n (pc := 12) dWe_decider_12 rfl (q := 2) rfl ?_
    refine x_icmp_eq (pc := 13) dWe_decider_13 (t := 18) rfl (fun q2 => ?_) (fun q2 => ?_)
    · refine x_iload_n (pc := 18) dWe_decider_18 rfl (q := 3) rfl ?_
      refine x_bipush (pc := 19) dWe_decider_19 (v := (-4)) rfl ?_
      refine x_icmp_eq (pc := 21) dWe_decider_21 (t := 26) rfl (fun q3 => ?_) (fun q3 => ?_)
      · refine x_aload_n (pc := 26) dWe_decider_26 rfl (q := 0) rfl ?_
        refine x_getR (pc := 27) dWe_decider_27 kv0 flWe_19 rfl e1 ?_
        refine x_getI (pc := 30) dWe_decider_30 (wfk hw e1 kv0) flWe_88 rfl ?_
        refine x_bipush (pc := 33) dWe_decider_33 (v := (-4)) rfl ?_
        refine x_icmp_eq (pc := 35) dWe_decider_35 (t := 42) rfl (fun q4 => ?_) (fun q4 => ?_)
        · refine x_iconst (pc := 42) dWe_decider_42 (v := 0) rfl ?_
          have h := g1_0 ⟨q1, q2, q3, q4⟩
          exact x_retQI (pc := 43) dWe_decider_43 rfl rfl h
        · refine x_iconst (pc := 38) dWe_decider_38 (v := 4) rfl ?_
          refine x_goto (pc := 39) dWe_decider_39 (t := 43) rfl ?_
          have h := g1_1 ⟨q1, q2, q3, q4⟩
          exact x_retQI (pc := 43) dWe_decider_43 rfl rfl h
      · refine x_iconst (pc := 24) dWe_decider_24 (v := 3) rfl ?_
        have h := g1_2 ⟨q1, q2, q3⟩
        exact x_retQI (pc := 25) dWe_decider_25 rfl rfl h
    · refine x_iconst (pc := 16) dWe_decider_16 (v := 2) rfl ?_
      have h := g1_3 ⟨q1, q2⟩
      exact x_retQI (pc := 17) dWe_decider_17 rfl rfl h
  · refine x_iconst (pc := 9) dWe_decider_9 (v := 1) rfl ?_
    have h := g1_4 q1
    exact x_retQI (pc := 10) dWe_decider_10 rfl rfl h

theorem dWe_answerBy_0 : decode (mB mWe_answerBy) 0 = .ok (.iload_n 1, 1) := op27 (by decide +kernel)
theorem dWe_answerBy_1 : decode (mB mWe_answerBy) 1 = .ok (.tableswitch 58 1 4 #[31, 36, 47, 50], 31) := by decide +kernel
theorem dWe_answerBy_32 : decode (mB mWe_answerBy) 32 = .ok (.aload_n 0, 1) := op42 (by decide +kernel)
theorem dWe_answerBy_33 : decode (mB mWe_answerBy) 33 = .ok (.getfield 39, 3) := op180 0 39 (by decide +kernel)
theorem dWe_answerBy_36 : decode (mB mWe_answerBy) 36 = .ok (.ireturn, 1) := op172 (by decide +kernel)
theorem dWe_answerBy_37 : decode (mB mWe_answerBy) 37 = .ok (.iload_n 2, 1) := op28 (by decide +kernel)
theorem dWe_answerBy_38 : decode (mB mWe_answerBy) 38 = .ok (.iload_n 3, 1) := op29 (by decide +kernel)
theorem dWe_answerBy_39 : decode (mB mWe_answerBy) 39 = .ok (.if_icmp .le 7, 3) := op164 0 7 (by decide +kernel)
theorem dWe_answerBy_42 : decode (mB mWe_answerBy) 42 = .ok (.iconst 1, 1) := op4 (by decide +kernel)
theorem dWe_answerBy_43 : decode (mB mWe_answerBy) 43 = .ok (.goto 4, 3) := op167 0 4 (by decide +kernel)
theorem dWe_answerBy_46 : decode (mB mWe_answerBy) 46 = .ok (.iconst 0, 1) := op3 (by decide +kernel)
theorem dWe_answerBy_47 : decode (mB mWe_answerBy) 47 = .ok (.ireturn, 1) := op172 (by decide +kernel)
theorem dWe_answerBy_48 : decode (mB mWe_answerBy) 48 = .ok (.iload 4, 2) := op21 4 (by decide +kernel)
theorem dWe_answerBy_50 : decode (mB mWe_answerBy) 50 = .ok (.ireturn, 1) := op172 (by decide +kernel)
theorem dWe_answerBy_51 : decode (mB mWe_answerBy) 51 = .ok (.aload_n 0, 1) := op42 (by decide +kernel)
theorem dWe_answerBy_52 : decode (mB mWe_answerBy) 52 = .ok (.getfield 19, 3) := op180 0 19 (by decide +kernel)
theorem dWe_answerBy_55 : decode (mB mWe_answerBy) 55 = .ok (.getfield 88, 3) := op180 0 88 (by decide +kernel)
theorem dWe_answerBy_58 : decode (mB mWe_answerBy) 58 = .ok (.ireturn, 1) := op172 (by decide +kernel)
theorem dWe_answerBy_59 : decode (mB mWe_answerBy) 59 = .ok (.bipush (-4), 2) := op16 252 (by decide +kernel)
theorem dWe_answerBy_61 : decode (mB mWe_answerBy) 61 = .ok (.ireturn, 1) := op172 (by decide +kernel)

theorem vWe_answerBy_0 {M : Mm} {b : Nat × Nat} {K : Int32 → Mm → Prop} {v0 : Nat} {v1 : Int32} {v2 : Int32} {v3 : Int32} {v4 : Int32} {r1 : Nat} (kv0 : v0 % 64 = 8) (e1 : gr M v0 1 = some r1)
    (h : (v1 = 1 → (K (gi M v0 5) M)) ∧ (v1 = 2 → (K (if v2 ≤ v3 then 0 else 1 : Int32) M)) ∧ (v1 = 3 → (K v4 M)) ∧ (v1 = 4 → (K (gi M r1 5) M)) ∧ (¬ v1 = 1 ∧ ¬ v1 = 2 ∧ ¬ v1 = 3 ∧ ¬ v1 = 4 → (K (-4) M))) : X mWe_answerBy 0 [(0, .ref v0), (1, .int v1), (2, .int v2), (3, .int v3), (4, .int v4)] [] M b (QI K) := by
  refine x_wf (fun hw => ?_)
  refine x_iload_n (pc := 0) dWe_answerBy_0 rfl (q := 1) rfl ?_
  obtain ⟨g1_0, g1_1, g1_2, g1_3, g1_4⟩ := h
  by_cases q1 : v1 = 1
  · refine x_tblIn (pc := 1) dWe_answerBy_1 (by rw [q1]; decide) (by rw [q1]; decide) (off := 31) (by rw [q1]; rfl) (t := 32) rfl ?_
    have h := g1_0 q1
    refine x_aload_n (pc := 32) dWe_answerBy_32 rfl (q := 0) rfl ?_
    refine x_getI (pc := 33) dWe_answerBy_33 kv0 flWe_39 rfl ?_
    exact x_retQI (pc := 36) dWe_answerBy_36 rfl rfl h
  by_cases q2 : v1 = 2
  · refine x_tblIn (pc := 1) dWe_answerBy_1 (by rw [q2]; decide) (by rw [q2]; decide) (off := 36) (by rw [q2]; rfl) (t := 37) rfl ?_
    have h := g1_1 q2
    refine x_iload_n (pc := 37) dWe_answerBy_37 rfl (q := 2) rfl ?_
    refine x_iload_n (pc := 38) dWe_answerBy_38 rfl (q := 3) rfl ?_
    suffices hJ : X mWe_answerBy 47 [(0, .ref v0), (1, .int v1), (2, .int v2), (3, .int v3), (4, .int v4)] [.int (if v2 ≤ v3 then 0 else 1 : Int32)] M b (QI K) by
      refine x_icmp_le (pc := 39) dWe_answerBy_39 (t := 46) rfl (fun q3 => ?_) (fun q3 => ?_)
      · refine x_iconst (pc := 46) dWe_answerBy_46 (v := 0) rfl ?_
        first | (rw [if_pos q3] at hJ; exact hJ) | (simp only [if_pos q3] at hJ ⊢; exact hJ)
      · refine x_iconst (pc := 42) dWe_answerBy_42 (v := 1) rfl ?_
        refine x_goto (pc := 43) dWe_answerBy_43 (t := 47) rfl ?_
        first | (rw [if_neg q3] at hJ; exact hJ) | (simp only [if_neg q3] at hJ ⊢; exact hJ)
    exact x_retQI (pc := 47) dWe_answerBy_47 rfl rfl h
  by_cases q4 : v1 = 3
  · refine x_tblIn (pc := 1) dWe_answerBy_1 (by rw [q4]; decide) (by rw [q4]; decide) (off := 47) (by rw [q4]; rfl) (t := 48) rfl ?_
    have h := g1_2 q4
    refine x_iload (pc := 48) dWe_answerBy_48 (q := 4) rfl ?_
    exact x_retQI (pc := 50) dWe_answerBy_50 rfl rfl h
  by_cases q5 : v1 = 4
  · refine x_tblIn (pc := 1) dWe_answerBy_1 (by rw [q5]; decide) (by rw [q5]; decide) (off := 50) (by rw [q5]; rfl) (t := 51) rfl ?_
    have h := g1_3 q5
    refine x_aload_n (pc := 51) dWe_answerBy_51 rfl (q := 0) rfl ?_
    refine x_getR (pc := 52) dWe_answerBy_52 kv0 flWe_19 rfl e1 ?_
    refine x_getI (pc := 55) dWe_answerBy_55 (wfk hw e1 kv0) flWe_88 rfl ?_
    exact x_retQI (pc := 58) dWe_answerBy_58 rfl rfl h
  have h := g1_4 ⟨q1, q2, q4, q5⟩
  have hout : (v1).toInt < 1 ∨ 4 < (v1).toInt := tblout (fun (k : Int) h1 h2 => by
    rcases (show k = 1 ∨ k = 2 ∨ k = 3 ∨ k = 4 by omega) with rfl | rfl | rfl | rfl
    · exact q1
    · exact q2
    · exact q4
    · exact q5)
  refine x_tblOut (pc := 1) dWe_answerBy_1 hout (t := 59) rfl ?_
  refine x_bipush (pc := 59) dWe_answerBy_59 (v := (-4)) rfl ?_
  exact x_retQI (pc := 61) dWe_answerBy_61 rfl rfl h

theorem dWe_heldIf_0 : decode (mB mWe_heldIf) 0 = .ok (.aload_n 0, 1) := op42 (by decide +kernel)
theorem dWe_heldIf_1 : decode (mB mWe_heldIf) 1 = .ok (.getfield 42, 3) := op180 0 42 (by decide +kernel)
theorem dWe_heldIf_4 : decode (mB mWe_heldIf) 4 = .ok (.aload_n 0, 1) := op42 (by decide +kernel)
theorem dWe_heldIf_5 : decode (mB mWe_heldIf) 5 = .ok (.getfield 9, 3) := op180 0 9 (by decide +kernel)
theorem dWe_heldIf_8 : decode (mB mWe_heldIf) 8 = .ok (.iload_n 1, 1) := op27 (by decide +kernel)
theorem dWe_heldIf_9 : decode (mB mWe_heldIf) 9 = .ok (.iaload, 1) := op46 (by decide +kernel)
theorem dWe_heldIf_10 : decode (mB mWe_heldIf) 10 = .ok (.iconst 1, 1) := op4 (by decide +kernel)
theorem dWe_heldIf_11 : decode (mB mWe_heldIf) 11 = .ok (.if_icmp .ne 7, 3) := op160 0 7 (by decide +kernel)
theorem dWe_heldIf_14 : decode (mB mWe_heldIf) 14 = .ok (.iconst 1, 1) := op4 (by decide +kernel)
theorem dWe_heldIf_15 : decode (mB mWe_heldIf) 15 = .ok (.goto 4, 3) := op167 0 4 (by decide +kernel)
theorem dWe_heldIf_18 : decode (mB mWe_heldIf) 18 = .ok (.iconst 0, 1) := op3 (by decide +kernel)
theorem dWe_heldIf_19 : decode (mB mWe_heldIf) 19 = .ok (.isub, 1) := op100 (by decide +kernel)
theorem dWe_heldIf_20 : decode (mB mWe_heldIf) 20 = .ok (.iload_n 2, 1) := op28 (by decide +kernel)
theorem dWe_heldIf_21 : decode (mB mWe_heldIf) 21 = .ok (.iconst 1, 1) := op4 (by decide +kernel)
theorem dWe_heldIf_22 : decode (mB mWe_heldIf) 22 = .ok (.if_icmp .ne 7, 3) := op160 0 7 (by decide +kernel)
theorem dWe_heldIf_25 : decode (mB mWe_heldIf) 25 = .ok (.iconst 1, 1) := op4 (by decide +kernel)
theorem dWe_heldIf_26 : decode (mB mWe_heldIf) 26 = .ok (.goto 4, 3) := op167 0 4 (by decide +kernel)
theorem dWe_heldIf_29 : decode (mB mWe_heldIf) 29 = .ok (.iconst 0, 1) := op3 (by decide +kernel)
theorem dWe_heldIf_30 : decode (mB mWe_heldIf) 30 = .ok (.iadd, 1) := op96 (by decide +kernel)
theorem dWe_heldIf_31 : decode (mB mWe_heldIf) 31 = .ok (.istore_n 3, 1) := op62 (by decide +kernel)
theorem dWe_heldIf_32 : decode (mB mWe_heldIf) 32 = .ok (.aload_n 0, 1) := op42 (by decide +kernel)
theorem dWe_heldIf_33 : decode (mB mWe_heldIf) 33 = .ok (.getfield 45, 3) := op180 0 45 (by decide +kernel)
theorem dWe_heldIf_36 : decode (mB mWe_heldIf) 36 = .ok (.aload_n 0, 1) := op42 (by decide +kernel)
theorem dWe_heldIf_37 : decode (mB mWe_heldIf) 37 = .ok (.getfield 9, 3) := op180 0 9 (by decide +kernel)
theorem dWe_heldIf_40 : decode (mB mWe_heldIf) 40 = .ok (.iload_n 1, 1) := op27 (by decide +kernel)
theorem dWe_heldIf_41 : decode (mB mWe_heldIf) 41 = .ok (.iaload, 1) := op46 (by decide +kernel)
theorem dWe_heldIf_42 : decode (mB mWe_heldIf) 42 = .ok (.ifCond .ne 7, 3) := op154 0 7 (by decide +kernel)
theorem dWe_heldIf_45 : decode (mB mWe_heldIf) 45 = .ok (.iconst 1, 1) := op4 (by decide +kernel)
theorem dWe_heldIf_46 : decode (mB mWe_heldIf) 46 = .ok (.goto 4, 3) := op167 0 4 (by decide +kernel)
theorem dWe_heldIf_49 : decode (mB mWe_heldIf) 49 = .ok (.iconst 0, 1) := op3 (by decide +kernel)
theorem dWe_heldIf_50 : decode (mB mWe_heldIf) 50 = .ok (.isub, 1) := op100 (by decide +kernel)
theorem dWe_heldIf_51 : decode (mB mWe_heldIf) 51 = .ok (.iload_n 2, 1) := op28 (by decide +kernel)
theorem dWe_heldIf_52 : decode (mB mWe_heldIf) 52 = .ok (.ifCond .ne 7, 3) := op154 0 7 (by decide +kernel)
theorem dWe_heldIf_55 : decode (mB mWe_heldIf) 55 = .ok (.iconst 1, 1) := op4 (by decide +kernel)
theorem dWe_heldIf_56 : decode (mB mWe_heldIf) 56 = .ok (.goto 4, 3) := op167 0 4 (by decide +kernel)
theorem dWe_heldIf_59 : decode (mB mWe_heldIf) 59 = .ok (.iconst 0, 1) := op3 (by decide +kernel)
theorem dWe_heldIf_60 : decode (mB mWe_heldIf) 60 = .ok (.iadd, 1) := op96 (by decide +kernel)
theorem dWe_heldIf_61 : decode (mB mWe_heldIf) 61 = .ok (.istore 4, 2) := op54 4 (by decide +kernel)
theorem dWe_heldIf_63 : decode (mB mWe_heldIf) 63 = .ok (.aload_n 0, 1) := op42 (by decide +kernel)
theorem dWe_heldIf_64 : decode (mB mWe_heldIf) 64 = .ok (.getfield 19, 3) := op180 0 19 (by decide +kernel)
theorem dWe_heldIf_67 : decode (mB mWe_heldIf) 67 = .ok (.getfield 85, 3) := op180 0 85 (by decide +kernel)
theorem dWe_heldIf_70 : decode (mB mWe_heldIf) 70 = .ok (.iload_n 1, 1) := op27 (by decide +kernel)
theorem dWe_heldIf_71 : decode (mB mWe_heldIf) 71 = .ok (.if_icmp .ne 7, 3) := op160 0 7 (by decide +kernel)
theorem dWe_heldIf_74 : decode (mB mWe_heldIf) 74 = .ok (.iload_n 2, 1) := op28 (by decide +kernel)
theorem dWe_heldIf_75 : decode (mB mWe_heldIf) 75 = .ok (.goto 7, 3) := op167 0 7 (by decide +kernel)
theorem dWe_heldIf_78 : decode (mB mWe_heldIf) 78 = .ok (.aload_n 0, 1) := op42 (by decide +kernel)
theorem dWe_heldIf_79 : decode (mB mWe_heldIf) 79 = .ok (.invokevirtual 52, 3) := op182 0 52 (by decide +kernel)
theorem dWe_heldIf_82 : decode (mB mWe_heldIf) 82 = .ok (.istore 5, 2) := op54 5 (by decide +kernel)
theorem dWe_heldIf_84 : decode (mB mWe_heldIf) 84 = .ok (.aload_n 0, 1) := op42 (by decide +kernel)
theorem dWe_heldIf_85 : decode (mB mWe_heldIf) 85 = .ok (.aload_n 0, 1) := op42 (by decide +kernel)
theorem dWe_heldIf_86 : decode (mB mWe_heldIf) 86 = .ok (.iload_n 3, 1) := op29 (by decide +kernel)
theorem dWe_heldIf_87 : decode (mB mWe_heldIf) 87 = .ok (.iload 4, 2) := op21 4 (by decide +kernel)
theorem dWe_heldIf_89 : decode (mB mWe_heldIf) 89 = .ok (.iload 5, 2) := op21 5 (by decide +kernel)
theorem dWe_heldIf_91 : decode (mB mWe_heldIf) 91 = .ok (.invokevirtual 56, 3) := op182 0 56 (by decide +kernel)
theorem dWe_heldIf_94 : decode (mB mWe_heldIf) 94 = .ok (.iload_n 3, 1) := op29 (by decide +kernel)
theorem dWe_heldIf_95 : decode (mB mWe_heldIf) 95 = .ok (.iload 4, 2) := op21 4 (by decide +kernel)
theorem dWe_heldIf_97 : decode (mB mWe_heldIf) 97 = .ok (.iload 5, 2) := op21 5 (by decide +kernel)
theorem dWe_heldIf_99 : decode (mB mWe_heldIf) 99 = .ok (.invokevirtual 63, 3) := op182 0 63 (by decide +kernel)
theorem dWe_heldIf_102 : decode (mB mWe_heldIf) 102 = .ok (.ireturn, 1) := op172 (by decide +kernel)

theorem vWe_heldIf_0 {M : Mm} {b : Nat × Nat} {K : Int32 → Mm → Prop} {v0 : Nat} {v1 : Int32} {v2 : Int32} {r1 : Nat} {r2 : Nat} (kv0 : v0 % 64 = 8) (e1 : gr M v0 3 = some r1) (e2 : gr M v0 1 = some r2)
    (h : vp_in v1 8 ∧ (vp_in v1 8 ∧ ((¬ (gi M r2 4) = v1 → (CI mWe_headSaying [.ref v0] M (fun rv N => X mWe_heldIf 82 [(0, .ref v0), (3, .int (((gi M v0 6) - (if (gi M r1 (v1).toNatClampNeg) = 1 then 1 else 0 : Int32)) + (if v2 = 1 then 1 else 0 : Int32))), (4, .int (((gi M v0 7) - (if (gi M r1 (v1).toNatClampNeg) = 0 then 1 else 0 : Int32)) + (if v2 = 0 then 1 else 0 : Int32)))] [.int rv] N b (QI K)))) ∧ ((gi M r2 4) = v1 → (X mWe_heldIf 82 [(0, .ref v0), (3, .int (((gi M v0 6) - (if (gi M r1 (v1).toNatClampNeg) = 1 then 1 else 0 : Int32)) + (if v2 = 1 then 1 else 0 : Int32))), (4, .int (((gi M v0 7) - (if (gi M r1 (v1).toNatClampNeg) = 0 then 1 else 0 : Int32)) + (if v2 = 0 then 1 else 0 : Int32)))] [.int v2] M b (QI K)))))) : X mWe_heldIf 0 [(0, .ref v0), (1, .int v1), (2, .int v2)] [] M b (QI K) := by
  refine x_wf (fun hw => ?_)
  refine x_aload_n (pc := 0) dWe_heldIf_0 rfl (q := 0) rfl ?_
  refine x_getI (pc := 1) dWe_heldIf_1 kv0 flWe_42 rfl ?_
  refine x_aload_n (pc := 4) dWe_heldIf_4 rfl (q := 0) rfl ?_
  refine x_getR (pc := 5) dWe_heldIf_5 kv0 flWe_9 rfl e1 ?_
  refine x_iload_n (pc := 8) dWe_heldIf_8 rfl (q := 1) rfl ?_
  obtain ⟨s501, h⟩ := h
  refine x_aldIj (pc := 9) (j := (v1).toNatClampNeg) (Or.inl ⟨rfl, rfl⟩) dWe_heldIf_9 (wfk hw e1 kv0) ak_13 rfl s501 ?_
  refine x_iconst (pc := 10) dWe_heldIf_10 (v := 1) rfl ?_
  suffices hJ : X mWe_heldIf 19 [(0, .ref v0), (1, .int v1), (2, .int v2)] [.int (if (gi M r1 (v1).toNatClampNeg) = 1 then 1 else 0 : Int32), .int (gi M v0 6)] M b (QI K) by
    refine x_icmp_ne (pc := 11) dWe_heldIf_11 (t := 18) rfl (fun q1 => ?_) (fun q1 => ?_)
    · refine x_iconst (pc := 18) dWe_heldIf_18 (v := 0) rfl ?_
      first | (rw [if_neg q1] at hJ; exact hJ) | (simp only [if_neg q1] at hJ ⊢; exact hJ)
    · refine x_iconst (pc := 14) dWe_heldIf_14 (v := 1) rfl ?_
      refine x_goto (pc := 15) dWe_heldIf_15 (t := 19) rfl ?_
      first | (rw [if_pos q1] at hJ; exact hJ) | (simp only [if_pos q1] at hJ ⊢; exact hJ)
  refine x_isub (pc := 19) dWe_heldIf_19 ?_
  refine x_iload_n (pc := 20) dWe_heldIf_20 rfl (q := 2) rfl ?_
  refine x_iconst (pc := 21) dWe_heldIf_21 (v := 1) rfl ?_
  suffices hJ : X mWe_heldIf 30 [(0, .ref v0), (1, .int v1), (2, .int v2)] [.int (if v2 = 1 then 1 else 0 : Int32), .int ((gi M v0 6) - (if (gi M r1 (v1).toNatClampNeg) = 1 then 1 else 0 : Int32))] M b (QI K) by
    refine x_icmp_ne (pc := 22) dWe_heldIf_22 (t := 29) rfl (fun q2 => ?_) (fun q2 => ?_)
    · refine x_iconst (pc := 29) dWe_heldIf_29 (v := 0) rfl ?_
      first | (rw [if_neg q2] at hJ; exact hJ) | (simp only [if_neg q2] at hJ ⊢; exact hJ)
    · refine x_iconst (pc := 25) dWe_heldIf_25 (v := 1) rfl ?_
      refine x_goto (pc := 26) dWe_heldIf_26 (t := 30) rfl ?_
      first | (rw [if_pos q2] at hJ; exact hJ) | (simp only [if_pos q2] at hJ ⊢; exact hJ)
  refine x_iadd (pc := 30) dWe_heldIf_30 ?_
  refine x_istore_n (pc := 31) dWe_heldIf_31 rfl (by decide) (L' := [(3, .int (((gi M v0 6) - (if (gi M r1 (v1).toNatClampNeg) = 1 then 1 else 0 : Int32)) + (if v2 = 1 then 1 else 0 : Int32))), (0, .ref v0), (1, .int v1), (2, .int v2)]) rfl ?_
  refine x_aload_n (pc := 32) dWe_heldIf_32 rfl (q := 1) rfl ?_
  refine x_getI (pc := 33) dWe_heldIf_33 kv0 flWe_45 rfl ?_
  refine x_aload_n (pc := 36) dWe_heldIf_36 rfl (q := 1) rfl ?_
  refine x_getR (pc := 37) dWe_heldIf_37 kv0 flWe_9 rfl e1 ?_
  refine x_iload_n (pc := 40) dWe_heldIf_40 rfl (q := 2) rfl ?_
  obtain ⟨s502, h⟩ := h
  refine x_aldIj (pc := 41) (j := (v1).toNatClampNeg) (Or.inl ⟨rfl, rfl⟩) dWe_heldIf_41 (wfk hw e1 kv0) ak_13 rfl s502 ?_
  suffices hJ : X mWe_heldIf 50 [(3, .int (((gi M v0 6) - (if (gi M r1 (v1).toNatClampNeg) = 1 then 1 else 0 : Int32)) + (if v2 = 1 then 1 else 0 : Int32))), (0, .ref v0), (1, .int v1), (2, .int v2)] [.int (if (gi M r1 (v1).toNatClampNeg) = 0 then 1 else 0 : Int32), .int (gi M v0 7)] M b (QI K) by
    refine x_if_ne (pc := 42) dWe_heldIf_42 (t := 49) rfl (fun q3 => ?_) (fun q3 => ?_)
    · refine x_iconst (pc := 49) dWe_heldIf_49 (v := 0) rfl ?_
      first | (rw [if_neg q3] at hJ; exact hJ) | (simp only [if_neg q3] at hJ ⊢; exact hJ)
    · refine x_iconst (pc := 45) dWe_heldIf_45 (v := 1) rfl ?_
      refine x_goto (pc := 46) dWe_heldIf_46 (t := 50) rfl ?_
      first | (rw [if_pos q3] at hJ; exact hJ) | (simp only [if_pos q3] at hJ ⊢; exact hJ)
  refine x_isub (pc := 50) dWe_heldIf_50 ?_
  refine x_iload_n (pc := 51) dWe_heldIf_51 rfl (q := 3) rfl ?_
  suffices hJ : X mWe_heldIf 60 [(3, .int (((gi M v0 6) - (if (gi M r1 (v1).toNatClampNeg) = 1 then 1 else 0 : Int32)) + (if v2 = 1 then 1 else 0 : Int32))), (0, .ref v0), (1, .int v1), (2, .int v2)] [.int (if v2 = 0 then 1 else 0 : Int32), .int ((gi M v0 7) - (if (gi M r1 (v1).toNatClampNeg) = 0 then 1 else 0 : Int32))] M b (QI K) by
    refine x_if_ne (pc := 52) dWe_heldIf_52 (t := 59) rfl (fun q4 => ?_) (fun q4 => ?_)
    · refine x_iconst (pc := 59) dWe_heldIf_59 (v := 0) rfl ?_
      first | (rw [if_neg q4] at hJ; exact hJ) | (simp only [if_neg q4] at hJ ⊢; exact hJ)
    · refine x_iconst (pc := 55) dWe_heldIf_55 (v := 1) rfl ?_
      refine x_goto (pc := 56) dWe_heldIf_56 (t := 60) rfl ?_
      first | (rw [if_pos q4] at hJ; exact hJ) | (simp only [if_pos q4] at hJ ⊢; exact hJ)
  refine x_iadd (pc := 60) dWe_heldIf_60 ?_
  refine x_istore (pc := 61) dWe_heldIf_61 (by decide) (L' := [(4, .int (((gi M v0 7) - (if (gi M r1 (v1).toNatClampNeg) = 0 then 1 else 0 : Int32)) + (if v2 = 0 then 1 else 0 : Int32))), (3, .int (((gi M v0 6) - (if (gi M r1 (v1).toNatClampNeg) = 1 then 1 else 0 : Int32)) + (if v2 = 1 then 1 else 0 : Int32))), (0, .ref v0), (1, .int v1), (2, .int v2)]) rfl ?_
  refine x_aload_n (pc := 63) dWe_heldIf_63 rfl (q := 2) rfl ?_
  refine x_getR (pc := 64) dWe_heldIf_64 kv0 flWe_19 rfl e2 ?_
  refine x_getI (pc := 67) dWe_heldIf_67 (wfk hw e2 kv0) flWe_85 rfl ?_
  refine x_iload_n (pc := 70) dWe_heldIf_70 rfl (q := 3) rfl ?_
  obtain ⟨g1_0, g1_1⟩ := h
  refine x_icmp_ne (pc := 71) dWe_heldIf_71 (t := 78) rfl (fun q5 => ?_) (fun q5 => ?_)
  · refine x_aload_n (pc := 78) dWe_heldIf_78 rfl (q := 2) rfl ?_
    have h := g1_0 q5
    exact x_invV (pc := 79) dWe_heldIf_79 (c := 8) (S := []) (As := []) mlWe_52 hWe_headSaying rfl (by decide) rfl kv0 ⟨by decide, by decide⟩ ⟨Nat.zero_le _, Nat.zero_le _⟩ rfl (Nat.le_of_ble_eq_true rfl) (aftI (b' := b) ⟨Nat.le_refl _, Nat.le_refl _⟩ (fun rv N h => x_loc [2, 1, 0] rfl h) h)
  · refine x_iload_n (pc := 74) dWe_heldIf_74 rfl (q := 4) rfl ?_
    refine x_goto (pc := 75) dWe_heldIf_75 (t := 82) rfl ?_
    have h := g1_1 q5
    exact x_loc [2, 1, 0] rfl h

theorem vWe_heldIf_82 {M : Mm} {b : Nat × Nat} {K : Int32 → Mm → Prop} {v0 : Nat} {v3 : Int32} {v4 : Int32} {w0 : Int32} (kv0 : v0 % 64 = 8) 
    (h : CI mWe_decider [.ref v0, .int v3, .int v4, .int w0] M (fun rv N => X mWe_heldIf 94 [(3, .int v3), (4, .int v4), (5, .int w0)] [.int rv, .ref v0] N b (QI K))) : X mWe_heldIf 82 [(0, .ref v0), (3, .int v3), (4, .int v4)] [.int w0] M b (QI K) := by
  refine x_wf (fun hw => ?_)
  refine x_istore (pc := 82) dWe_heldIf_82 (by decide) (L' := [(5, .int w0), (0, .ref v0), (3, .int v3), (4, .int v4)]) rfl ?_
  refine x_aload_n (pc := 84) dWe_heldIf_84 rfl (q := 1) rfl ?_
  refine x_aload_n (pc := 85) dWe_heldIf_85 rfl (q := 1) rfl ?_
  refine x_iload_n (pc := 86) dWe_heldIf_86 rfl (q := 2) rfl ?_
  refine x_iload (pc := 87) dWe_heldIf_87 (q := 3) rfl ?_
  refine x_iload (pc := 89) dWe_heldIf_89 (q := 0) rfl ?_
  exact x_invV (pc := 91) dWe_heldIf_91 (c := 8) (S := [.ref v0]) (As := [.int v3, .int v4, .int w0]) mlWe_56 hWe_decider rfl (by decide) rfl kv0 ⟨by decide, by decide⟩ ⟨Nat.zero_le _, Nat.zero_le _⟩ rfl (Nat.le_of_ble_eq_true rfl) (aftI (b' := b) ⟨Nat.le_refl _, Nat.le_refl _⟩ (fun rv N h => x_loc [2, 3, 0] rfl h) h)

theorem vWe_heldIf_94 {M : Mm} {b : Nat × Nat} {K : Int32 → Mm → Prop} {v3 : Int32} {v4 : Int32} {v5 : Int32} {w0 : Int32} {w1 : Nat} (kw1 : w1 % 64 = 8) 
    (h : CI mWe_answerBy [.ref w1, .int w0, .int v3, .int v4, .int v5] M (fun rv N => X mWe_heldIf 102 [] [.int rv] N b (QI K))) : X mWe_heldIf 94 [(3, .int v3), (4, .int v4), (5, .int v5)] [.int w0, .ref w1] M b (QI K) := by
  refine x_wf (fun hw => ?_)
  refine x_iload_n (pc := 94) dWe_heldIf_94 rfl (q := 0) rfl ?_
  refine x_iload (pc := 95) dWe_heldIf_95 (q := 1) rfl ?_
  refine x_iload (pc := 97) dWe_heldIf_97 (q := 2) rfl ?_
  exact x_invV (pc := 99) dWe_heldIf_99 (c := 8) (S := []) (As := [.int w0, .int v3, .int v4, .int v5]) mlWe_63 hWe_answerBy rfl (by decide) rfl kw1 ⟨by decide, by decide⟩ ⟨Nat.zero_le _, Nat.zero_le _⟩ rfl (Nat.le_of_ble_eq_true rfl) (aftI (b' := b) ⟨Nat.le_refl _, Nat.le_refl _⟩ (fun rv N h => x_loc [] rfl h) h)

theorem vWe_heldIf_102 {M : Mm} {b : Nat × Nat} {K : Int32 → Mm → Prop} {w0 : Int32}  
    (h : K w0 M) : X mWe_heldIf 102 [] [.int w0] M b (QI K) := by
  refine x_wf (fun hw => ?_)
  exact x_retQI (pc := 102) dWe_heldIf_102 rfl rfl h

theorem dWe_casesOf_0 : decode (mB mWe_casesOf) 0 = .ok (.lconst 0, 1) := op9 (by decide +kernel)
theorem dWe_casesOf_1 : decode (mB mWe_casesOf) 1 = .ok (.lstore_n 2, 1) := op65 (by decide +kernel)
theorem dWe_casesOf_2 : decode (mB mWe_casesOf) 2 = .ok (.iconst 0, 1) := op3 (by decide +kernel)
theorem dWe_casesOf_3 : decode (mB mWe_casesOf) 3 = .ok (.istore 4, 2) := op54 4 (by decide +kernel)
theorem dWe_casesOf_5 : decode (mB mWe_casesOf) 5 = .ok (.iload 4, 2) := op21 4 (by decide +kernel)
theorem dWe_casesOf_7 : decode (mB mWe_casesOf) 7 = .ok (.bipush 64, 2) := op16 64 (by decide +kernel)
theorem dWe_casesOf_9 : decode (mB mWe_casesOf) 9 = .ok (.if_icmp .ge 74, 3) := op162 0 74 (by decide +kernel)
theorem dWe_casesOf_12 : decode (mB mWe_casesOf) 12 = .ok (.aload_n 0, 1) := op42 (by decide +kernel)
theorem dWe_casesOf_13 : decode (mB mWe_casesOf) 13 = .ok (.iload 4, 2) := op21 4 (by decide +kernel)
theorem dWe_casesOf_15 : decode (mB mWe_casesOf) 15 = .ok (.invokevirtual 70, 3) := op182 0 70 (by decide +kernel)
theorem dWe_casesOf_18 : decode (mB mWe_casesOf) 18 = .ok (.iload_n 1, 1) := op27 (by decide +kernel)
theorem dWe_casesOf_19 : decode (mB mWe_casesOf) 19 = .ok (.bipush 10, 2) := op16 10 (by decide +kernel)
theorem dWe_casesOf_21 : decode (mB mWe_casesOf) 21 = .ok (.if_icmp .lt 13, 3) := op161 0 13 (by decide +kernel)
theorem dWe_casesOf_24 : decode (mB mWe_casesOf) 24 = .ok (.bipush 10, 2) := op16 10 (by decide +kernel)
theorem dWe_casesOf_26 : decode (mB mWe_casesOf) 26 = .ok (.aload_n 0, 1) := op42 (by decide +kernel)
theorem dWe_casesOf_27 : decode (mB mWe_casesOf) 27 = .ok (.getfield 60, 3) := op180 0 60 (by decide +kernel)
theorem dWe_casesOf_30 : decode (mB mWe_casesOf) 30 = .ok (.iadd, 1) := op96 (by decide +kernel)
theorem dWe_casesOf_31 : decode (mB mWe_casesOf) 31 = .ok (.goto 27, 3) := op167 0 27 (by decide +kernel)
theorem dWe_casesOf_34 : decode (mB mWe_casesOf) 34 = .ok (.aload_n 0, 1) := op42 (by decide +kernel)
theorem dWe_casesOf_35 : decode (mB mWe_casesOf) 35 = .ok (.getfield 67, 3) := op180 0 67 (by decide +kernel)
theorem dWe_casesOf_38 : decode (mB mWe_casesOf) 38 = .ok (.iconst 1, 1) := op4 (by decide +kernel)
theorem dWe_casesOf_39 : decode (mB mWe_casesOf) 39 = .ok (.if_icmp .ne 7, 3) := op160 0 7 (by decide +kernel)
theorem dWe_casesOf_42 : decode (mB mWe_casesOf) 42 = .ok (.iconst 0, 1) := op3 (by decide +kernel)
theorem dWe_casesOf_43 : decode (mB mWe_casesOf) 43 = .ok (.goto 15, 3) := op167 0 15 (by decide +kernel)
theorem dWe_casesOf_46 : decode (mB mWe_casesOf) 46 = .ok (.aload_n 0, 1) := op42 (by decide +kernel)
theorem dWe_casesOf_47 : decode (mB mWe_casesOf) 47 = .ok (.getfield 67, 3) := op180 0 67 (by decide +kernel)
theorem dWe_casesOf_50 : decode (mB mWe_casesOf) 50 = .ok (.ifCond .ne 7, 3) := op154 0 7 (by decide +kernel)
theorem dWe_casesOf_53 : decode (mB mWe_casesOf) 53 = .ok (.iconst 1, 1) := op4 (by decide +kernel)
theorem dWe_casesOf_54 : decode (mB mWe_casesOf) 54 = .ok (.goto 4, 3) := op167 0 4 (by decide +kernel)
theorem dWe_casesOf_57 : decode (mB mWe_casesOf) 57 = .ok (.iconst 2, 1) := op5 (by decide +kernel)
theorem dWe_casesOf_58 : decode (mB mWe_casesOf) 58 = .ok (.istore 5, 2) := op54 5 (by decide +kernel)
theorem dWe_casesOf_60 : decode (mB mWe_casesOf) 60 = .ok (.lload_n 2, 1) := op32 (by decide +kernel)
theorem dWe_casesOf_61 : decode (mB mWe_casesOf) 61 = .ok (.iload 5, 2) := op21 5 (by decide +kernel)
theorem dWe_casesOf_63 : decode (mB mWe_casesOf) 63 = .ok (.iload_n 1, 1) := op27 (by decide +kernel)
theorem dWe_casesOf_64 : decode (mB mWe_casesOf) 64 = .ok (.if_icmp .ne 10, 3) := op160 0 10 (by decide +kernel)
theorem dWe_casesOf_67 : decode (mB mWe_casesOf) 67 = .ok (.lconst 1, 1) := op10 (by decide +kernel)
theorem dWe_casesOf_68 : decode (mB mWe_casesOf) 68 = .ok (.iload 4, 2) := op21 4 (by decide +kernel)
theorem dWe_casesOf_70 : decode (mB mWe_casesOf) 70 = .ok (.lshl, 1) := op121 (by decide +kernel)
theorem dWe_casesOf_71 : decode (mB mWe_casesOf) 71 = .ok (.goto 4, 3) := op167 0 4 (by decide +kernel)
theorem dWe_casesOf_74 : decode (mB mWe_casesOf) 74 = .ok (.lconst 0, 1) := op9 (by decide +kernel)
theorem dWe_casesOf_75 : decode (mB mWe_casesOf) 75 = .ok (.lor, 1) := op129 (by decide +kernel)
theorem dWe_casesOf_76 : decode (mB mWe_casesOf) 76 = .ok (.lstore_n 2, 1) := op65 (by decide +kernel)
theorem dWe_casesOf_77 : decode (mB mWe_casesOf) 77 = .ok (.iinc 4 1, 3) := op132 4 1 (by decide +kernel)
theorem dWe_casesOf_80 : decode (mB mWe_casesOf) 80 = .ok (.goto (-75), 3) := op167 255 181 (by decide +kernel)
theorem dWe_casesOf_83 : decode (mB mWe_casesOf) 83 = .ok (.lload_n 2, 1) := op32 (by decide +kernel)
theorem dWe_casesOf_84 : decode (mB mWe_casesOf) 84 = .ok (.lreturn, 1) := op173 (by decide +kernel)

theorem vWe_casesOf_0 {M : Mm} {b : Nat × Nat} {K : Int64 → Mm → Prop} {v0 : Nat} {v1 : Int32}  
    (h : X mWe_casesOf 5 [(0, .ref v0), (1, .int v1), (2, .long 0), (4, .int 0)] [] M b (QJ K)) : X mWe_casesOf 0 [(0, .ref v0), (1, .int v1)] [] M b (QJ K) := by
  refine x_wf (fun hw => ?_)
  refine x_lconst (pc := 0) dWe_casesOf_0 (v := 0) rfl ?_
  refine x_lstore_n (pc := 1) dWe_casesOf_1 rfl (by decide) (L' := [(2, .long 0), (0, .ref v0), (1, .int v1)]) rfl ?_
  refine x_iconst (pc := 2) dWe_casesOf_2 (v := 0) rfl ?_
  refine x_istore (pc := 3) dWe_casesOf_3 (by decide) (L' := [(4, .int 0), (2, .long 0), (0, .ref v0), (1, .int v1)]) rfl ?_
  exact x_loc [2, 3, 1, 0] rfl h

theorem vWe_casesOf_5 {M : Mm} {b : Nat × Nat} {K : Int64 → Mm → Prop} {v0 : Nat} {v1 : Int32} {v2 : Int64} {v4 : Int32} (kv0 : v0 % 64 = 8) 
    (h : (64 ≤ v4 → (K v2 M)) ∧ (¬ 64 ≤ v4 → (CV mWe_weigh [.ref v0, .int v4] M (fun N => X mWe_casesOf 18 [(0, .ref v0), (1, .int v1), (2, .long v2), (4, .int v4)] [] N b (QJ K))))) : X mWe_casesOf 5 [(0, .ref v0), (1, .int v1), (2, .long v2), (4, .int v4)] [] M b (QJ K) := by
  refine x_wf (fun hw => ?_)
  refine x_iload (pc := 5) dWe_casesOf_5 (q := 3) rfl ?_
  refine x_bipush (pc := 7) dWe_casesOf_7 (v := 64) rfl ?_
  obtain ⟨g1_0, g1_1⟩ := h
  refine x_icmp_ge (pc := 9) dWe_casesOf_9 (t := 83) rfl (fun q1 => ?_) (fun q1 => ?_)
  · refine x_lload_n (pc := 83) dWe_casesOf_83 rfl (q := 2) rfl ?_
    have h := g1_0 q1
    exact x_retQJ (pc := 84) dWe_casesOf_84 rfl h
  · refine x_aload_n (pc := 12) dWe_casesOf_12 rfl (q := 0) rfl ?_
    refine x_iload (pc := 13) dWe_casesOf_13 (q := 3) rfl ?_
    have h := g1_1 q1
    exact x_invV (pc := 15) dWe_casesOf_15 (c := 8) (S := []) (As := [.int v4]) mlWe_70 hWe_weigh rfl (by decide) rfl kv0 ⟨by decide, by decide⟩ ⟨Nat.zero_le _, Nat.zero_le _⟩ rfl (Nat.le_of_ble_eq_true rfl) (aftV (b' := b) ⟨Nat.le_refl _, Nat.le_refl _⟩ (fun N h => h) h)

theorem vWe_casesOf_18 {M : Mm} {b : Nat × Nat} {K : Int64 → Mm → Prop} {v0 : Nat} {v1 : Int32} {v2 : Int64} {v4 : Int32} (kv0 : v0 % 64 = 8) 
    (h : X mWe_casesOf 5 [(0, .ref v0), (1, .int v1), (2, .long (v2 ||| (if (if v1 < 10 then (if (gi M v0 9) = 1 then 0 else (if (gi M v0 9) = 0 then 1 else 2 : Int32) : Int32) else (10 + (gi M v0 8)) : Int32) = v1 then ((1 : Int64) <<< ((v4).toInt64 &&& 63)) else 0 : Int64))), (4, .int (v4 + 1))] [] M b (QJ K)) : X mWe_casesOf 18 [(0, .ref v0), (1, .int v1), (2, .long v2), (4, .int v4)] [] M b (QJ K) := by
  refine x_wf (fun hw => ?_)
  refine x_iload_n (pc := 18) dWe_casesOf_18 rfl (q := 1) rfl ?_
  refine x_bipush (pc := 19) dWe_casesOf_19 (v := 10) rfl ?_
  suffices hJ : X mWe_casesOf 58 [(0, .ref v0), (1, .int v1), (2, .long v2), (4, .int v4)] [.int (if v1 < 10 then (if (gi M v0 9) = 1 then 0 else (if (gi M v0 9) = 0 then 1 else 2 : Int32) : Int32) else (10 + (gi M v0 8)) : Int32)] M b (QJ K) by
    refine x_icmp_lt (pc := 21) dWe_casesOf_21 (t := 34) rfl (fun q1 => ?_) (fun q1 => ?_)
    · refine x_aload_n (pc := 34) dWe_casesOf_34 rfl (q := 0) rfl ?_
      refine x_getI (pc := 35) dWe_casesOf_35 kv0 flWe_67 rfl ?_
      refine x_iconst (pc := 38) dWe_casesOf_38 (v := 1) rfl ?_
      refine x_icmp_ne (pc := 39) dWe_casesOf_39 (t := 46) rfl (fun q2 => ?_) (fun q2 => ?_)
      · refine x_aload_n (pc := 46) dWe_casesOf_46 rfl (q := 0) rfl ?_
        refine x_getI (pc := 47) dWe_casesOf_47 kv0 flWe_67 rfl ?_
        refine x_if_ne (pc := 50) dWe_casesOf_50 (t := 57) rfl (fun q3 => ?_) (fun q3 => ?_)
        · refine x_iconst (pc := 57) dWe_casesOf_57 (v := 2) rfl ?_
          first | (rw [if_pos q1, if_neg q2, if_neg q3] at hJ; exact hJ) | (simp only [if_pos q1, if_neg q2, if_neg q3] at hJ ⊢; exact hJ)
        · refine x_iconst (pc := 53) dWe_casesOf_53 (v := 1) rfl ?_
          refine x_goto (pc := 54) dWe_casesOf_54 (t := 58) rfl ?_
          first | (rw [if_pos q1, if_neg q2, if_pos q3] at hJ; exact hJ) | (simp only [if_pos q1, if_neg q2, if_pos q3] at hJ ⊢; exact hJ)
      · refine x_iconst (pc := 42) dWe_casesOf_42 (v := 0) rfl ?_
        refine x_goto (pc := 43) dWe_casesOf_43 (t := 58) rfl ?_
        first | (rw [if_pos q1, if_pos q2] at hJ; exact hJ) | (simp only [if_pos q1, if_pos q2] at hJ ⊢; exact hJ)
    · refine x_bipush (pc := 24) dWe_casesOf_24 (v := 10) rfl ?_
      refine x_aload_n (pc := 26) dWe_casesOf_26 rfl (q := 0) rfl ?_
      refine x_getI (pc := 27) dWe_casesOf_27 kv0 flWe_60 rfl ?_
      refine x_iadd (pc := 30) dWe_casesOf_30 ?_
      refine x_goto (pc := 31) dWe_casesOf_31 (t := 58) rfl ?_
      first | (rw [if_neg q1] at hJ; exact hJ) | (simp only [if_neg q1] at hJ ⊢; exact hJ)
  refine x_istore (pc := 58) dWe_casesOf_58 (by decide) (L' := [(5, .int (if v1 < 10 then (if (gi M v0 9) = 1 then 0 else (if (gi M v0 9) = 0 then 1 else 2 : Int32) : Int32) else (10 + (gi M v0 8)) : Int32)), (0, .ref v0), (1, .int v1), (2, .long v2), (4, .int v4)]) rfl ?_
  refine x_lload_n (pc := 60) dWe_casesOf_60 rfl (q := 3) rfl ?_
  refine x_iload (pc := 61) dWe_casesOf_61 (q := 0) rfl ?_
  refine x_iload_n (pc := 63) dWe_casesOf_63 rfl (q := 2) rfl ?_
  suffices hJ : X mWe_casesOf 75 [(5, .int (if v1 < 10 then (if (gi M v0 9) = 1 then 0 else (if (gi M v0 9) = 0 then 1 else 2 : Int32) : Int32) else (10 + (gi M v0 8)) : Int32)), (0, .ref v0), (1, .int v1), (2, .long v2), (4, .int v4)] [.long (if (if v1 < 10 then (if (gi M v0 9) = 1 then 0 else (if (gi M v0 9) = 0 then 1 else 2 : Int32) : Int32) else (10 + (gi M v0 8)) : Int32) = v1 then ((1 : Int64) <<< ((v4).toInt64 &&& 63)) else 0 : Int64), .long v2] M b (QJ K) by
    refine x_icmp_ne (pc := 64) dWe_casesOf_64 (t := 74) rfl (fun q4 => ?_) (fun q4 => ?_)
    · refine x_lconst (pc := 74) dWe_casesOf_74 (v := 0) rfl ?_
      first | (rw [if_neg q4] at hJ; exact hJ) | (simp only [if_neg q4] at hJ ⊢; exact hJ)
    · refine x_lconst (pc := 67) dWe_casesOf_67 (v := 1) rfl ?_
      refine x_iload (pc := 68) dWe_casesOf_68 (q := 4) rfl ?_
      refine x_lshl (pc := 70) dWe_casesOf_70 ?_
      refine x_goto (pc := 71) dWe_casesOf_71 (t := 75) rfl ?_
      first | (rw [if_pos q4] at hJ; exact hJ) | (simp only [if_pos q4] at hJ ⊢; exact hJ)
  refine x_lor (pc := 75) dWe_casesOf_75 ?_
  refine x_lstore_n (pc := 76) dWe_casesOf_76 rfl (by decide) (L' := [(2, .long (v2 ||| (if (if v1 < 10 then (if (gi M v0 9) = 1 then 0 else (if (gi M v0 9) = 0 then 1 else 2 : Int32) : Int32) else (10 + (gi M v0 8)) : Int32) = v1 then ((1 : Int64) <<< ((v4).toInt64 &&& 63)) else 0 : Int64))), (5, .int (if v1 < 10 then (if (gi M v0 9) = 1 then 0 else (if (gi M v0 9) = 0 then 1 else 2 : Int32) : Int32) else (10 + (gi M v0 8)) : Int32)), (0, .ref v0), (1, .int v1), (4, .int v4)]) rfl ?_
  refine x_iinc (pc := 77) dWe_casesOf_77 (q := 4) rfl (v := v4 + 1) rfl (by decide) (L' := [(4, .int (v4 + 1)), (2, .long (v2 ||| (if (if v1 < 10 then (if (gi M v0 9) = 1 then 0 else (if (gi M v0 9) = 0 then 1 else 2 : Int32) : Int32) else (10 + (gi M v0 8)) : Int32) = v1 then ((1 : Int64) <<< ((v4).toInt64 &&& 63)) else 0 : Int64))), (5, .int (if v1 < 10 then (if (gi M v0 9) = 1 then 0 else (if (gi M v0 9) = 0 then 1 else 2 : Int32) : Int32) else (10 + (gi M v0 8)) : Int32)), (0, .ref v0), (1, .int v1)]) rfl ?_
  refine x_goto (pc := 80) dWe_casesOf_80 (t := 5) rfl ?_
  exact x_loc [3, 4, 1, 0] rfl h

theorem dWe_heldIn_0 : decode (mB mWe_heldIn) 0 = .ok (.aload_n 0, 1) := op42 (by decide +kernel)
theorem dWe_heldIn_1 : decode (mB mWe_heldIn) 1 = .ok (.iload_n 1, 1) := op27 (by decide +kernel)
theorem dWe_heldIn_2 : decode (mB mWe_heldIn) 2 = .ok (.invokevirtual 70, 3) := op182 0 70 (by decide +kernel)
theorem dWe_heldIn_5 : decode (mB mWe_heldIn) 5 = .ok (.aload_n 0, 1) := op42 (by decide +kernel)
theorem dWe_heldIn_6 : decode (mB mWe_heldIn) 6 = .ok (.getfield 67, 3) := op180 0 67 (by decide +kernel)
theorem dWe_heldIn_9 : decode (mB mWe_heldIn) 9 = .ok (.ireturn, 1) := op172 (by decide +kernel)

theorem vWe_heldIn_0 {M : Mm} {b : Nat × Nat} {K : Int32 → Mm → Prop} {v0 : Nat} {v1 : Int32} (kv0 : v0 % 64 = 8) 
    (h : CV mWe_weigh [.ref v0, .int v1] M (fun N => X mWe_heldIn 5 [(0, .ref v0)] [] N b (QI K))) : X mWe_heldIn 0 [(0, .ref v0), (1, .int v1)] [] M b (QI K) := by
  refine x_wf (fun hw => ?_)
  refine x_aload_n (pc := 0) dWe_heldIn_0 rfl (q := 0) rfl ?_
  refine x_iload_n (pc := 1) dWe_heldIn_1 rfl (q := 1) rfl ?_
  exact x_invV (pc := 2) dWe_heldIn_2 (c := 8) (S := []) (As := [.int v1]) mlWe_70 hWe_weigh rfl (by decide) rfl kv0 ⟨by decide, by decide⟩ ⟨Nat.zero_le _, Nat.zero_le _⟩ rfl (Nat.le_of_ble_eq_true rfl) (aftV (b' := b) ⟨Nat.le_refl _, Nat.le_refl _⟩ (fun N h => x_loc [0] rfl h) h)

theorem vWe_heldIn_5 {M : Mm} {b : Nat × Nat} {K : Int32 → Mm → Prop} {v0 : Nat} (kv0 : v0 % 64 = 8) 
    (h : K (gi M v0 9) M) : X mWe_heldIn 5 [(0, .ref v0)] [] M b (QI K) := by
  refine x_wf (fun hw => ?_)
  refine x_aload_n (pc := 5) dWe_heldIn_5 rfl (q := 0) rfl ?_
  refine x_getI (pc := 6) dWe_heldIn_6 kv0 flWe_67 rfl ?_
  exact x_retQI (pc := 9) dWe_heldIn_9 rfl rfl h

theorem dFi_best_0 : decode (mB mFi_best) 0 = .ok (.aload_n 0, 1) := op42 (by decide +kernel)
theorem dFi_best_1 : decode (mB mFi_best) 1 = .ok (.getfield 9, 3) := op180 0 9 (by decide +kernel)
theorem dFi_best_4 : decode (mB mFi_best) 4 = .ok (.iconst 0, 1) := op3 (by decide +kernel)
theorem dFi_best_5 : decode (mB mFi_best) 5 = .ok (.invokestatic 19, 3) := op184 0 19 (by decide +kernel)
theorem dFi_best_8 : decode (mB mFi_best) 8 = .ok (.iconst 0, 1) := op3 (by decide +kernel)
theorem dFi_best_9 : decode (mB mFi_best) 9 = .ok (.istore_n 1, 1) := op60 (by decide +kernel)
theorem dFi_best_10 : decode (mB mFi_best) 10 = .ok (.iload_n 1, 1) := op27 (by decide +kernel)
theorem dFi_best_11 : decode (mB mFi_best) 11 = .ok (.bipush 64, 2) := op16 64 (by decide +kernel)
theorem dFi_best_13 : decode (mB mFi_best) 13 = .ok (.if_icmp .ge 33, 3) := op162 0 33 (by decide +kernel)
theorem dFi_best_16 : decode (mB mFi_best) 16 = .ok (.aload_n 0, 1) := op42 (by decide +kernel)
theorem dFi_best_17 : decode (mB mFi_best) 17 = .ok (.getfield 15, 3) := op180 0 15 (by decide +kernel)
theorem dFi_best_20 : decode (mB mFi_best) 20 = .ok (.iload_n 1, 1) := op27 (by decide +kernel)
theorem dFi_best_21 : decode (mB mFi_best) 21 = .ok (.invokevirtual 25, 3) := op182 0 25 (by decide +kernel)
theorem dFi_best_24 : decode (mB mFi_best) 24 = .ok (.aload_n 0, 1) := op42 (by decide +kernel)
theorem dFi_best_25 : decode (mB mFi_best) 25 = .ok (.getfield 15, 3) := op180 0 15 (by decide +kernel)
theorem dFi_best_28 : decode (mB mFi_best) 28 = .ok (.getfield 31, 3) := op180 0 31 (by decide +kernel)
theorem dFi_best_31 : decode (mB mFi_best) 31 = .ok (.bipush (-4), 2) := op16 252 (by decide +kernel)
theorem dFi_best_33 : decode (mB mFi_best) 33 = .ok (.if_icmp .ne 7, 3) := op160 0 7 (by decide +kernel)
theorem dFi_best_36 : decode (mB mFi_best) 36 = .ok (.aload_n 0, 1) := op42 (by decide +kernel)
theorem dFi_best_37 : decode (mB mFi_best) 37 = .ok (.invokevirtual 35, 3) := op182 0 35 (by decide +kernel)
theorem dFi_best_40 : decode (mB mFi_best) 40 = .ok (.iinc 1 1, 3) := op132 1 1 (by decide +kernel)
theorem dFi_best_43 : decode (mB mFi_best) 43 = .ok (.goto (-33), 3) := op167 255 223 (by decide +kernel)
theorem dFi_best_46 : decode (mB mFi_best) 46 = .ok (.iconst (-1), 1) := op2 (by decide +kernel)
theorem dFi_best_47 : decode (mB mFi_best) 47 = .ok (.istore_n 1, 1) := op60 (by decide +kernel)
theorem dFi_best_48 : decode (mB mFi_best) 48 = .ok (.iconst 0, 1) := op3 (by decide +kernel)
theorem dFi_best_49 : decode (mB mFi_best) 49 = .ok (.istore_n 2, 1) := op61 (by decide +kernel)
theorem dFi_best_50 : decode (mB mFi_best) 50 = .ok (.iload_n 2, 1) := op28 (by decide +kernel)
theorem dFi_best_51 : decode (mB mFi_best) 51 = .ok (.aload_n 0, 1) := op42 (by decide +kernel)
theorem dFi_best_52 : decode (mB mFi_best) 52 = .ok (.getfield 9, 3) := op180 0 9 (by decide +kernel)
theorem dFi_best_55 : decode (mB mFi_best) 55 = .ok (.arraylength, 1) := op190 (by decide +kernel)
theorem dFi_best_56 : decode (mB mFi_best) 56 = .ok (.if_icmp .ge 47, 3) := op162 0 47 (by decide +kernel)
theorem dFi_best_59 : decode (mB mFi_best) 59 = .ok (.aload_n 0, 1) := op42 (by decide +kernel)
theorem dFi_best_60 : decode (mB mFi_best) 60 = .ok (.getfield 15, 3) := op180 0 15 (by decide +kernel)
theorem dFi_best_63 : decode (mB mFi_best) 63 = .ok (.getfield 38, 3) := op180 0 38 (by decide +kernel)
theorem dFi_best_66 : decode (mB mFi_best) 66 = .ok (.iload_n 2, 1) := op28 (by decide +kernel)
theorem dFi_best_67 : decode (mB mFi_best) 67 = .ok (.invokestatic 42, 3) := op184 0 42 (by decide +kernel)
theorem dFi_best_70 : decode (mB mFi_best) 70 = .ok (.invokevirtual 46, 3) := op182 0 46 (by decide +kernel)
theorem dFi_best_73 : decode (mB mFi_best) 73 = .ok (.ifCond .eq 24, 3) := op153 0 24 (by decide +kernel)
theorem dFi_best_76 : decode (mB mFi_best) 76 = .ok (.iload_n 1, 1) := op27 (by decide +kernel)
theorem dFi_best_77 : decode (mB mFi_best) 77 = .ok (.ifCond .lt 18, 3) := op155 0 18 (by decide +kernel)
theorem dFi_best_80 : decode (mB mFi_best) 80 = .ok (.aload_n 0, 1) := op42 (by decide +kernel)
theorem dFi_best_81 : decode (mB mFi_best) 81 = .ok (.getfield 9, 3) := op180 0 9 (by decide +kernel)
theorem dFi_best_84 : decode (mB mFi_best) 84 = .ok (.iload_n 2, 1) := op28 (by decide +kernel)
theorem dFi_best_85 : decode (mB mFi_best) 85 = .ok (.iaload, 1) := op46 (by decide +kernel)
theorem dFi_best_86 : decode (mB mFi_best) 86 = .ok (.aload_n 0, 1) := op42 (by decide +kernel)
theorem dFi_best_87 : decode (mB mFi_best) 87 = .ok (.getfield 9, 3) := op180 0 9 (by decide +kernel)
theorem dFi_best_90 : decode (mB mFi_best) 90 = .ok (.iload_n 1, 1) := op27 (by decide +kernel)
theorem dFi_best_91 : decode (mB mFi_best) 91 = .ok (.iaload, 1) := op46 (by decide +kernel)
theorem dFi_best_92 : decode (mB mFi_best) 92 = .ok (.if_icmp .le 5, 3) := op164 0 5 (by decide +kernel)
theorem dFi_best_95 : decode (mB mFi_best) 95 = .ok (.iload_n 2, 1) := op28 (by decide +kernel)
theorem dFi_best_96 : decode (mB mFi_best) 96 = .ok (.istore_n 1, 1) := op60 (by decide +kernel)
theorem dFi_best_97 : decode (mB mFi_best) 97 = .ok (.iinc 2 1, 3) := op132 2 1 (by decide +kernel)
theorem dFi_best_100 : decode (mB mFi_best) 100 = .ok (.goto (-50), 3) := op167 255 206 (by decide +kernel)
theorem dFi_best_103 : decode (mB mFi_best) 103 = .ok (.iload_n 1, 1) := op27 (by decide +kernel)
theorem dFi_best_104 : decode (mB mFi_best) 104 = .ok (.ireturn, 1) := op172 (by decide +kernel)

theorem vFi_best_0 {M : Mm} {b : Nat × Nat} {K : Int32 → Mm → Prop} {v0 : Nat} {r1 : Nat} (kv0 : v0 % 64 = 0) (e1 : gr M v0 1 = some r1)
    (h : CV mJr_fill [.ref r1, .int 0] M (fun N => X mFi_best 8 [(0, .ref v0)] [] N b (QI K))) : X mFi_best 0 [(0, .ref v0)] [] M b (QI K) := by
  refine x_wf (fun hw => ?_)
  refine x_aload_n (pc := 0) dFi_best_0 rfl (q := 0) rfl ?_
  refine x_getR (pc := 1) dFi_best_1 kv0 flFi_9 rfl e1 ?_
  refine x_iconst (pc := 4) dFi_best_4 (v := 0) rfl ?_
  exact x_invS (pc := 5) dFi_best_5 (S := []) (As := [.ref r1, .int 0]) mlFi_19 hJr_fill rfl ⟨by decide, by decide⟩ ⟨Nat.zero_le _, Nat.zero_le _⟩ rfl (Nat.le_of_ble_eq_true rfl) (aftV (b' := b) ⟨Nat.le_refl _, Nat.le_refl _⟩ (fun N h => h) h)

theorem vFi_best_8 {M : Mm} {b : Nat × Nat} {K : Int32 → Mm → Prop} {v0 : Nat}  
    (h : X mFi_best 10 [(0, .ref v0), (1, .int 0)] [] M b (QI K)) : X mFi_best 8 [(0, .ref v0)] [] M b (QI K) := by
  refine x_wf (fun hw => ?_)
  refine x_iconst (pc := 8) dFi_best_8 (v := 0) rfl ?_
  refine x_istore_n (pc := 9) dFi_best_9 rfl (by decide) (L' := [(1, .int 0), (0, .ref v0)]) rfl ?_
  exact x_loc [1, 0] rfl h

theorem vFi_best_10 {M : Mm} {b : Nat × Nat} {K : Int32 → Mm → Prop} {v0 : Nat} {v1 : Int32} {r1 : Nat} (kv0 : v0 % 64 = 0) (e1 : gr M v0 0 = some r1)
    (h : (64 ≤ v1 → (X mFi_best 50 [(0, .ref v0), (1, .int (-1)), (2, .int 0)] [] M b (QI K))) ∧ (¬ 64 ≤ v1 → (CV mWe_weigh [.ref r1, .int v1] M (fun N => X mFi_best 24 [(0, .ref v0), (1, .int v1)] [] N b (QI K))))) : X mFi_best 10 [(0, .ref v0), (1, .int v1)] [] M b (QI K) := by
  refine x_wf (fun hw => ?_)
  refine x_iload_n (pc := 10) dFi_best_10 rfl (q := 1) rfl ?_
  refine x_bipush (pc := 11) dFi_best_11 (v := 64) rfl ?_
  obtain ⟨g1_0, g1_1⟩ := h
  refine x_icmp_ge (pc := 13) dFi_best_13 (t := 46) rfl (fun q1 => ?_) (fun q1 => ?_)
  · refine x_iconst (pc := 46) dFi_best_46 (v := (-1)) rfl ?_
    have h := g1_0 q1
    refine x_istore_n (pc := 47) dFi_best_47 rfl (by decide) (L' := [(1, .int (-1)), (0, .ref v0)]) rfl ?_
    refine x_iconst (pc := 48) dFi_best_48 (v := 0) rfl ?_
    refine x_istore_n (pc := 49) dFi_best_49 rfl (by decide) (L' := [(2, .int 0), (1, .int (-1)), (0, .ref v0)]) rfl ?_
    exact x_loc [2, 1, 0] rfl h
  · refine x_aload_n (pc := 16) dFi_best_16 rfl (q := 0) rfl ?_
    refine x_getR (pc := 17) dFi_best_17 kv0 flFi_15 rfl e1 ?_
    refine x_iload_n (pc := 20) dFi_best_20 rfl (q := 1) rfl ?_
    have h := g1_1 q1
    exact x_invV (pc := 21) dFi_best_21 (c := 8) (S := []) (As := [.int v1]) mlFi_25 hWe_weigh rfl (by decide) rfl (wfk hw e1 kv0) ⟨by decide, by decide⟩ ⟨Nat.zero_le _, Nat.zero_le _⟩ rfl (Nat.le_of_ble_eq_true rfl) (aftV (b' := b) ⟨Nat.le_refl _, Nat.le_refl _⟩ (fun N h => h) h)

theorem vFi_best_24 {M : Mm} {b : Nat × Nat} {K : Int32 → Mm → Prop} {v0 : Nat} {v1 : Int32} {r1 : Nat} (kv0 : v0 % 64 = 0) (e1 : gr M v0 0 = some r1)
    (h : (¬ (gi M r1 5) = (-4) → (X mFi_best 10 [(0, .ref v0), (1, .int (v1 + 1))] [] M b (QI K))) ∧ ((gi M r1 5) = (-4) → (CV mFi_tallyDoctors [.ref v0] M (fun N => X mFi_best 40 [(0, .ref v0), (1, .int v1)] [] N b (QI K))))) : X mFi_best 24 [(0, .ref v0), (1, .int v1)] [] M b (QI K) := by
  refine x_wf (fun hw => ?_)
  refine x_aload_n (pc := 24) dFi_best_24 rfl (q := 0) rfl ?_
  refine x_getR (pc := 25) dFi_best_25 kv0 flFi_15 rfl e1 ?_
  refine x_getI (pc := 28) dFi_best_28 (wfk hw e1 kv0) flFi_31 rfl ?_
  refine x_bipush (pc := 31) dFi_best_31 (v := (-4)) rfl ?_
  obtain ⟨g1_0, g1_1⟩ := h
  refine x_icmp_ne (pc := 33) dFi_best_33 (t := 40) rfl (fun q1 => ?_) (fun q1 => ?_)
  · have h := g1_0 q1
    refine x_iinc (pc := 40) dFi_best_40 (q := 1) rfl (v := v1 + 1) rfl (by decide) (L' := [(1, .int (v1 + 1)), (0, .ref v0)]) rfl ?_
    refine x_goto (pc := 43) dFi_best_43 (t := 10) rfl ?_
    exact x_loc [1, 0] rfl h
  · refine x_aload_n (pc := 36) dFi_best_36 rfl (q := 0) rfl ?_
    have h := g1_1 q1
    exact x_invV (pc := 37) dFi_best_37 (c := 0) (S := []) (As := []) mlFi_35 hFi_tallyDoctors rfl (by decide) rfl kv0 ⟨by decide, by decide⟩ ⟨Nat.zero_le _, Nat.zero_le _⟩ rfl (Nat.le_of_ble_eq_true rfl) (aftV (b' := b) ⟨Nat.le_refl _, Nat.le_refl _⟩ (fun N h => h) h)

theorem vFi_best_40 {M : Mm} {b : Nat × Nat} {K : Int32 → Mm → Prop} {v0 : Nat} {v1 : Int32}  
    (h : X mFi_best 10 [(0, .ref v0), (1, .int (v1 + 1))] [] M b (QI K)) : X mFi_best 40 [(0, .ref v0), (1, .int v1)] [] M b (QI K) := by
  refine x_wf (fun hw => ?_)
  refine x_iinc (pc := 40) dFi_best_40 (q := 1) rfl (v := v1 + 1) rfl (by decide) (L' := [(1, .int (v1 + 1)), (0, .ref v0)]) rfl ?_
  refine x_goto (pc := 43) dFi_best_43 (t := 10) rfl ?_
  exact x_loc [1, 0] rfl h

theorem vFi_best_50 {M : Mm} {b : Nat × Nat} {K : Int32 → Mm → Prop} {v0 : Nat} {v1 : Int32} {v2 : Int32} {r1 : Nat} {r2 : Nat} {r3 : Nat} (kv0 : v0 % 64 = 0) (e1 : gr M v0 1 = some r1) (e2 : gr M v0 0 = some r2) (e3 : gr M r2 1 = some r3)
    (h : (1024 ≤ v2 → (K v1 M)) ∧ (¬ 1024 ≤ v2 → (CI mFi_doctorAt [.int v2] M (fun rv N => X mFi_best 70 [(0, .ref v0), (1, .int v1), (2, .int v2)] [.int rv, .ref r3] N b (QI K))))) : X mFi_best 50 [(0, .ref v0), (1, .int v1), (2, .int v2)] [] M b (QI K) := by
  refine x_wf (fun hw => ?_)
  refine x_iload_n (pc := 50) dFi_best_50 rfl (q := 2) rfl ?_
  refine x_aload_n (pc := 51) dFi_best_51 rfl (q := 0) rfl ?_
  refine x_getR (pc := 52) dFi_best_52 kv0 flFi_9 rfl e1 ?_
  refine x_alen (pc := 55) dFi_best_55 (wfk hw e1 kv0) ak_16 (v := 1024) rfl ?_
  obtain ⟨g1_0, g1_1⟩ := h
  refine x_icmp_ge (pc := 56) dFi_best_56 (t := 103) rfl (fun q1 => ?_) (fun q1 => ?_)
  · refine x_iload_n (pc := 103) dFi_best_103 rfl (q := 1) rfl ?_
    have h := g1_0 q1
    exact x_retQI (pc := 104) dFi_best_104 rfl rfl h
  · refine x_aload_n (pc := 59) dFi_best_59 rfl (q := 0) rfl ?_
    refine x_getR (pc := 60) dFi_best_60 kv0 flFi_15 rfl e2 ?_
    refine x_getR (pc := 63) dFi_best_63 (wfk hw e2 kv0) flFi_38 rfl e3 ?_
    refine x_iload_n (pc := 66) dFi_best_66 rfl (q := 2) rfl ?_
    have h := g1_1 q1
    exact x_invS (pc := 67) dFi_best_67 (S := [.ref r3]) (As := [.int v2]) mlFi_42 hFi_doctorAt rfl ⟨by decide, by decide⟩ ⟨Nat.zero_le _, Nat.zero_le _⟩ rfl (Nat.le_of_ble_eq_true rfl) (aftI (b' := b) ⟨Nat.le_refl _, Nat.le_refl _⟩ (fun rv N h => h) h)

theorem vFi_best_70 {M : Mm} {b : Nat × Nat} {K : Int32 → Mm → Prop} {v0 : Nat} {v1 : Int32} {v2 : Int32} {w0 : Int32} {w1 : Nat} (kw1 : w1 % 64 = 3) 
    (h : CI mRu_isMain [.ref w1, .int w0] M (fun rv N => X mFi_best 73 [(0, .ref v0), (1, .int v1), (2, .int v2)] [.int rv] N b (QI K))) : X mFi_best 70 [(0, .ref v0), (1, .int v1), (2, .int v2)] [.int w0, .ref w1] M b (QI K) := by
  refine x_wf (fun hw => ?_)
  exact x_invV (pc := 70) dFi_best_70 (c := 3) (S := []) (As := [.int w0]) mlFi_46 hRu_isMain rfl (by decide) rfl kw1 ⟨by decide, by decide⟩ ⟨Nat.zero_le _, Nat.zero_le _⟩ rfl (Nat.le_of_ble_eq_true rfl) (aftI (b' := b) ⟨Nat.le_refl _, Nat.le_refl _⟩ (fun rv N h => h) h)

theorem vFi_best_73 {M : Mm} {b : Nat × Nat} {K : Int32 → Mm → Prop} {v0 : Nat} {v1 : Int32} {v2 : Int32} {w0 : Int32} {r1 : Nat} (kv0 : v0 % 64 = 0) (e1 : gr M v0 1 = some r1)
    (h : (¬ w0 = 0 ∧ ¬ v1 < 0 → vp_in v2 1024) ∧ (¬ w0 = 0 ∧ ¬ v1 < 0 → vp_in v1 1024) ∧ (((w0 = 0) ∨ (¬ w0 = 0 ∧ ¬ v1 < 0 ∧ (gi M r1 (v2).toNatClampNeg) ≤ (gi M r1 (v1).toNatClampNeg))) → (X mFi_best 50 [(0, .ref v0), (1, .int v1), (2, .int (v2 + 1))] [] M b (QI K))) ∧ (((¬ w0 = 0 ∧ v1 < 0) ∨ (¬ w0 = 0 ∧ ¬ v1 < 0 ∧ ¬ (gi M r1 (v2).toNatClampNeg) ≤ (gi M r1 (v1).toNatClampNeg))) → (X mFi_best 50 [(0, .ref v0), (1, .int v2), (2, .int (v2 + 1))] [] M b (QI K)))) : X mFi_best 73 [(0, .ref v0), (1, .int v1), (2, .int v2)] [.int w0] M b (QI K) := by
  refine x_wf (fun hw => ?_)
  obtain ⟨s1, s2, g1_0, g1_1⟩ := h
  have g1_k0 : (w0 = 0) ∨ (¬ w0 = 0 ∧ ¬ v1 < 0 ∧ (gi M r1 (v2).toNatClampNeg) ≤ (gi M r1 (v1).toNatClampNeg)) → X mFi_best 97 [(0, .ref v0), (1, .int v1), (2, .int v2)] [] M b (QI K) := fun q => by
    have h := g1_0 q
    refine x_iinc (pc := 97) dFi_best_97 (q := 2) rfl (v := v2 + 1) rfl (by decide) (L' := [(2, .int (v2 + 1)), (0, .ref v0), (1, .int v1)]) rfl ?_
    refine x_goto (pc := 100) dFi_best_100 (t := 50) rfl ?_
    exact x_loc [1, 2, 0] rfl h
  have g1_k1 : (¬ w0 = 0 ∧ v1 < 0) ∨ (¬ w0 = 0 ∧ ¬ v1 < 0 ∧ ¬ (gi M r1 (v2).toNatClampNeg) ≤ (gi M r1 (v1).toNatClampNeg)) → X mFi_best 95 [(0, .ref v0), (1, .int v1), (2, .int v2)] [] M b (QI K) := fun q => by
    have h := g1_1 q
    refine x_iload_n (pc := 95) dFi_best_95 rfl (q := 2) rfl ?_
    refine x_istore_n (pc := 96) dFi_best_96 rfl (by decide) (L' := [(1, .int v2), (0, .ref v0), (2, .int v2)]) rfl ?_
    refine x_iinc (pc := 97) dFi_best_97 (q := 2) rfl (v := v2 + 1) rfl (by decide) (L' := [(2, .int (v2 + 1)), (1, .int v2), (0, .ref v0)]) rfl ?_
    refine x_goto (pc := 100) dFi_best_100 (t := 50) rfl ?_
    exact x_loc [2, 1, 0] rfl h
  refine x_if_eq (pc := 73) dFi_best_73 (t := 97) rfl (fun q1 => ?_) (fun q1 => ?_)
  · exact g1_k0 (Or.inl q1)
  · refine x_iload_n (pc := 76) dFi_best_76 rfl (q := 1) rfl ?_
    refine x_if_lt (pc := 77) dFi_best_77 (t := 95) rfl (fun q2 => ?_) (fun q2 => ?_)
    · exact g1_k1 (Or.inl ⟨q1, q2⟩)
    · refine x_aload_n (pc := 80) dFi_best_80 rfl (q := 0) rfl ?_
      refine x_getR (pc := 81) dFi_best_81 kv0 flFi_9 rfl e1 ?_
      refine x_iload_n (pc := 84) dFi_best_84 rfl (q := 2) rfl ?_
      refine x_aldIj (pc := 85) (j := (v2).toNatClampNeg) (Or.inl ⟨rfl, rfl⟩) dFi_best_85 (wfk hw e1 kv0) ak_16 rfl (s1 ⟨q1, q2⟩) ?_
      refine x_aload_n (pc := 86) dFi_best_86 rfl (q := 0) rfl ?_
      refine x_getR (pc := 87) dFi_best_87 kv0 flFi_9 rfl e1 ?_
      refine x_iload_n (pc := 90) dFi_best_90 rfl (q := 1) rfl ?_
      refine x_aldIj (pc := 91) (j := (v1).toNatClampNeg) (Or.inl ⟨rfl, rfl⟩) dFi_best_91 (wfk hw e1 kv0) ak_16 rfl (s2 ⟨q1, q2⟩) ?_
      refine x_icmp_le (pc := 92) dFi_best_92 (t := 97) rfl (fun q3 => ?_) (fun q3 => ?_)
      · exact g1_k0 (Or.inr ⟨q1, q2, q3⟩)
      · exact g1_k1 (Or.inr ⟨q1, q2, q3⟩)

theorem dFi_tallyDoctors_0 : decode (mB mFi_tallyDoctors) 0 = .ok (.iconst 0, 1) := op3 (by decide +kernel)
theorem dFi_tallyDoctors_1 : decode (mB mFi_tallyDoctors) 1 = .ok (.istore_n 1, 1) := op60 (by decide +kernel)
theorem dFi_tallyDoctors_2 : decode (mB mFi_tallyDoctors) 2 = .ok (.iload_n 1, 1) := op27 (by decide +kernel)
theorem dFi_tallyDoctors_3 : decode (mB mFi_tallyDoctors) 3 = .ok (.bipush 8, 2) := op16 8 (by decide +kernel)
theorem dFi_tallyDoctors_5 : decode (mB mFi_tallyDoctors) 5 = .ok (.if_icmp .ge 35, 3) := op162 0 35 (by decide +kernel)
theorem dFi_tallyDoctors_8 : decode (mB mFi_tallyDoctors) 8 = .ok (.aload_n 0, 1) := op42 (by decide +kernel)
theorem dFi_tallyDoctors_9 : decode (mB mFi_tallyDoctors) 9 = .ok (.getfield 15, 3) := op180 0 15 (by decide +kernel)
theorem dFi_tallyDoctors_12 : decode (mB mFi_tallyDoctors) 12 = .ok (.getfield 38, 3) := op180 0 38 (by decide +kernel)
theorem dFi_tallyDoctors_15 : decode (mB mFi_tallyDoctors) 15 = .ok (.iload_n 1, 1) := op27 (by decide +kernel)
theorem dFi_tallyDoctors_16 : decode (mB mFi_tallyDoctors) 16 = .ok (.invokevirtual 46, 3) := op182 0 46 (by decide +kernel)
theorem dFi_tallyDoctors_19 : decode (mB mFi_tallyDoctors) 19 = .ok (.ifCond .eq 15, 3) := op153 0 15 (by decide +kernel)
theorem dFi_tallyDoctors_22 : decode (mB mFi_tallyDoctors) 22 = .ok (.aload_n 0, 1) := op42 (by decide +kernel)
theorem dFi_tallyDoctors_23 : decode (mB mFi_tallyDoctors) 23 = .ok (.iload_n 1, 1) := op27 (by decide +kernel)
theorem dFi_tallyDoctors_24 : decode (mB mFi_tallyDoctors) 24 = .ok (.iconst 0, 1) := op3 (by decide +kernel)
theorem dFi_tallyDoctors_25 : decode (mB mFi_tallyDoctors) 25 = .ok (.invokevirtual 52, 3) := op182 0 52 (by decide +kernel)
theorem dFi_tallyDoctors_28 : decode (mB mFi_tallyDoctors) 28 = .ok (.aload_n 0, 1) := op42 (by decide +kernel)
theorem dFi_tallyDoctors_29 : decode (mB mFi_tallyDoctors) 29 = .ok (.iload_n 1, 1) := op27 (by decide +kernel)
theorem dFi_tallyDoctors_30 : decode (mB mFi_tallyDoctors) 30 = .ok (.iconst 1, 1) := op4 (by decide +kernel)
theorem dFi_tallyDoctors_31 : decode (mB mFi_tallyDoctors) 31 = .ok (.invokevirtual 52, 3) := op182 0 52 (by decide +kernel)
theorem dFi_tallyDoctors_34 : decode (mB mFi_tallyDoctors) 34 = .ok (.iinc 1 1, 3) := op132 1 1 (by decide +kernel)
theorem dFi_tallyDoctors_37 : decode (mB mFi_tallyDoctors) 37 = .ok (.goto (-35), 3) := op167 255 221 (by decide +kernel)
theorem dFi_tallyDoctors_40 : decode (mB mFi_tallyDoctors) 40 = .ok (.return_, 1) := op177 (by decide +kernel)

theorem vFi_tallyDoctors_0 {M : Mm} {b : Nat × Nat} {K : Mm → Prop} {v0 : Nat}  
    (h : X mFi_tallyDoctors 2 [(0, .ref v0), (1, .int 0)] [] M b (QV K)) : X mFi_tallyDoctors 0 [(0, .ref v0)] [] M b (QV K) := by
  refine x_wf (fun hw => ?_)
  refine x_iconst (pc := 0) dFi_tallyDoctors_0 (v := 0) rfl ?_
  refine x_istore_n (pc := 1) dFi_tallyDoctors_1 rfl (by decide) (L' := [(1, .int 0), (0, .ref v0)]) rfl ?_
  exact x_loc [1, 0] rfl h

theorem vFi_tallyDoctors_2 {M : Mm} {b : Nat × Nat} {K : Mm → Prop} {v0 : Nat} {v1 : Int32} {r1 : Nat} {r2 : Nat} (kv0 : v0 % 64 = 0) (e1 : gr M v0 0 = some r1) (e2 : gr M r1 1 = some r2)
    (h : (8 ≤ v1 → (K M)) ∧ (¬ 8 ≤ v1 → (CI mRu_isMain [.ref r2, .int v1] M (fun rv N => X mFi_tallyDoctors 19 [(0, .ref v0), (1, .int v1)] [.int rv] N b (QV K))))) : X mFi_tallyDoctors 2 [(0, .ref v0), (1, .int v1)] [] M b (QV K) := by
  refine x_wf (fun hw => ?_)
  refine x_iload_n (pc := 2) dFi_tallyDoctors_2 rfl (q := 1) rfl ?_
  refine x_bipush (pc := 3) dFi_tallyDoctors_3 (v := 8) rfl ?_
  obtain ⟨g1_0, g1_1⟩ := h
  refine x_icmp_ge (pc := 5) dFi_tallyDoctors_5 (t := 40) rfl (fun q1 => ?_) (fun q1 => ?_)
  · have h := g1_0 q1
    exact x_retQV (pc := 40) dFi_tallyDoctors_40 rfl h
  · refine x_aload_n (pc := 8) dFi_tallyDoctors_8 rfl (q := 0) rfl ?_
    refine x_getR (pc := 9) dFi_tallyDoctors_9 kv0 flFi_15 rfl e1 ?_
    refine x_getR (pc := 12) dFi_tallyDoctors_12 (wfk hw e1 kv0) flFi_38 rfl e2 ?_
    refine x_iload_n (pc := 15) dFi_tallyDoctors_15 rfl (q := 1) rfl ?_
    have h := g1_1 q1
    exact x_invV (pc := 16) dFi_tallyDoctors_16 (c := 3) (S := []) (As := [.int v1]) mlFi_46 hRu_isMain rfl (by decide) rfl (wfk hw e2 (wfk hw e1 kv0)) ⟨by decide, by decide⟩ ⟨Nat.zero_le _, Nat.zero_le _⟩ rfl (Nat.le_of_ble_eq_true rfl) (aftI (b' := b) ⟨Nat.le_refl _, Nat.le_refl _⟩ (fun rv N h => h) h)

theorem vFi_tallyDoctors_19 {M : Mm} {b : Nat × Nat} {K : Mm → Prop} {v0 : Nat} {v1 : Int32} {w0 : Int32} (kv0 : v0 % 64 = 0) 
    (h : (w0 = 0 → (X mFi_tallyDoctors 2 [(0, .ref v0), (1, .int (v1 + 1))] [] M b (QV K))) ∧ (¬ w0 = 0 → (CV mFi_tally [.ref v0, .int v1, .int 0] M (fun N => X mFi_tallyDoctors 28 [(0, .ref v0), (1, .int v1)] [] N b (QV K))))) : X mFi_tallyDoctors 19 [(0, .ref v0), (1, .int v1)] [.int w0] M b (QV K) := by
  refine x_wf (fun hw => ?_)
  obtain ⟨g1_0, g1_1⟩ := h
  refine x_if_eq (pc := 19) dFi_tallyDoctors_19 (t := 34) rfl (fun q1 => ?_) (fun q1 => ?_)
  · have h := g1_0 q1
    refine x_iinc (pc := 34) dFi_tallyDoctors_34 (q := 1) rfl (v := v1 + 1) rfl (by decide) (L' := [(1, .int (v1 + 1)), (0, .ref v0)]) rfl ?_
    refine x_goto (pc := 37) dFi_tallyDoctors_37 (t := 2) rfl ?_
    exact x_loc [1, 0] rfl h
  · refine x_aload_n (pc := 22) dFi_tallyDoctors_22 rfl (q := 0) rfl ?_
    refine x_iload_n (pc := 23) dFi_tallyDoctors_23 rfl (q := 1) rfl ?_
    refine x_iconst (pc := 24) dFi_tallyDoctors_24 (v := 0) rfl ?_
    have h := g1_1 q1
    exact x_invV (pc := 25) dFi_tallyDoctors_25 (c := 0) (S := []) (As := [.int v1, .int 0]) mlFi_52 hFi_tally rfl (by decide) rfl kv0 ⟨by decide, by decide⟩ ⟨Nat.zero_le _, Nat.zero_le _⟩ rfl (Nat.le_of_ble_eq_true rfl) (aftV (b' := b) ⟨Nat.le_refl _, Nat.le_refl _⟩ (fun N h => h) h)

theorem vFi_tallyDoctors_28 {M : Mm} {b : Nat × Nat} {K : Mm → Prop} {v0 : Nat} {v1 : Int32} (kv0 : v0 % 64 = 0) 
    (h : CV mFi_tally [.ref v0, .int v1, .int 1] M (fun N => X mFi_tallyDoctors 34 [(0, .ref v0), (1, .int v1)] [] N b (QV K))) : X mFi_tallyDoctors 28 [(0, .ref v0), (1, .int v1)] [] M b (QV K) := by
  refine x_wf (fun hw => ?_)
  refine x_aload_n (pc := 28) dFi_tallyDoctors_28 rfl (q := 0) rfl ?_
  refine x_iload_n (pc := 29) dFi_tallyDoctors_29 rfl (q := 1) rfl ?_
  refine x_iconst (pc := 30) dFi_tallyDoctors_30 (v := 1) rfl ?_
  exact x_invV (pc := 31) dFi_tallyDoctors_31 (c := 0) (S := []) (As := [.int v1, .int 1]) mlFi_52 hFi_tally rfl (by decide) rfl kv0 ⟨by decide, by decide⟩ ⟨Nat.zero_le _, Nat.zero_le _⟩ rfl (Nat.le_of_ble_eq_true rfl) (aftV (b' := b) ⟨Nat.le_refl _, Nat.le_refl _⟩ (fun N h => h) h)

theorem vFi_tallyDoctors_34 {M : Mm} {b : Nat × Nat} {K : Mm → Prop} {v0 : Nat} {v1 : Int32}  
    (h : X mFi_tallyDoctors 2 [(0, .ref v0), (1, .int (v1 + 1))] [] M b (QV K)) : X mFi_tallyDoctors 34 [(0, .ref v0), (1, .int v1)] [] M b (QV K) := by
  refine x_wf (fun hw => ?_)
  refine x_iinc (pc := 34) dFi_tallyDoctors_34 (q := 1) rfl (v := v1 + 1) rfl (by decide) (L' := [(1, .int (v1 + 1)), (0, .ref v0)]) rfl ?_
  refine x_goto (pc := 37) dFi_tallyDoctors_37 (t := 2) rfl ?_
  exact x_loc [1, 0] rfl h

theorem dFi_tally_0 : decode (mB mFi_tally) 0 = .ok (.aload_n 0, 1) := op42 (by decide +kernel)
theorem dFi_tally_1 : decode (mB mFi_tally) 1 = .ok (.getfield 15, 3) := op180 0 15 (by decide +kernel)
theorem dFi_tally_4 : decode (mB mFi_tally) 4 = .ok (.getfield 56, 3) := op180 0 56 (by decide +kernel)
theorem dFi_tally_7 : decode (mB mFi_tally) 7 = .ok (.istore_n 3, 1) := op62 (by decide +kernel)
theorem dFi_tally_8 : decode (mB mFi_tally) 8 = .ok (.iconst 0, 1) := op3 (by decide +kernel)
theorem dFi_tally_9 : decode (mB mFi_tally) 9 = .ok (.istore 4, 2) := op54 4 (by decide +kernel)
theorem dFi_tally_11 : decode (mB mFi_tally) 11 = .ok (.iconst 0, 1) := op3 (by decide +kernel)
theorem dFi_tally_12 : decode (mB mFi_tally) 12 = .ok (.istore 5, 2) := op54 5 (by decide +kernel)
theorem dFi_tally_14 : decode (mB mFi_tally) 14 = .ok (.iload 5, 2) := op21 5 (by decide +kernel)
theorem dFi_tally_16 : decode (mB mFi_tally) 16 = .ok (.bipush 6, 2) := op16 6 (by decide +kernel)
theorem dFi_tally_18 : decode (mB mFi_tally) 18 = .ok (.if_icmp .gt 36, 3) := op163 0 36 (by decide +kernel)
theorem dFi_tally_21 : decode (mB mFi_tally) 21 = .ok (.iload 4, 2) := op21 4 (by decide +kernel)
theorem dFi_tally_23 : decode (mB mFi_tally) 23 = .ok (.aload_n 0, 1) := op42 (by decide +kernel)
theorem dFi_tally_24 : decode (mB mFi_tally) 24 = .ok (.getfield 15, 3) := op180 0 15 (by decide +kernel)
theorem dFi_tally_27 : decode (mB mFi_tally) 27 = .ok (.iload_n 1, 1) := op27 (by decide +kernel)
theorem dFi_tally_28 : decode (mB mFi_tally) 28 = .ok (.iload_n 2, 1) := op28 (by decide +kernel)
theorem dFi_tally_29 : decode (mB mFi_tally) 29 = .ok (.iload 5, 2) := op21 5 (by decide +kernel)
theorem dFi_tally_31 : decode (mB mFi_tally) 31 = .ok (.invokevirtual 59, 3) := op182 0 59 (by decide +kernel)
theorem dFi_tally_34 : decode (mB mFi_tally) 34 = .ok (.ifCond .eq 10, 3) := op153 0 10 (by decide +kernel)
theorem dFi_tally_37 : decode (mB mFi_tally) 37 = .ok (.iconst 1, 1) := op4 (by decide +kernel)
theorem dFi_tally_38 : decode (mB mFi_tally) 38 = .ok (.iload 5, 2) := op21 5 (by decide +kernel)
theorem dFi_tally_40 : decode (mB mFi_tally) 40 = .ok (.ishl, 1) := op120 (by decide +kernel)
theorem dFi_tally_41 : decode (mB mFi_tally) 41 = .ok (.goto 4, 3) := op167 0 4 (by decide +kernel)
theorem dFi_tally_44 : decode (mB mFi_tally) 44 = .ok (.iconst 0, 1) := op3 (by decide +kernel)
theorem dFi_tally_45 : decode (mB mFi_tally) 45 = .ok (.ior, 1) := op128 (by decide +kernel)
theorem dFi_tally_46 : decode (mB mFi_tally) 46 = .ok (.istore 4, 2) := op54 4 (by decide +kernel)
theorem dFi_tally_48 : decode (mB mFi_tally) 48 = .ok (.iinc 5 1, 3) := op132 5 1 (by decide +kernel)
theorem dFi_tally_51 : decode (mB mFi_tally) 51 = .ok (.goto (-37), 3) := op167 255 219 (by decide +kernel)
theorem dFi_tally_54 : decode (mB mFi_tally) 54 = .ok (.iconst 0, 1) := op3 (by decide +kernel)
theorem dFi_tally_55 : decode (mB mFi_tally) 55 = .ok (.istore 5, 2) := op54 5 (by decide +kernel)
theorem dFi_tally_57 : decode (mB mFi_tally) 57 = .ok (.iload 5, 2) := op21 5 (by decide +kernel)
theorem dFi_tally_59 : decode (mB mFi_tally) 59 = .ok (.iload_n 3, 1) := op29 (by decide +kernel)
theorem dFi_tally_60 : decode (mB mFi_tally) 60 = .ok (.if_icmp .gt 56, 3) := op163 0 56 (by decide +kernel)
theorem dFi_tally_63 : decode (mB mFi_tally) 63 = .ok (.iload 4, 2) := op21 4 (by decide +kernel)
theorem dFi_tally_65 : decode (mB mFi_tally) 65 = .ok (.ifCond .eq 51, 3) := op153 0 51 (by decide +kernel)
theorem dFi_tally_68 : decode (mB mFi_tally) 68 = .ok (.iload 5, 2) := op21 5 (by decide +kernel)
theorem dFi_tally_70 : decode (mB mFi_tally) 70 = .ok (.iload_n 3, 1) := op29 (by decide +kernel)
theorem dFi_tally_71 : decode (mB mFi_tally) 71 = .ok (.iconst (-1), 1) := op2 (by decide +kernel)
theorem dFi_tally_72 : decode (mB mFi_tally) 72 = .ok (.ixor, 1) := op130 (by decide +kernel)
theorem dFi_tally_73 : decode (mB mFi_tally) 73 = .ok (.iand, 1) := op126 (by decide +kernel)
theorem dFi_tally_74 : decode (mB mFi_tally) 74 = .ok (.ifCond .ne 36, 3) := op154 0 36 (by decide +kernel)
theorem dFi_tally_77 : decode (mB mFi_tally) 77 = .ok (.iload 4, 2) := op21 4 (by decide +kernel)
theorem dFi_tally_79 : decode (mB mFi_tally) 79 = .ok (.iload 5, 2) := op21 5 (by decide +kernel)
theorem dFi_tally_81 : decode (mB mFi_tally) 81 = .ok (.invokestatic 63, 3) := op184 0 63 (by decide +kernel)
theorem dFi_tally_84 : decode (mB mFi_tally) 84 = .ok (.invokestatic 68, 3) := op184 0 68 (by decide +kernel)
theorem dFi_tally_87 : decode (mB mFi_tally) 87 = .ok (.ifCond .eq 23, 3) := op153 0 23 (by decide +kernel)
theorem dFi_tally_90 : decode (mB mFi_tally) 90 = .ok (.aload_n 0, 1) := op42 (by decide +kernel)
theorem dFi_tally_91 : decode (mB mFi_tally) 91 = .ok (.getfield 9, 3) := op180 0 9 (by decide +kernel)
theorem dFi_tally_94 : decode (mB mFi_tally) 94 = .ok (.iload_n 1, 1) := op27 (by decide +kernel)
theorem dFi_tally_95 : decode (mB mFi_tally) 95 = .ok (.iconst 2, 1) := op5 (by decide +kernel)
theorem dFi_tally_96 : decode (mB mFi_tally) 96 = .ok (.imul, 1) := op104 (by decide +kernel)
theorem dFi_tally_97 : decode (mB mFi_tally) 97 = .ok (.iload_n 2, 1) := op28 (by decide +kernel)
theorem dFi_tally_98 : decode (mB mFi_tally) 98 = .ok (.iadd, 1) := op96 (by decide +kernel)
theorem dFi_tally_99 : decode (mB mFi_tally) 99 = .ok (.bipush 64, 2) := op16 64 (by decide +kernel)
theorem dFi_tally_101 : decode (mB mFi_tally) 101 = .ok (.imul, 1) := op104 (by decide +kernel)
theorem dFi_tally_102 : decode (mB mFi_tally) 102 = .ok (.iload 5, 2) := op21 5 (by decide +kernel)
theorem dFi_tally_104 : decode (mB mFi_tally) 104 = .ok (.iadd, 1) := op96 (by decide +kernel)
theorem dFi_tally_105 : decode (mB mFi_tally) 105 = .ok (.dup2, 1) := op92 (by decide +kernel)
theorem dFi_tally_106 : decode (mB mFi_tally) 106 = .ok (.iaload, 1) := op46 (by decide +kernel)
theorem dFi_tally_107 : decode (mB mFi_tally) 107 = .ok (.iconst 1, 1) := op4 (by decide +kernel)
theorem dFi_tally_108 : decode (mB mFi_tally) 108 = .ok (.iadd, 1) := op96 (by decide +kernel)
theorem dFi_tally_109 : decode (mB mFi_tally) 109 = .ok (.iastore, 1) := op79 (by decide +kernel)
theorem dFi_tally_110 : decode (mB mFi_tally) 110 = .ok (.iinc 5 1, 3) := op132 5 1 (by decide +kernel)
theorem dFi_tally_113 : decode (mB mFi_tally) 113 = .ok (.goto (-56), 3) := op167 255 200 (by decide +kernel)
theorem dFi_tally_116 : decode (mB mFi_tally) 116 = .ok (.return_, 1) := op177 (by decide +kernel)

theorem vFi_tally_0 {M : Mm} {b : Nat × Nat} {K : Mm → Prop} {v0 : Nat} {v1 : Int32} {v2 : Int32} {r1 : Nat} (kv0 : v0 % 64 = 0) (e1 : gr M v0 0 = some r1)
    (h : X mFi_tally 14 [(0, .ref v0), (1, .int v1), (2, .int v2), (3, .int (gi M r1 4)), (4, .int 0), (5, .int 0)] [] M b (QV K)) : X mFi_tally 0 [(0, .ref v0), (1, .int v1), (2, .int v2)] [] M b (QV K) := by
  refine x_wf (fun hw => ?_)
  refine x_aload_n (pc := 0) dFi_tally_0 rfl (q := 0) rfl ?_
  refine x_getR (pc := 1) dFi_tally_1 kv0 flFi_15 rfl e1 ?_
  refine x_getI (pc := 4) dFi_tally_4 (wfk hw e1 kv0) flFi_56 rfl ?_
  refine x_istore_n (pc := 7) dFi_tally_7 rfl (by decide) (L' := [(3, .int (gi M r1 4)), (0, .ref v0), (1, .int v1), (2, .int v2)]) rfl ?_
  refine x_iconst (pc := 8) dFi_tally_8 (v := 0) rfl ?_
  refine x_istore (pc := 9) dFi_tally_9 (by decide) (L' := [(4, .int 0), (3, .int (gi M r1 4)), (0, .ref v0), (1, .int v1), (2, .int v2)]) rfl ?_
  refine x_iconst (pc := 11) dFi_tally_11 (v := 0) rfl ?_
  refine x_istore (pc := 12) dFi_tally_12 (by decide) (L' := [(5, .int 0), (4, .int 0), (3, .int (gi M r1 4)), (0, .ref v0), (1, .int v1), (2, .int v2)]) rfl ?_
  exact x_loc [3, 4, 5, 2, 1, 0] rfl h

theorem vFi_tally_14 {M : Mm} {b : Nat × Nat} {K : Mm → Prop} {v0 : Nat} {v1 : Int32} {v2 : Int32} {v3 : Int32} {v4 : Int32} {v5 : Int32} {r1 : Nat} (kv0 : v0 % 64 = 0) (e1 : gr M v0 0 = some r1)
    (h : (6 < v5 → (X mFi_tally 57 [(0, .ref v0), (1, .int v1), (2, .int v2), (3, .int v3), (4, .int v4), (5, .int 0)] [] M b (QV K))) ∧ (¬ 6 < v5 → (CI mWe_turnsBy [.ref r1, .int v1, .int v2, .int v5] M (fun rv N => X mFi_tally 34 [(0, .ref v0), (1, .int v1), (2, .int v2), (3, .int v3), (5, .int v5)] [.int rv, .int v4] N b (QV K))))) : X mFi_tally 14 [(0, .ref v0), (1, .int v1), (2, .int v2), (3, .int v3), (4, .int v4), (5, .int v5)] [] M b (QV K) := by
  refine x_wf (fun hw => ?_)
  refine x_iload (pc := 14) dFi_tally_14 (q := 5) rfl ?_
  refine x_bipush (pc := 16) dFi_tally_16 (v := 6) rfl ?_
  obtain ⟨g1_0, g1_1⟩ := h
  refine x_icmp_gt (pc := 18) dFi_tally_18 (t := 54) rfl (fun q1 => ?_) (fun q1 => ?_)
  · refine x_iconst (pc := 54) dFi_tally_54 (v := 0) rfl ?_
    have h := g1_0 q1
    refine x_istore (pc := 55) dFi_tally_55 (by decide) (L' := [(5, .int 0), (0, .ref v0), (1, .int v1), (2, .int v2), (3, .int v3), (4, .int v4)]) rfl ?_
    exact x_loc [1, 2, 3, 4, 5, 0] rfl h
  · refine x_iload (pc := 21) dFi_tally_21 (q := 4) rfl ?_
    refine x_aload_n (pc := 23) dFi_tally_23 rfl (q := 0) rfl ?_
    refine x_getR (pc := 24) dFi_tally_24 kv0 flFi_15 rfl e1 ?_
    refine x_iload_n (pc := 27) dFi_tally_27 rfl (q := 1) rfl ?_
    refine x_iload_n (pc := 28) dFi_tally_28 rfl (q := 2) rfl ?_
    refine x_iload (pc := 29) dFi_tally_29 (q := 5) rfl ?_
    have h := g1_1 q1
    exact x_invV (pc := 31) dFi_tally_31 (c := 8) (S := [.int v4]) (As := [.int v1, .int v2, .int v5]) mlFi_59 hWe_turnsBy rfl (by decide) rfl (wfk hw e1 kv0) ⟨by decide, by decide⟩ ⟨Nat.zero_le _, Nat.zero_le _⟩ rfl (Nat.le_of_ble_eq_true rfl) (aftI (b' := b) ⟨Nat.le_refl _, Nat.le_refl _⟩ (fun rv N h => x_loc [0, 1, 2, 3, 5] rfl h) h)

theorem vFi_tally_34 {M : Mm} {b : Nat × Nat} {K : Mm → Prop} {v0 : Nat} {v1 : Int32} {v2 : Int32} {v3 : Int32} {v5 : Int32} {w0 : Int32} {w1 : Int32}  
    (h : X mFi_tally 14 [(0, .ref v0), (1, .int v1), (2, .int v2), (3, .int v3), (4, .int (w1 ||| (if w0 = 0 then 0 else ((1 : Int32) <<< (v5 &&& 31)) : Int32))), (5, .int (v5 + 1))] [] M b (QV K)) : X mFi_tally 34 [(0, .ref v0), (1, .int v1), (2, .int v2), (3, .int v3), (5, .int v5)] [.int w0, .int w1] M b (QV K) := by
  refine x_wf (fun hw => ?_)
  suffices hJ : X mFi_tally 45 [(0, .ref v0), (1, .int v1), (2, .int v2), (3, .int v3), (5, .int v5)] [.int (if w0 = 0 then 0 else ((1 : Int32) <<< (v5 &&& 31)) : Int32), .int w1] M b (QV K) by
    refine x_if_eq (pc := 34) dFi_tally_34 (t := 44) rfl (fun q1 => ?_) (fun q1 => ?_)
    · refine x_iconst (pc := 44) dFi_tally_44 (v := 0) rfl ?_
      first | (rw [if_pos q1] at hJ; exact hJ) | (simp only [if_pos q1] at hJ ⊢; exact hJ)
    · refine x_iconst (pc := 37) dFi_tally_37 (v := 1) rfl ?_
      refine x_iload (pc := 38) dFi_tally_38 (q := 4) rfl ?_
      refine x_ishl (pc := 40) dFi_tally_40 ?_
      refine x_goto (pc := 41) dFi_tally_41 (t := 45) rfl ?_
      first | (rw [if_neg q1] at hJ; exact hJ) | (simp only [if_neg q1] at hJ ⊢; exact hJ)
  refine x_ior (pc := 45) dFi_tally_45 ?_
  refine x_istore (pc := 46) dFi_tally_46 (by decide) (L' := [(4, .int (w1 ||| (if w0 = 0 then 0 else ((1 : Int32) <<< (v5 &&& 31)) : Int32))), (0, .ref v0), (1, .int v1), (2, .int v2), (3, .int v3), (5, .int v5)]) rfl ?_
  refine x_iinc (pc := 48) dFi_tally_48 (q := 5) rfl (v := v5 + 1) rfl (by decide) (L' := [(5, .int (v5 + 1)), (4, .int (w1 ||| (if w0 = 0 then 0 else ((1 : Int32) <<< (v5 &&& 31)) : Int32))), (0, .ref v0), (1, .int v1), (2, .int v2), (3, .int v3)]) rfl ?_
  refine x_goto (pc := 51) dFi_tally_51 (t := 14) rfl ?_
  exact x_loc [2, 3, 4, 5, 1, 0] rfl h

theorem vFi_tally_57 {M : Mm} {b : Nat × Nat} {K : Mm → Prop} {v0 : Nat} {v1 : Int32} {v2 : Int32} {v3 : Int32} {v4 : Int32} {v5 : Int32}  
    (h : (((v3 < v5) ∨ (¬ v3 < v5 ∧ v4 = 0)) → (K M)) ∧ ((¬ v3 < v5 ∧ ¬ v4 = 0 ∧ ¬ (v5 &&& (v3 ^^^ (-1))) = 0) → (X mFi_tally 57 [(0, .ref v0), (1, .int v1), (2, .int v2), (3, .int v3), (4, .int v4), (5, .int (v5 + 1))] [] M b (QV K))) ∧ ((¬ v3 < v5 ∧ ¬ v4 = 0 ∧ (v5 &&& (v3 ^^^ (-1))) = 0) → (CI mJi_bitCount [.int v5] M (fun rv N => X mFi_tally 84 [(0, .ref v0), (1, .int v1), (2, .int v2), (3, .int v3), (4, .int v4), (5, .int v5)] [.int rv, .int v4] N b (QV K))))) : X mFi_tally 57 [(0, .ref v0), (1, .int v1), (2, .int v2), (3, .int v3), (4, .int v4), (5, .int v5)] [] M b (QV K) := by
  refine x_wf (fun hw => ?_)
  refine x_iload (pc := 57) dFi_tally_57 (q := 5) rfl ?_
  refine x_iload_n (pc := 59) dFi_tally_59 rfl (q := 3) rfl ?_
  obtain ⟨g1_0, g1_1, g1_2⟩ := h
  have g1_k0 : (v3 < v5) ∨ (¬ v3 < v5 ∧ v4 = 0) → X mFi_tally 116 [(0, .ref v0), (1, .int v1), (2, .int v2), (3, .int v3), (4, .int v4), (5, .int v5)] [] M b (QV K) := fun q => by
    have h := g1_0 q
    exact x_retQV (pc := 116) dFi_tally_116 rfl h
  refine x_icmp_gt (pc := 60) dFi_tally_60 (t := 116) rfl (fun q1 => ?_) (fun q1 => ?_)
  · exact g1_k0 (Or.inl q1)
  · refine x_iload (pc := 63) dFi_tally_63 (q := 4) rfl ?_
    refine x_if_eq (pc := 65) dFi_tally_65 (t := 116) rfl (fun q2 => ?_) (fun q2 => ?_)
    · exact g1_k0 (Or.inr ⟨q1, q2⟩)
    · refine x_iload (pc := 68) dFi_tally_68 (q := 5) rfl ?_
      refine x_iload_n (pc := 70) dFi_tally_70 rfl (q := 3) rfl ?_
      refine x_iconst (pc := 71) dFi_tally_71 (v := (-1)) rfl ?_
      refine x_ixor (pc := 72) dFi_tally_72 ?_
      refine x_iand (pc := 73) dFi_tally_73 ?_
      refine x_if_ne (pc := 74) dFi_tally_74 (t := 110) rfl (fun q3 => ?_) (fun q3 => ?_)
      · have h := g1_1 ⟨q1, q2, q3⟩
        refine x_iinc (pc := 110) dFi_tally_110 (q := 5) rfl (v := v5 + 1) rfl (by decide) (L' := [(5, .int (v5 + 1)), (0, .ref v0), (1, .int v1), (2, .int v2), (3, .int v3), (4, .int v4)]) rfl ?_
        refine x_goto (pc := 113) dFi_tally_113 (t := 57) rfl ?_
        exact x_loc [1, 2, 3, 4, 5, 0] rfl h
      · refine x_iload (pc := 77) dFi_tally_77 (q := 4) rfl ?_
        refine x_iload (pc := 79) dFi_tally_79 (q := 5) rfl ?_
        have h := g1_2 ⟨q1, q2, q3⟩
        exact x_invS (pc := 81) dFi_tally_81 (S := [.int v4]) (As := [.int v5]) mlFi_63 hJi_bitCount rfl ⟨by decide, by decide⟩ ⟨Nat.zero_le _, Nat.zero_le _⟩ rfl (Nat.le_of_ble_eq_true rfl) (aftI (b' := b) ⟨Nat.le_refl _, Nat.le_refl _⟩ (fun rv N h => h) h)

theorem vFi_tally_84 {M : Mm} {b : Nat × Nat} {K : Mm → Prop} {v0 : Nat} {v1 : Int32} {v2 : Int32} {v3 : Int32} {v4 : Int32} {v5 : Int32} {w0 : Int32} {w1 : Int32}  
    (h : CI mC_holds [.int w1, .int w0] M (fun rv N => X mFi_tally 87 [(0, .ref v0), (1, .int v1), (2, .int v2), (3, .int v3), (4, .int v4), (5, .int v5)] [.int rv] N b (QV K))) : X mFi_tally 84 [(0, .ref v0), (1, .int v1), (2, .int v2), (3, .int v3), (4, .int v4), (5, .int v5)] [.int w0, .int w1] M b (QV K) := by
  refine x_wf (fun hw => ?_)
  exact x_invSN (pc := 84) dFi_tally_84 (S := []) (As := [.int w1, .int w0]) nlFi_68 hC_holds rfl ⟨by decide, by decide⟩ ⟨Nat.zero_le _, Nat.zero_le _⟩ rfl (Nat.le_of_ble_eq_true rfl) (aftI (b' := b) ⟨Nat.le_refl _, Nat.le_refl _⟩ (fun rv N h => h) h)

theorem vFi_tally_87 {M : Mm} {b : Nat × Nat} {K : Mm → Prop} {v0 : Nat} {v1 : Int32} {v2 : Int32} {v3 : Int32} {v4 : Int32} {v5 : Int32} {w0 : Int32} {r1 : Nat} (kv0 : v0 % 64 = 0) (e1 : gr M v0 1 = some r1)
    (h : (¬ w0 = 0 → vp_in ((((v1 * 2) + v2) * 64) + v5) 1024) ∧ (w0 = 0 → (X mFi_tally 57 [(0, .ref v0), (1, .int v1), (2, .int v2), (3, .int v3), (4, .int v4), (5, .int (v5 + 1))] [] M b (QV K))) ∧ (¬ w0 = 0 → (vp_in ((((v1 * 2) + v2) * 64) + v5) 1024 ∧ (X mFi_tally 57 [(0, .ref v0), (1, .int v1), (2, .int v2), (3, .int v3), (4, .int v4), (5, .int (v5 + 1))] [] (si M r1 ((((v1 * 2) + v2) * 64) + v5).toNatClampNeg ((gi M r1 ((((v1 * 2) + v2) * 64) + v5).toNatClampNeg) + 1)) b (QV K))))) : X mFi_tally 87 [(0, .ref v0), (1, .int v1), (2, .int v2), (3, .int v3), (4, .int v4), (5, .int v5)] [.int w0] M b (QV K) := by
  refine x_wf (fun hw => ?_)
  obtain ⟨s1, g1_0, g1_1⟩ := h
  refine x_if_eq (pc := 87) dFi_tally_87 (t := 110) rfl (fun q1 => ?_) (fun q1 => ?_)
  · have h := g1_0 q1
    refine x_iinc (pc := 110) dFi_tally_110 (q := 5) rfl (v := v5 + 1) rfl (by decide) (L' := [(5, .int (v5 + 1)), (0, .ref v0), (1, .int v1), (2, .int v2), (3, .int v3), (4, .int v4)]) rfl ?_
    refine x_goto (pc := 113) dFi_tally_113 (t := 57) rfl ?_
    exact x_loc [1, 2, 3, 4, 5, 0] rfl h
  · refine x_aload_n (pc := 90) dFi_tally_90 rfl (q := 0) rfl ?_
    refine x_getR (pc := 91) dFi_tally_91 kv0 flFi_9 rfl e1 ?_
    refine x_iload_n (pc := 94) dFi_tally_94 rfl (q := 1) rfl ?_
    refine x_iconst (pc := 95) dFi_tally_95 (v := 2) rfl ?_
    refine x_imul (pc := 96) dFi_tally_96 ?_
    refine x_iload_n (pc := 97) dFi_tally_97 rfl (q := 2) rfl ?_
    refine x_iadd (pc := 98) dFi_tally_98 ?_
    refine x_bipush (pc := 99) dFi_tally_99 (v := 64) rfl ?_
    refine x_imul (pc := 101) dFi_tally_101 ?_
    refine x_iload (pc := 102) dFi_tally_102 (q := 5) rfl ?_
    refine x_iadd (pc := 104) dFi_tally_104 ?_
    refine x_dup2 (pc := 105) dFi_tally_105 rfl rfl ?_
    refine x_aldIj (pc := 106) (j := ((((v1 * 2) + v2) * 64) + v5).toNatClampNeg) (Or.inl ⟨rfl, rfl⟩) dFi_tally_106 (wfk hw e1 kv0) ak_16 rfl (s1 q1) ?_
    refine x_iconst (pc := 107) dFi_tally_107 (v := 1) rfl ?_
    refine x_iadd (pc := 108) dFi_tally_108 ?_
    have h := g1_1 q1
    obtain ⟨s502, h⟩ := h
    refine x_astIj (pc := 109) (j := ((((v1 * 2) + v2) * 64) + v5).toNatClampNeg) (v := (gi M r1 ((((v1 * 2) + v2) * 64) + v5).toNatClampNeg) + 1) (Or.inl ⟨rfl, rfl, rfl⟩) dFi_tally_109 (wfk hw e1 kv0) ak_16 rfl s502 ?_
    refine x_iinc (pc := 110) dFi_tally_110 (q := 5) rfl (v := v5 + 1) rfl (by decide) (L' := [(5, .int (v5 + 1)), (0, .ref v0), (1, .int v1), (2, .int v2), (3, .int v3), (4, .int v4)]) rfl ?_
    refine x_goto (pc := 113) dFi_tally_113 (t := 57) rfl ?_
    exact x_loc [1, 2, 3, 4, 5, 0] rfl h

theorem dWe_turnsBy_0 : decode (mB mWe_turnsBy) 0 = .ok (.aload_n 0, 1) := op42 (by decide +kernel)
theorem dWe_turnsBy_1 : decode (mB mWe_turnsBy) 1 = .ok (.getfield 15, 3) := op180 0 15 (by decide +kernel)
theorem dWe_turnsBy_4 : decode (mB mWe_turnsBy) 4 = .ok (.getfield 91, 3) := op180 0 91 (by decide +kernel)
theorem dWe_turnsBy_7 : decode (mB mWe_turnsBy) 7 = .ok (.iload_n 1, 1) := op27 (by decide +kernel)
theorem dWe_turnsBy_8 : decode (mB mWe_turnsBy) 8 = .ok (.iaload, 1) := op46 (by decide +kernel)
theorem dWe_turnsBy_9 : decode (mB mWe_turnsBy) 9 = .ok (.aload_n 0, 1) := op42 (by decide +kernel)
theorem dWe_turnsBy_10 : decode (mB mWe_turnsBy) 10 = .ok (.getfield 29, 3) := op180 0 29 (by decide +kernel)
theorem dWe_turnsBy_13 : decode (mB mWe_turnsBy) 13 = .ok (.iand, 1) := op126 (by decide +kernel)
theorem dWe_turnsBy_14 : decode (mB mWe_turnsBy) 14 = .ok (.istore 4, 2) := op54 4 (by decide +kernel)
theorem dWe_turnsBy_16 : decode (mB mWe_turnsBy) 16 = .ok (.iload 4, 2) := op21 4 (by decide +kernel)
theorem dWe_turnsBy_18 : decode (mB mWe_turnsBy) 18 = .ok (.aload_n 0, 1) := op42 (by decide +kernel)
theorem dWe_turnsBy_19 : decode (mB mWe_turnsBy) 19 = .ok (.getfield 15, 3) := op180 0 15 (by decide +kernel)
theorem dWe_turnsBy_22 : decode (mB mWe_turnsBy) 22 = .ok (.getfield 94, 3) := op180 0 94 (by decide +kernel)
theorem dWe_turnsBy_25 : decode (mB mWe_turnsBy) 25 = .ok (.aload_n 0, 1) := op42 (by decide +kernel)
theorem dWe_turnsBy_26 : decode (mB mWe_turnsBy) 26 = .ok (.getfield 32, 3) := op180 0 32 (by decide +kernel)
theorem dWe_turnsBy_29 : decode (mB mWe_turnsBy) 29 = .ok (.iaload, 1) := op46 (by decide +kernel)
theorem dWe_turnsBy_30 : decode (mB mWe_turnsBy) 30 = .ok (.iand, 1) := op126 (by decide +kernel)
theorem dWe_turnsBy_31 : decode (mB mWe_turnsBy) 31 = .ok (.iload_n 2, 1) := op28 (by decide +kernel)
theorem dWe_turnsBy_32 : decode (mB mWe_turnsBy) 32 = .ok (.iconst 1, 1) := op4 (by decide +kernel)
theorem dWe_turnsBy_33 : decode (mB mWe_turnsBy) 33 = .ok (.if_icmp .ne 8, 3) := op160 0 8 (by decide +kernel)
theorem dWe_turnsBy_36 : decode (mB mWe_turnsBy) 36 = .ok (.ldc 115, 2) := op18 115 (by decide +kernel)
theorem dWe_turnsBy_38 : decode (mB mWe_turnsBy) 38 = .ok (.goto 4, 3) := op167 0 4 (by decide +kernel)
theorem dWe_turnsBy_41 : decode (mB mWe_turnsBy) 41 = .ok (.iconst 0, 1) := op3 (by decide +kernel)
theorem dWe_turnsBy_42 : decode (mB mWe_turnsBy) 42 = .ok (.ior, 1) := op128 (by decide +kernel)
theorem dWe_turnsBy_43 : decode (mB mWe_turnsBy) 43 = .ok (.istore 5, 2) := op54 5 (by decide +kernel)
theorem dWe_turnsBy_45 : decode (mB mWe_turnsBy) 45 = .ok (.iload 4, 2) := op21 4 (by decide +kernel)
theorem dWe_turnsBy_47 : decode (mB mWe_turnsBy) 47 = .ok (.aload_n 0, 1) := op42 (by decide +kernel)
theorem dWe_turnsBy_48 : decode (mB mWe_turnsBy) 48 = .ok (.getfield 15, 3) := op180 0 15 (by decide +kernel)
theorem dWe_turnsBy_51 : decode (mB mWe_turnsBy) 51 = .ok (.getfield 97, 3) := op180 0 97 (by decide +kernel)
theorem dWe_turnsBy_54 : decode (mB mWe_turnsBy) 54 = .ok (.aload_n 0, 1) := op42 (by decide +kernel)
theorem dWe_turnsBy_55 : decode (mB mWe_turnsBy) 55 = .ok (.getfield 32, 3) := op180 0 32 (by decide +kernel)
theorem dWe_turnsBy_58 : decode (mB mWe_turnsBy) 58 = .ok (.iaload, 1) := op46 (by decide +kernel)
theorem dWe_turnsBy_59 : decode (mB mWe_turnsBy) 59 = .ok (.iand, 1) := op126 (by decide +kernel)
theorem dWe_turnsBy_60 : decode (mB mWe_turnsBy) 60 = .ok (.iload_n 2, 1) := op28 (by decide +kernel)
theorem dWe_turnsBy_61 : decode (mB mWe_turnsBy) 61 = .ok (.ifCond .ne 8, 3) := op154 0 8 (by decide +kernel)
theorem dWe_turnsBy_64 : decode (mB mWe_turnsBy) 64 = .ok (.ldc 115, 2) := op18 115 (by decide +kernel)
theorem dWe_turnsBy_66 : decode (mB mWe_turnsBy) 66 = .ok (.goto 4, 3) := op167 0 4 (by decide +kernel)
theorem dWe_turnsBy_69 : decode (mB mWe_turnsBy) 69 = .ok (.iconst 0, 1) := op3 (by decide +kernel)
theorem dWe_turnsBy_70 : decode (mB mWe_turnsBy) 70 = .ok (.ior, 1) := op128 (by decide +kernel)
theorem dWe_turnsBy_71 : decode (mB mWe_turnsBy) 71 = .ok (.istore 6, 2) := op54 6 (by decide +kernel)
theorem dWe_turnsBy_73 : decode (mB mWe_turnsBy) 73 = .ok (.aload_n 0, 1) := op42 (by decide +kernel)
theorem dWe_turnsBy_74 : decode (mB mWe_turnsBy) 74 = .ok (.iload 5, 2) := op21 5 (by decide +kernel)
theorem dWe_turnsBy_76 : decode (mB mWe_turnsBy) 76 = .ok (.iload 6, 2) := op21 6 (by decide +kernel)
theorem dWe_turnsBy_78 : decode (mB mWe_turnsBy) 78 = .ok (.iload_n 3, 1) := op29 (by decide +kernel)
theorem dWe_turnsBy_79 : decode (mB mWe_turnsBy) 79 = .ok (.invokevirtual 100, 3) := op182 0 100 (by decide +kernel)
theorem dWe_turnsBy_82 : decode (mB mWe_turnsBy) 82 = .ok (.istore 7, 2) := op54 7 (by decide +kernel)
theorem dWe_turnsBy_84 : decode (mB mWe_turnsBy) 84 = .ok (.iload 7, 2) := op21 7 (by decide +kernel)
theorem dWe_turnsBy_86 : decode (mB mWe_turnsBy) 86 = .ok (.aload_n 0, 1) := op42 (by decide +kernel)
theorem dWe_turnsBy_87 : decode (mB mWe_turnsBy) 87 = .ok (.getfield 9, 3) := op180 0 9 (by decide +kernel)
theorem dWe_turnsBy_90 : decode (mB mWe_turnsBy) 90 = .ok (.iload_n 1, 1) := op27 (by decide +kernel)
theorem dWe_turnsBy_91 : decode (mB mWe_turnsBy) 91 = .ok (.iaload, 1) := op46 (by decide +kernel)
theorem dWe_turnsBy_92 : decode (mB mWe_turnsBy) 92 = .ok (.if_icmp .eq 21, 3) := op159 0 21 (by decide +kernel)
theorem dWe_turnsBy_95 : decode (mB mWe_turnsBy) 95 = .ok (.aload_n 0, 1) := op42 (by decide +kernel)
theorem dWe_turnsBy_96 : decode (mB mWe_turnsBy) 96 = .ok (.iload_n 1, 1) := op27 (by decide +kernel)
theorem dWe_turnsBy_97 : decode (mB mWe_turnsBy) 97 = .ok (.iload 7, 2) := op21 7 (by decide +kernel)
theorem dWe_turnsBy_99 : decode (mB mWe_turnsBy) 99 = .ok (.invokevirtual 116, 3) := op182 0 116 (by decide +kernel)
theorem dWe_turnsBy_102 : decode (mB mWe_turnsBy) 102 = .ok (.aload_n 0, 1) := op42 (by decide +kernel)
theorem dWe_turnsBy_103 : decode (mB mWe_turnsBy) 103 = .ok (.getfield 67, 3) := op180 0 67 (by decide +kernel)
theorem dWe_turnsBy_106 : decode (mB mWe_turnsBy) 106 = .ok (.if_icmp .eq 7, 3) := op159 0 7 (by decide +kernel)
theorem dWe_turnsBy_109 : decode (mB mWe_turnsBy) 109 = .ok (.iconst 1, 1) := op4 (by decide +kernel)
theorem dWe_turnsBy_110 : decode (mB mWe_turnsBy) 110 = .ok (.goto 4, 3) := op167 0 4 (by decide +kernel)
theorem dWe_turnsBy_113 : decode (mB mWe_turnsBy) 113 = .ok (.iconst 0, 1) := op3 (by decide +kernel)
theorem dWe_turnsBy_114 : decode (mB mWe_turnsBy) 114 = .ok (.ireturn, 1) := op172 (by decide +kernel)

theorem vWe_turnsBy_0 {M : Mm} {b : Nat × Nat} {K : Int32 → Mm → Prop} {v0 : Nat} {v1 : Int32} {v2 : Int32} {v3 : Int32} {r1 : Nat} {r2 : Nat} {r3 : Nat} {r4 : Nat} (kv0 : v0 % 64 = 8) (e1 : gr M v0 0 = some r1) (e2 : gr M r1 7 = some r2) (e3 : gr M r1 3 = some r3) (e4 : gr M r1 4 = some r4)
    (h : vp_in v1 8 ∧ (vp_in (gi M v0 4) 64 ∧ (vp_in (gi M v0 4) 64 ∧ (CI mWe_settled [.ref v0, .int ((((gi M r2 (v1).toNatClampNeg) &&& (gi M v0 2)) &&& (gi M r3 (gi M v0 4).toNatClampNeg)) ||| (if v2 = 1 then 16777216 else 0 : Int32)), .int ((((gi M r2 (v1).toNatClampNeg) &&& (gi M v0 2)) &&& (gi M r4 (gi M v0 4).toNatClampNeg)) ||| (if v2 = 0 then 16777216 else 0 : Int32)), .int v3] M (fun rv N => X mWe_turnsBy 82 [(0, .ref v0), (1, .int v1)] [.int rv] N b (QI K)))))) : X mWe_turnsBy 0 [(0, .ref v0), (1, .int v1), (2, .int v2), (3, .int v3)] [] M b (QI K) := by
  refine x_wf (fun hw => ?_)
  refine x_aload_n (pc := 0) dWe_turnsBy_0 rfl (q := 0) rfl ?_
  refine x_getR (pc := 1) dWe_turnsBy_1 kv0 flWe_15 rfl e1 ?_
  refine x_getR (pc := 4) dWe_turnsBy_4 (wfk hw e1 kv0) flWe_91 rfl e2 ?_
  refine x_iload_n (pc := 7) dWe_turnsBy_7 rfl (q := 1) rfl ?_
  obtain ⟨s501, h⟩ := h
  refine x_aldIj (pc := 8) (j := (v1).toNatClampNeg) (Or.inl ⟨rfl, rfl⟩) dWe_turnsBy_8 (wfk hw e2 (wfk hw e1 kv0)) ak_13 rfl s501 ?_
  refine x_aload_n (pc := 9) dWe_turnsBy_9 rfl (q := 0) rfl ?_
  refine x_getI (pc := 10) dWe_turnsBy_10 kv0 flWe_29 rfl ?_
  refine x_iand (pc := 13) dWe_turnsBy_13 ?_
  refine x_istore (pc := 14) dWe_turnsBy_14 (by decide) (L' := [(4, .int ((gi M r2 (v1).toNatClampNeg) &&& (gi M v0 2))), (0, .ref v0), (1, .int v1), (2, .int v2), (3, .int v3)]) rfl ?_
  refine x_iload (pc := 16) dWe_turnsBy_16 (q := 0) rfl ?_
  refine x_aload_n (pc := 18) dWe_turnsBy_18 rfl (q := 1) rfl ?_
  refine x_getR (pc := 19) dWe_turnsBy_19 kv0 flWe_15 rfl e1 ?_
  refine x_getR (pc := 22) dWe_turnsBy_22 (wfk hw e1 kv0) flWe_94 rfl e3 ?_
  refine x_aload_n (pc := 25) dWe_turnsBy_25 rfl (q := 1) rfl ?_
  refine x_getI (pc := 26) dWe_turnsBy_26 kv0 flWe_32 rfl ?_
  obtain ⟨s502, h⟩ := h
  refine x_aldIj (pc := 29) (j := (gi M v0 4).toNatClampNeg) (Or.inl ⟨rfl, rfl⟩) dWe_turnsBy_29 (wfk hw e3 (wfk hw e1 kv0)) ak_14 rfl s502 ?_
  refine x_iand (pc := 30) dWe_turnsBy_30 ?_
  refine x_iload_n (pc := 31) dWe_turnsBy_31 rfl (q := 3) rfl ?_
  refine x_iconst (pc := 32) dWe_turnsBy_32 (v := 1) rfl ?_
  suffices hJ : X mWe_turnsBy 42 [(4, .int ((gi M r2 (v1).toNatClampNeg) &&& (gi M v0 2))), (0, .ref v0), (1, .int v1), (2, .int v2), (3, .int v3)] [.int (if v2 = 1 then 16777216 else 0 : Int32), .int (((gi M r2 (v1).toNatClampNeg) &&& (gi M v0 2)) &&& (gi M r3 (gi M v0 4).toNatClampNeg))] M b (QI K) by
    refine x_icmp_ne (pc := 33) dWe_turnsBy_33 (t := 41) rfl (fun q1 => ?_) (fun q1 => ?_)
    · refine x_iconst (pc := 41) dWe_turnsBy_41 (v := 0) rfl ?_
      first | (rw [if_neg q1] at hJ; exact hJ) | (simp only [if_neg q1] at hJ ⊢; exact hJ)
    · refine x_ldc (pc := 36) dWe_turnsBy_36 kcWe_115 ?_
      refine x_goto (pc := 38) dWe_turnsBy_38 (t := 42) rfl ?_
      first | (rw [if_pos q1] at hJ; exact hJ) | (simp only [if_pos q1] at hJ ⊢; exact hJ)
  refine x_ior (pc := 42) dWe_turnsBy_42 ?_
  refine x_istore (pc := 43) dWe_turnsBy_43 (by decide) (L' := [(5, .int ((((gi M r2 (v1).toNatClampNeg) &&& (gi M v0 2)) &&& (gi M r3 (gi M v0 4).toNatClampNeg)) ||| (if v2 = 1 then 16777216 else 0 : Int32))), (4, .int ((gi M r2 (v1).toNatClampNeg) &&& (gi M v0 2))), (0, .ref v0), (1, .int v1), (2, .int v2), (3, .int v3)]) rfl ?_
  refine x_iload (pc := 45) dWe_turnsBy_45 (q := 1) rfl ?_
  refine x_aload_n (pc := 47) dWe_turnsBy_47 rfl (q := 2) rfl ?_
  refine x_getR (pc := 48) dWe_turnsBy_48 kv0 flWe_15 rfl e1 ?_
  refine x_getR (pc := 51) dWe_turnsBy_51 (wfk hw e1 kv0) flWe_97 rfl e4 ?_
  refine x_aload_n (pc := 54) dWe_turnsBy_54 rfl (q := 2) rfl ?_
  refine x_getI (pc := 55) dWe_turnsBy_55 kv0 flWe_32 rfl ?_
  obtain ⟨s503, h⟩ := h
  refine x_aldIj (pc := 58) (j := (gi M v0 4).toNatClampNeg) (Or.inl ⟨rfl, rfl⟩) dWe_turnsBy_58 (wfk hw e4 (wfk hw e1 kv0)) ak_14 rfl s503 ?_
  refine x_iand (pc := 59) dWe_turnsBy_59 ?_
  refine x_iload_n (pc := 60) dWe_turnsBy_60 rfl (q := 4) rfl ?_
  suffices hJ : X mWe_turnsBy 70 [(5, .int ((((gi M r2 (v1).toNatClampNeg) &&& (gi M v0 2)) &&& (gi M r3 (gi M v0 4).toNatClampNeg)) ||| (if v2 = 1 then 16777216 else 0 : Int32))), (4, .int ((gi M r2 (v1).toNatClampNeg) &&& (gi M v0 2))), (0, .ref v0), (1, .int v1), (2, .int v2), (3, .int v3)] [.int (if v2 = 0 then 16777216 else 0 : Int32), .int (((gi M r2 (v1).toNatClampNeg) &&& (gi M v0 2)) &&& (gi M r4 (gi M v0 4).toNatClampNeg))] M b (QI K) by
    refine x_if_ne (pc := 61) dWe_turnsBy_61 (t := 69) rfl (fun q2 => ?_) (fun q2 => ?_)
    · refine x_iconst (pc := 69) dWe_turnsBy_69 (v := 0) rfl ?_
      first | (rw [if_neg q2] at hJ; exact hJ) | (simp only [if_neg q2] at hJ ⊢; exact hJ)
    · refine x_ldc (pc := 64) dWe_turnsBy_64 kcWe_115 ?_
      refine x_goto (pc := 66) dWe_turnsBy_66 (t := 70) rfl ?_
      first | (rw [if_pos q2] at hJ; exact hJ) | (simp only [if_pos q2] at hJ ⊢; exact hJ)
  refine x_ior (pc := 70) dWe_turnsBy_70 ?_
  refine x_istore (pc := 71) dWe_turnsBy_71 (by decide) (L' := [(6, .int ((((gi M r2 (v1).toNatClampNeg) &&& (gi M v0 2)) &&& (gi M r4 (gi M v0 4).toNatClampNeg)) ||| (if v2 = 0 then 16777216 else 0 : Int32))), (5, .int ((((gi M r2 (v1).toNatClampNeg) &&& (gi M v0 2)) &&& (gi M r3 (gi M v0 4).toNatClampNeg)) ||| (if v2 = 1 then 16777216 else 0 : Int32))), (4, .int ((gi M r2 (v1).toNatClampNeg) &&& (gi M v0 2))), (0, .ref v0), (1, .int v1), (2, .int v2), (3, .int v3)]) rfl ?_
  refine x_aload_n (pc := 73) dWe_turnsBy_73 rfl (q := 3) rfl ?_
  refine x_iload (pc := 74) dWe_turnsBy_74 (q := 1) rfl ?_
  refine x_iload (pc := 76) dWe_turnsBy_76 (q := 0) rfl ?_
  refine x_iload_n (pc := 78) dWe_turnsBy_78 rfl (q := 6) rfl ?_
  exact x_invV (pc := 79) dWe_turnsBy_79 (c := 8) (S := []) (As := [.int ((((gi M r2 (v1).toNatClampNeg) &&& (gi M v0 2)) &&& (gi M r3 (gi M v0 4).toNatClampNeg)) ||| (if v2 = 1 then 16777216 else 0 : Int32)), .int ((((gi M r2 (v1).toNatClampNeg) &&& (gi M v0 2)) &&& (gi M r4 (gi M v0 4).toNatClampNeg)) ||| (if v2 = 0 then 16777216 else 0 : Int32)), .int v3]) mlWe_100 hWe_settled rfl (by decide) rfl kv0 ⟨by decide, by decide⟩ ⟨Nat.zero_le _, Nat.zero_le _⟩ rfl (Nat.le_of_ble_eq_true rfl) (aftI (b' := b) ⟨Nat.le_refl _, Nat.le_refl _⟩ (fun rv N h => x_loc [3, 4] rfl h) h)

theorem vWe_turnsBy_82 {M : Mm} {b : Nat × Nat} {K : Int32 → Mm → Prop} {v0 : Nat} {v1 : Int32} {w0 : Int32} {r1 : Nat} (kv0 : v0 % 64 = 8) (e1 : gr M v0 3 = some r1)
    (h : vp_in v1 8 ∧ ((w0 = (gi M r1 (v1).toNatClampNeg) → (K 0 M)) ∧ (¬ w0 = (gi M r1 (v1).toNatClampNeg) → (CI mWe_heldIf [.ref v0, .int v1, .int w0] M (fun rv N => X mWe_turnsBy 102 [(0, .ref v0)] [.int rv] N b (QI K)))))) : X mWe_turnsBy 82 [(0, .ref v0), (1, .int v1)] [.int w0] M b (QI K) := by
  refine x_wf (fun hw => ?_)
  refine x_istore (pc := 82) dWe_turnsBy_82 (by decide) (L' := [(7, .int w0), (0, .ref v0), (1, .int v1)]) rfl ?_
  refine x_iload (pc := 84) dWe_turnsBy_84 (q := 0) rfl ?_
  refine x_aload_n (pc := 86) dWe_turnsBy_86 rfl (q := 1) rfl ?_
  refine x_getR (pc := 87) dWe_turnsBy_87 kv0 flWe_9 rfl e1 ?_
  refine x_iload_n (pc := 90) dWe_turnsBy_90 rfl (q := 2) rfl ?_
  obtain ⟨s501, h⟩ := h
  refine x_aldIj (pc := 91) (j := (v1).toNatClampNeg) (Or.inl ⟨rfl, rfl⟩) dWe_turnsBy_91 (wfk hw e1 kv0) ak_13 rfl s501 ?_
  obtain ⟨g1_0, g1_1⟩ := h
  refine x_icmp_eq (pc := 92) dWe_turnsBy_92 (t := 113) rfl (fun q1 => ?_) (fun q1 => ?_)
  · have h := g1_0 q1
    refine x_iconst (pc := 113) dWe_turnsBy_113 (v := 0) rfl ?_
    exact x_retQI (pc := 114) dWe_turnsBy_114 rfl (by (repeat' split) <;> rfl) h
  · refine x_aload_n (pc := 95) dWe_turnsBy_95 rfl (q := 1) rfl ?_
    refine x_iload_n (pc := 96) dWe_turnsBy_96 rfl (q := 2) rfl ?_
    refine x_iload (pc := 97) dWe_turnsBy_97 (q := 0) rfl ?_
    have h := g1_1 q1
    exact x_invV (pc := 99) dWe_turnsBy_99 (c := 8) (S := []) (As := [.int v1, .int w0]) mlWe_116 hWe_heldIf rfl (by decide) rfl kv0 ⟨by decide, by decide⟩ ⟨Nat.zero_le _, Nat.zero_le _⟩ rfl (Nat.le_of_ble_eq_true rfl) (aftI (b' := b) ⟨Nat.le_refl _, Nat.le_refl _⟩ (fun rv N h => x_loc [1] rfl h) h)

theorem vWe_turnsBy_102 {M : Mm} {b : Nat × Nat} {K : Int32 → Mm → Prop} {v0 : Nat} {w0 : Int32} (kv0 : v0 % 64 = 8) 
    (h : (w0 = (gi M v0 9) → (K 0 M)) ∧ (¬ w0 = (gi M v0 9) → (K 1 M))) : X mWe_turnsBy 102 [(0, .ref v0)] [.int w0] M b (QI K) := by
  refine x_wf (fun hw => ?_)
  refine x_aload_n (pc := 102) dWe_turnsBy_102 rfl (q := 0) rfl ?_
  refine x_getI (pc := 103) dWe_turnsBy_103 kv0 flWe_67 rfl ?_
  obtain ⟨g1_0, g1_1⟩ := h
  refine x_icmp_eq (pc := 106) dWe_turnsBy_106 (t := 113) rfl (fun q1 => ?_) (fun q1 => ?_)
  · have h := g1_0 q1
    refine x_iconst (pc := 113) dWe_turnsBy_113 (v := 0) rfl ?_
    exact x_retQI (pc := 114) dWe_turnsBy_114 rfl (by (repeat' split) <;> rfl) h
  · refine x_iconst (pc := 109) dWe_turnsBy_109 (v := 1) rfl ?_
    refine x_goto (pc := 110) dWe_turnsBy_110 (t := 114) rfl ?_
    have h := g1_1 q1
    exact x_retQI (pc := 114) dWe_turnsBy_114 rfl (by (repeat' split) <;> rfl) h

theorem dFi_doctorAt_0 : decode (mB mFi_doctorAt) 0 = .ok (.iload_n 0, 1) := op26 (by decide +kernel)
theorem dFi_doctorAt_1 : decode (mB mFi_doctorAt) 1 = .ok (.sipush 128, 3) := op17 0 128 (by decide +kernel)
theorem dFi_doctorAt_4 : decode (mB mFi_doctorAt) 4 = .ok (.idiv, 1) := op108 (by decide +kernel)
theorem dFi_doctorAt_5 : decode (mB mFi_doctorAt) 5 = .ok (.ireturn, 1) := op172 (by decide +kernel)

theorem vFi_doctorAt_0 {M : Mm} {b : Nat × Nat} {K : Int32 → Mm → Prop} {v0 : Int32}  
    (h : K (v0 / 128) M) : X mFi_doctorAt 0 [(0, .int v0)] [] M b (QI K) := by
  refine x_wf (fun hw => ?_)
  refine x_iload_n (pc := 0) dFi_doctorAt_0 rfl (q := 0) rfl ?_
  refine x_sipush (pc := 1) dFi_doctorAt_1 (v := 128) rfl ?_
  refine x_idiv (pc := 4) dFi_doctorAt_4 (by decide) ?_
  exact x_retQI (pc := 5) dFi_doctorAt_5 rfl rfl h

theorem dFi_answerAt_0 : decode (mB mFi_answerAt) 0 = .ok (.iload_n 0, 1) := op26 (by decide +kernel)
theorem dFi_answerAt_1 : decode (mB mFi_answerAt) 1 = .ok (.bipush 64, 2) := op16 64 (by decide +kernel)
theorem dFi_answerAt_3 : decode (mB mFi_answerAt) 3 = .ok (.idiv, 1) := op108 (by decide +kernel)
theorem dFi_answerAt_4 : decode (mB mFi_answerAt) 4 = .ok (.iconst 2, 1) := op5 (by decide +kernel)
theorem dFi_answerAt_5 : decode (mB mFi_answerAt) 5 = .ok (.irem, 1) := op112 (by decide +kernel)
theorem dFi_answerAt_6 : decode (mB mFi_answerAt) 6 = .ok (.ireturn, 1) := op172 (by decide +kernel)

theorem vFi_answerAt_0 {M : Mm} {b : Nat × Nat} {K : Int32 → Mm → Prop} {v0 : Int32}  
    (h : K ((v0 / 64) - (v0 / 64) / 2 * 2) M) : X mFi_answerAt 0 [(0, .int v0)] [] M b (QI K) := by
  refine x_wf (fun hw => ?_)
  refine x_iload_n (pc := 0) dFi_answerAt_0 rfl (q := 0) rfl ?_
  refine x_bipush (pc := 1) dFi_answerAt_1 (v := 64) rfl ?_
  refine x_idiv (pc := 3) dFi_answerAt_3 (by decide) ?_
  refine x_iconst (pc := 4) dFi_answerAt_4 (v := 2) rfl ?_
  refine x_irem (pc := 5) dFi_answerAt_5 (by decide) ?_
  exact x_retQI (pc := 6) dFi_answerAt_6 rfl rfl h

theorem dFi_marksAt_0 : decode (mB mFi_marksAt) 0 = .ok (.iload_n 0, 1) := op26 (by decide +kernel)
theorem dFi_marksAt_1 : decode (mB mFi_marksAt) 1 = .ok (.bipush 64, 2) := op16 64 (by decide +kernel)
theorem dFi_marksAt_3 : decode (mB mFi_marksAt) 3 = .ok (.irem, 1) := op112 (by decide +kernel)
theorem dFi_marksAt_4 : decode (mB mFi_marksAt) 4 = .ok (.ireturn, 1) := op172 (by decide +kernel)

theorem vFi_marksAt_0 {M : Mm} {b : Nat × Nat} {K : Int32 → Mm → Prop} {v0 : Int32}  
    (h : K (v0 - v0 / 64 * 64) M) : X mFi_marksAt 0 [(0, .int v0)] [] M b (QI K) := by
  refine x_wf (fun hw => ?_)
  refine x_iload_n (pc := 0) dFi_marksAt_0 rfl (q := 0) rfl ?_
  refine x_bipush (pc := 1) dFi_marksAt_1 (v := 64) rfl ?_
  refine x_irem (pc := 3) dFi_marksAt_3 (by decide) ?_
  exact x_retQI (pc := 4) dFi_marksAt_4 rfl rfl h

