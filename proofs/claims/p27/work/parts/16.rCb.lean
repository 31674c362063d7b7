theorem dC_widest_0 : decode (mB mC_widest) 0 = .ok (.iload_n 1, 1) := op27 (by decide +kernel)
theorem dC_widest_1 : decode (mB mC_widest) 1 = .ok (.invokestatic 218, 3) := op184 0 218 (by decide +kernel)
theorem dC_widest_4 : decode (mB mC_widest) 4 = .ok (.ifCond .ne 5, 3) := op154 0 5 (by decide +kernel)
theorem dC_widest_7 : decode (mB mC_widest) 7 = .ok (.iconst (-1), 1) := op2 (by decide +kernel)
theorem dC_widest_8 : decode (mB mC_widest) 8 = .ok (.ireturn, 1) := op172 (by decide +kernel)
theorem dC_widest_9 : decode (mB mC_widest) 9 = .ok (.aload_n 0, 1) := op42 (by decide +kernel)
theorem dC_widest_10 : decode (mB mC_widest) 10 = .ok (.invokevirtual 212, 3) := op182 0 212 (by decide +kernel)
theorem dC_widest_13 : decode (mB mC_widest) 13 = .ok (.bipush (-4), 2) := op16 252 (by decide +kernel)
theorem dC_widest_15 : decode (mB mC_widest) 15 = .ok (.istore_n 2, 1) := op61 (by decide +kernel)
theorem dC_widest_16 : decode (mB mC_widest) 16 = .ok (.iconst 0, 1) := op3 (by decide +kernel)
theorem dC_widest_17 : decode (mB mC_widest) 17 = .ok (.istore_n 3, 1) := op62 (by decide +kernel)
theorem dC_widest_18 : decode (mB mC_widest) 18 = .ok (.iconst 0, 1) := op3 (by decide +kernel)
theorem dC_widest_19 : decode (mB mC_widest) 19 = .ok (.istore 4, 2) := op54 4 (by decide +kernel)
theorem dC_widest_21 : decode (mB mC_widest) 21 = .ok (.iconst 0, 1) := op3 (by decide +kernel)
theorem dC_widest_22 : decode (mB mC_widest) 22 = .ok (.istore 5, 2) := op54 5 (by decide +kernel)
theorem dC_widest_24 : decode (mB mC_widest) 24 = .ok (.iload 5, 2) := op21 5 (by decide +kernel)
theorem dC_widest_26 : decode (mB mC_widest) 26 = .ok (.bipush 64, 2) := op16 64 (by decide +kernel)
theorem dC_widest_28 : decode (mB mC_widest) 28 = .ok (.if_icmp .ge 83, 3) := op162 0 83 (by decide +kernel)
theorem dC_widest_31 : decode (mB mC_widest) 31 = .ok (.aload_n 0, 1) := op42 (by decide +kernel)
theorem dC_widest_32 : decode (mB mC_widest) 32 = .ok (.getfield 73, 3) := op180 0 73 (by decide +kernel)
theorem dC_widest_35 : decode (mB mC_widest) 35 = .ok (.iload 5, 2) := op21 5 (by decide +kernel)
theorem dC_widest_37 : decode (mB mC_widest) 37 = .ok (.invokevirtual 238, 3) := op182 0 238 (by decide +kernel)
theorem dC_widest_40 : decode (mB mC_widest) 40 = .ok (.aload_n 0, 1) := op42 (by decide +kernel)
theorem dC_widest_41 : decode (mB mC_widest) 41 = .ok (.getfield 73, 3) := op180 0 73 (by decide +kernel)
theorem dC_widest_44 : decode (mB mC_widest) 44 = .ok (.getfield 251, 3) := op180 0 251 (by decide +kernel)
theorem dC_widest_47 : decode (mB mC_widest) 47 = .ok (.aload_n 0, 1) := op42 (by decide +kernel)
theorem dC_widest_48 : decode (mB mC_widest) 48 = .ok (.getfield 73, 3) := op180 0 73 (by decide +kernel)
theorem dC_widest_51 : decode (mB mC_widest) 51 = .ok (.getfield 254, 3) := op180 0 254 (by decide +kernel)
theorem dC_widest_54 : decode (mB mC_widest) 54 = .ok (.invokestatic 264, 3) := op184 1 8 (by decide +kernel)
theorem dC_widest_57 : decode (mB mC_widest) 57 = .ok (.istore 6, 2) := op54 6 (by decide +kernel)
theorem dC_widest_59 : decode (mB mC_widest) 59 = .ok (.aload_n 0, 1) := op42 (by decide +kernel)
theorem dC_widest_60 : decode (mB mC_widest) 60 = .ok (.getfield 73, 3) := op180 0 73 (by decide +kernel)
theorem dC_widest_63 : decode (mB mC_widest) 63 = .ok (.getfield 251, 3) := op180 0 251 (by decide +kernel)
theorem dC_widest_66 : decode (mB mC_widest) 66 = .ok (.aload_n 0, 1) := op42 (by decide +kernel)
theorem dC_widest_67 : decode (mB mC_widest) 67 = .ok (.getfield 73, 3) := op180 0 73 (by decide +kernel)
theorem dC_widest_70 : decode (mB mC_widest) 70 = .ok (.getfield 254, 3) := op180 0 254 (by decide +kernel)
theorem dC_widest_73 : decode (mB mC_widest) 73 = .ok (.iadd, 1) := op96 (by decide +kernel)
theorem dC_widest_74 : decode (mB mC_widest) 74 = .ok (.istore 7, 2) := op54 7 (by decide +kernel)
theorem dC_widest_76 : decode (mB mC_widest) 76 = .ok (.iload 6, 2) := op21 6 (by decide +kernel)
theorem dC_widest_78 : decode (mB mC_widest) 78 = .ok (.iload_n 3, 1) := op29 (by decide +kernel)
theorem dC_widest_79 : decode (mB mC_widest) 79 = .ok (.if_icmp .gt 16, 3) := op163 0 16 (by decide +kernel)
theorem dC_widest_82 : decode (mB mC_widest) 82 = .ok (.iload 6, 2) := op21 6 (by decide +kernel)
theorem dC_widest_84 : decode (mB mC_widest) 84 = .ok (.iload_n 3, 1) := op29 (by decide +kernel)
theorem dC_widest_85 : decode (mB mC_widest) 85 = .ok (.if_icmp .ne 20, 3) := op160 0 20 (by decide +kernel)
theorem dC_widest_88 : decode (mB mC_widest) 88 = .ok (.iload 7, 2) := op21 7 (by decide +kernel)
theorem dC_widest_90 : decode (mB mC_widest) 90 = .ok (.iload 4, 2) := op21 4 (by decide +kernel)
theorem dC_widest_92 : decode (mB mC_widest) 92 = .ok (.if_icmp .le 13, 3) := op164 0 13 (by decide +kernel)
theorem dC_widest_95 : decode (mB mC_widest) 95 = .ok (.iload 5, 2) := op21 5 (by decide +kernel)
theorem dC_widest_97 : decode (mB mC_widest) 97 = .ok (.istore_n 2, 1) := op61 (by decide +kernel)
theorem dC_widest_98 : decode (mB mC_widest) 98 = .ok (.iload 6, 2) := op21 6 (by decide +kernel)
theorem dC_widest_100 : decode (mB mC_widest) 100 = .ok (.istore_n 3, 1) := op62 (by decide +kernel)
theorem dC_widest_101 : decode (mB mC_widest) 101 = .ok (.iload 7, 2) := op21 7 (by decide +kernel)
theorem dC_widest_103 : decode (mB mC_widest) 103 = .ok (.istore 4, 2) := op54 4 (by decide +kernel)
theorem dC_widest_105 : decode (mB mC_widest) 105 = .ok (.iinc 5 1, 3) := op132 5 1 (by decide +kernel)
theorem dC_widest_108 : decode (mB mC_widest) 108 = .ok (.goto (-84), 3) := op167 255 172 (by decide +kernel)
theorem dC_widest_111 : decode (mB mC_widest) 111 = .ok (.iload_n 2, 1) := op28 (by decide +kernel)
theorem dC_widest_112 : decode (mB mC_widest) 112 = .ok (.bipush (-4), 2) := op16 252 (by decide +kernel)
theorem dC_widest_114 : decode (mB mC_widest) 114 = .ok (.if_icmp .eq 7, 3) := op159 0 7 (by decide +kernel)
theorem dC_widest_117 : decode (mB mC_widest) 117 = .ok (.iload_n 1, 1) := op27 (by decide +kernel)
theorem dC_widest_118 : decode (mB mC_widest) 118 = .ok (.ifCond .ne 7, 3) := op154 0 7 (by decide +kernel)
theorem dC_widest_121 : decode (mB mC_widest) 121 = .ok (.iload_n 2, 1) := op28 (by decide +kernel)
theorem dC_widest_122 : decode (mB mC_widest) 122 = .ok (.goto 4, 3) := op167 0 4 (by decide +kernel)
theorem dC_widest_125 : decode (mB mC_widest) 125 = .ok (.iload_n 3, 1) := op29 (by decide +kernel)
theorem dC_widest_126 : decode (mB mC_widest) 126 = .ok (.ireturn, 1) := op172 (by decide +kernel)

theorem vC_widest_0 {M : Mm} {b : Nat × Nat} {K : Int32 → Mm → Prop} {v0 : Nat} {v1 : Int32}  
    (h : CI mC_isEither [.int v1] M (fun rv N => X mC_widest 4 [(0, .ref v0), (1, .int v1)] [.int rv] N b (QI K))) : X mC_widest 0 [(0, .ref v0), (1, .int v1)] [] M b (QI K) := by
  refine x_wf (fun hw => ?_)
  refine x_iload_n (pc := 0) dC_widest_0 rfl (q := 1) rfl ?_
  exact x_invS (pc := 1) dC_widest_1 (S := []) (As := [.int v1]) mlC_218 hC_isEither rfl ⟨by decide, by decide⟩ ⟨Nat.zero_le _, Nat.zero_le _⟩ rfl (Nat.le_of_ble_eq_true rfl) (aftI (b' := b) ⟨Nat.le_refl _, Nat.le_refl _⟩ (fun rv N h => h) h)

theorem vC_widest_4 {M : Mm} {b : Nat × Nat} {K : Int32 → Mm → Prop} {v0 : Nat} {v1 : Int32} {w0 : Int32} (kv0 : v0 % 64 = 10) 
    (h : (¬ w0 = 0 → (CV mC_weighNow [.ref v0] M (fun N => X mC_widest 13 [(0, .ref v0), (1, .int v1)] [] N b (QI K)))) ∧ (w0 = 0 → (K (-1) M))) : X mC_widest 4 [(0, .ref v0), (1, .int v1)] [.int w0] M b (QI K) := by
  refine x_wf (fun hw => ?_)
  obtain ⟨g1_0, g1_1⟩ := h
  refine x_if_ne (pc := 4) dC_widest_4 (t := 9) rfl (fun q1 => ?_) (fun q1 => ?_)
  · refine x_aload_n (pc := 9) dC_widest_9 rfl (q := 0) rfl ?_
    have h := g1_0 q1
    exact x_invV (pc := 10) dC_widest_10 (c := 10) (S := []) (As := []) mlC_212 hC_weighNow rfl (by decide) rfl kv0 ⟨by decide, by decide⟩ ⟨Nat.zero_le _, Nat.zero_le _⟩ rfl (Nat.le_of_ble_eq_true rfl) (aftV (b' := b) ⟨Nat.le_refl _, Nat.le_refl _⟩ (fun N h => h) h)
  · refine x_iconst (pc := 7) dC_widest_7 (v := (-1)) rfl ?_
    have h := g1_1 q1
    exact x_retQI (pc := 8) dC_widest_8 rfl rfl h

theorem vC_widest_13 {M : Mm} {b : Nat × Nat} {K : Int32 → Mm → Prop} {v0 : Nat} {v1 : Int32}  
    (h : X mC_widest 24 [(0, .ref v0), (1, .int v1), (2, .int (-4)), (3, .int 0), (4, .int 0), (5, .int 0)] [] M b (QI K)) : X mC_widest 13 [(0, .ref v0), (1, .int v1)] [] M b (QI K) := by
  refine x_wf (fun hw => ?_)
  refine x_bipush (pc := 13) dC_widest_13 (v := (-4)) rfl ?_
  refine x_istore_n (pc := 15) dC_widest_15 rfl (by decide) (L' := [(2, .int (-4)), (0, .ref v0), (1, .int v1)]) rfl ?_
  refine x_iconst (pc := 16) dC_widest_16 (v := 0) rfl ?_
  refine x_istore_n (pc := 17) dC_widest_17 rfl (by decide) (L' := [(3, .int 0), (2, .int (-4)), (0, .ref v0), (1, .int v1)]) rfl ?_
  refine x_iconst (pc := 18) dC_widest_18 (v := 0) rfl ?_
  refine x_istore (pc := 19) dC_widest_19 (by decide) (L' := [(4, .int 0), (3, .int 0), (2, .int (-4)), (0, .ref v0), (1, .int v1)]) rfl ?_
  refine x_iconst (pc := 21) dC_widest_21 (v := 0) rfl ?_
  refine x_istore (pc := 22) dC_widest_22 (by decide) (L' := [(5, .int 0), (4, .int 0), (3, .int 0), (2, .int (-4)), (0, .ref v0), (1, .int v1)]) rfl ?_
  exact x_loc [4, 5, 3, 2, 1, 0] rfl h

theorem vC_widest_24 {M : Mm} {b : Nat × Nat} {K : Int32 → Mm → Prop} {v0 : Nat} {v1 : Int32} {v2 : Int32} {v3 : Int32} {v4 : Int32} {v5 : Int32} {r1 : Nat} (kv0 : v0 % 64 = 10) (e1 : gr M v0 11 = some r1)
    (h : (((64 ≤ v5 ∧ v2 = (-4)) ∨ (64 ≤ v5 ∧ ¬ v2 = (-4) ∧ v1 = 0)) → (K v2 M)) ∧ ((64 ≤ v5 ∧ ¬ v2 = (-4) ∧ ¬ v1 = 0) → (K v3 M)) ∧ (¬ 64 ≤ v5 → (CV mWe_weigh [.ref r1, .int v5] M (fun N => X mC_widest 40 [(0, .ref v0), (1, .int v1), (2, .int v2), (3, .int v3), (4, .int v4), (5, .int v5)] [] N b (QI K))))) : X mC_widest 24 [(0, .ref v0), (1, .int v1), (2, .int v2), (3, .int v3), (4, .int v4), (5, .int v5)] [] M b (QI K) := by
  refine x_wf (fun hw => ?_)
  refine x_iload (pc := 24) dC_widest_24 (q := 5) rfl ?_
  refine x_bipush (pc := 26) dC_widest_26 (v := 64) rfl ?_
  obtain ⟨g1_0, g1_1, g1_2⟩ := h
  have g1_k0 : (64 ≤ v5 ∧ v2 = (-4)) ∨ (64 ≤ v5 ∧ ¬ v2 = (-4) ∧ v1 = 0) → X mC_widest 121 [(0, .ref v0), (1, .int v1), (2, .int v2), (3, .int v3), (4, .int v4), (5, .int v5)] [] M b (QI K) := fun q => by
    have h := g1_0 q
    refine x_iload_n (pc := 121) dC_widest_121 rfl (q := 2) rfl ?_
    refine x_goto (pc := 122) dC_widest_122 (t := 126) rfl ?_
    exact x_retQI (pc := 126) dC_widest_126 rfl rfl h
  refine x_icmp_ge (pc := 28) dC_widest_28 (t := 111) rfl (fun q1 => ?_) (fun q1 => ?_)
  · refine x_iload_n (pc := 111) dC_widest_111 rfl (q := 2) rfl ?_
    refine x_bipush (pc := 112) dC_widest_112 (v := (-4)) rfl ?_
    refine x_icmp_eq (pc := 114) dC_widest_114 (t := 121) rfl (fun q2 => ?_) (fun q2 => ?_)
    · exact g1_k0 (Or.inl ⟨q1, q2⟩)
    · refine x_iload_n (pc := 117) dC_widest_117 rfl (q := 1) rfl ?_
      refine x_if_ne (pc := 118) dC_widest_118 (t := 125) rfl (fun q3 => ?_) (fun q3 => ?_)
      · refine x_iload_n (pc := 125) dC_widest_125 rfl (q := 3) rfl ?_
        have h := g1_1 ⟨q1, q2, q3⟩
        exact x_retQI (pc := 126) dC_widest_126 rfl rfl h
      · exact g1_k0 (Or.inr ⟨q1, q2, q3⟩)
  · refine x_aload_n (pc := 31) dC_widest_31 rfl (q := 0) rfl ?_
    refine x_getR (pc := 32) dC_widest_32 kv0 flC_73 rfl e1 ?_
    refine x_iload (pc := 35) dC_widest_35 (q := 5) rfl ?_
    have h := g1_2 q1
    exact x_invV (pc := 37) dC_widest_37 (c := 8) (S := []) (As := [.int v5]) mlC_238 hWe_weigh rfl (by decide) rfl (wfk hw e1 kv0) ⟨by decide, by decide⟩ ⟨Nat.zero_le _, Nat.zero_le _⟩ rfl (Nat.le_of_ble_eq_true rfl) (aftV (b' := b) ⟨Nat.le_refl _, Nat.le_refl _⟩ (fun N h => h) h)

theorem vC_widest_40 {M : Mm} {b : Nat × Nat} {K : Int32 → Mm → Prop} {v0 : Nat} {v1 : Int32} {v2 : Int32} {v3 : Int32} {v4 : Int32} {v5 : Int32} {r1 : Nat} (kv0 : v0 % 64 = 10) (e1 : gr M v0 11 = some r1)
    (h : CI mJm_min [.int (gi M r1 6), .int (gi M r1 7)] M (fun rv N => X mC_widest 57 [(0, .ref v0), (1, .int v1), (2, .int v2), (3, .int v3), (4, .int v4), (5, .int v5)] [.int rv] N b (QI K))) : X mC_widest 40 [(0, .ref v0), (1, .int v1), (2, .int v2), (3, .int v3), (4, .int v4), (5, .int v5)] [] M b (QI K) := by
  refine x_wf (fun hw => ?_)
  refine x_aload_n (pc := 40) dC_widest_40 rfl (q := 0) rfl ?_
  refine x_getR (pc := 41) dC_widest_41 kv0 flC_73 rfl e1 ?_
  refine x_getI (pc := 44) dC_widest_44 (wfk hw e1 kv0) flC_251 rfl ?_
  refine x_aload_n (pc := 47) dC_widest_47 rfl (q := 0) rfl ?_
  refine x_getR (pc := 48) dC_widest_48 kv0 flC_73 rfl e1 ?_
  refine x_getI (pc := 51) dC_widest_51 (wfk hw e1 kv0) flC_254 rfl ?_
  exact x_invS (pc := 54) dC_widest_54 (S := []) (As := [.int (gi M r1 6), .int (gi M r1 7)]) mlC_264 hJm_min rfl ⟨by decide, by decide⟩ ⟨Nat.zero_le _, Nat.zero_le _⟩ rfl (Nat.le_of_ble_eq_true rfl) (aftI (b' := b) ⟨Nat.le_refl _, Nat.le_refl _⟩ (fun rv N h => h) h)

theorem vC_widest_57 {M : Mm} {b : Nat × Nat} {K : Int32 → Mm → Prop} {v0 : Nat} {v1 : Int32} {v2 : Int32} {v3 : Int32} {v4 : Int32} {v5 : Int32} {w0 : Int32} {r1 : Nat} (kv0 : v0 % 64 = 10) (e1 : gr M v0 11 = some r1)
    (h : (((v3 < w0) ∨ (¬ v3 < w0 ∧ w0 = v3 ∧ ¬ ((gi M r1 6) + (gi M r1 7)) ≤ v4)) → (X mC_widest 24 [(0, .ref v0), (1, .int v1), (2, .int v5), (3, .int w0), (4, .int ((gi M r1 6) + (gi M r1 7))), (5, .int (v5 + 1))] [] M b (QI K))) ∧ (((¬ v3 < w0 ∧ ¬ w0 = v3) ∨ (¬ v3 < w0 ∧ w0 = v3 ∧ ((gi M r1 6) + (gi M r1 7)) ≤ v4)) → (X mC_widest 24 [(0, .ref v0), (1, .int v1), (2, .int v2), (3, .int v3), (4, .int v4), (5, .int (v5 + 1))] [] M b (QI K)))) : X mC_widest 57 [(0, .ref v0), (1, .int v1), (2, .int v2), (3, .int v3), (4, .int v4), (5, .int v5)] [.int w0] M b (QI K) := by
  refine x_wf (fun hw => ?_)
  refine x_istore (pc := 57) dC_widest_57 (by decide) (L' := [(6, .int w0), (0, .ref v0), (1, .int v1), (2, .int v2), (3, .int v3), (4, .int v4), (5, .int v5)]) rfl ?_
  refine x_aload_n (pc := 59) dC_widest_59 rfl (q := 1) rfl ?_
  refine x_getR (pc := 60) dC_widest_60 kv0 flC_73 rfl e1 ?_
  refine x_getI (pc := 63) dC_widest_63 (wfk hw e1 kv0) flC_251 rfl ?_
  refine x_aload_n (pc := 66) dC_widest_66 rfl (q := 1) rfl ?_
  refine x_getR (pc := 67) dC_widest_67 kv0 flC_73 rfl e1 ?_
  refine x_getI (pc := 70) dC_widest_70 (wfk hw e1 kv0) flC_254 rfl ?_
  refine x_iadd (pc := 73) dC_widest_73 ?_
  refine x_istore (pc := 74) dC_widest_74 (by decide) (L' := [(7, .int ((gi M r1 6) + (gi M r1 7))), (6, .int w0), (0, .ref v0), (1, .int v1), (2, .int v2), (3, .int v3), (4, .int v4), (5, .int v5)]) rfl ?_
  refine x_iload (pc := 76) dC_widest_76 (q := 1) rfl ?_
  refine x_iload_n (pc := 78) dC_widest_78 rfl (q := 5) rfl ?_
  obtain ⟨g1_0, g1_1⟩ := h
  have g1_k0 : (v3 < w0) ∨ (¬ v3 < w0 ∧ w0 = v3 ∧ ¬ ((gi M r1 6) + (gi M r1 7)) ≤ v4) → X mC_widest 95 [(7, .int ((gi M r1 6) + (gi M r1 7))), (6, .int w0), (0, .ref v0), (1, .int v1), (2, .int v2), (3, .int v3), (4, .int v4), (5, .int v5)] [] M b (QI K) := fun q => by
    have h := g1_0 q
    refine x_iload (pc := 95) dC_widest_95 (q := 7) rfl ?_
    refine x_istore_n (pc := 97) dC_widest_97 rfl (by decide) (L' := [(2, .int v5), (7, .int ((gi M r1 6) + (gi M r1 7))), (6, .int w0), (0, .ref v0), (1, .int v1), (3, .int v3), (4, .int v4), (5, .int v5)]) rfl ?_
    refine x_iload (pc := 98) dC_widest_98 (q := 2) rfl ?_
    refine x_istore_n (pc := 100) dC_widest_100 rfl (by decide) (L' := [(3, .int w0), (2, .int v5), (7, .int ((gi M r1 6) + (gi M r1 7))), (6, .int w0), (0, .ref v0), (1, .int v1), (4, .int v4), (5, .int v5)]) rfl ?_
    refine x_iload (pc := 101) dC_widest_101 (q := 2) rfl ?_
    refine x_istore (pc := 103) dC_widest_103 (by decide) (L' := [(4, .int ((gi M r1 6) + (gi M r1 7))), (3, .int w0), (2, .int v5), (7, .int ((gi M r1 6) + (gi M r1 7))), (6, .int w0), (0, .ref v0), (1, .int v1), (5, .int v5)]) rfl ?_
    refine x_iinc (pc := 105) dC_widest_105 (q := 7) rfl (v := v5 + 1) rfl (by decide) (L' := [(5, .int (v5 + 1)), (4, .int ((gi M r1 6) + (gi M r1 7))), (3, .int w0), (2, .int v5), (7, .int ((gi M r1 6) + (gi M r1 7))), (6, .int w0), (0, .ref v0), (1, .int v1)]) rfl ?_
    refine x_goto (pc := 108) dC_widest_108 (t := 24) rfl ?_
    exact x_loc [6, 7, 3, 2, 1, 0] rfl h
  have g1_k1 : (¬ v3 < w0 ∧ ¬ w0 = v3) ∨ (¬ v3 < w0 ∧ w0 = v3 ∧ ((gi M r1 6) + (gi M r1 7)) ≤ v4) → X mC_widest 105 [(7, .int ((gi M r1 6) + (gi M r1 7))), (6, .int w0), (0, .ref v0), (1, .int v1), (2, .int v2), (3, .int v3), (4, .int v4), (5, .int v5)] [] M b (QI K) := fun q => by
    have h := g1_1 q
    refine x_iinc (pc := 105) dC_widest_105 (q := 7) rfl (v := v5 + 1) rfl (by decide) (L' := [(5, .int (v5 + 1)), (7, .int ((gi M r1 6) + (gi M r1 7))), (6, .int w0), (0, .ref v0), (1, .int v1), (2, .int v2), (3, .int v3), (4, .int v4)]) rfl ?_
    refine x_goto (pc := 108) dC_widest_108 (t := 24) rfl ?_
    exact x_loc [3, 4, 5, 6, 7, 0] rfl h
  refine x_icmp_gt (pc := 79) dC_widest_79 (t := 95) rfl (fun q1 => ?_) (fun q1 => ?_)
  · exact g1_k0 (Or.inl q1)
  · refine x_iload (pc := 82) dC_widest_82 (q := 1) rfl ?_
    refine x_iload_n (pc := 84) dC_widest_84 rfl (q := 5) rfl ?_
    refine x_icmp_ne (pc := 85) dC_widest_85 (t := 105) rfl (fun q2 => ?_) (fun q2 => ?_)
    · exact g1_k1 (Or.inl ⟨q1, q2⟩)
    · refine x_iload (pc := 88) dC_widest_88 (q := 0) rfl ?_
      refine x_iload (pc := 90) dC_widest_90 (q := 6) rfl ?_
      refine x_icmp_le (pc := 92) dC_widest_92 (t := 105) rfl (fun q3 => ?_) (fun q3 => ?_)
      · exact g1_k1 (Or.inr ⟨q1, q2, q3⟩)
      · exact g1_k0 (Or.inr ⟨q1, q2, q3⟩)

theorem dC_near_0 : decode (mB mC_near) 0 = .ok (.iload_n 1, 1) := op27 (by decide +kernel)
theorem dC_near_1 : decode (mB mC_near) 1 = .ok (.invokestatic 182, 3) := op184 0 182 (by decide +kernel)
theorem dC_near_4 : decode (mB mC_near) 4 = .ok (.ifCond .eq 17, 3) := op153 0 17 (by decide +kernel)
theorem dC_near_7 : decode (mB mC_near) 7 = .ok (.iload_n 2, 1) := op28 (by decide +kernel)
theorem dC_near_8 : decode (mB mC_near) 8 = .ok (.invokestatic 218, 3) := op184 0 218 (by decide +kernel)
theorem dC_near_11 : decode (mB mC_near) 11 = .ok (.ifCond .eq 10, 3) := op153 0 10 (by decide +kernel)
theorem dC_near_14 : decode (mB mC_near) 14 = .ok (.iload_n 3, 1) := op29 (by decide +kernel)
theorem dC_near_15 : decode (mB mC_near) 15 = .ok (.invokestatic 218, 3) := op184 0 218 (by decide +kernel)
theorem dC_near_18 : decode (mB mC_near) 18 = .ok (.ifCond .ne 5, 3) := op154 0 5 (by decide +kernel)
theorem dC_near_21 : decode (mB mC_near) 21 = .ok (.iconst (-1), 1) := op2 (by decide +kernel)
theorem dC_near_22 : decode (mB mC_near) 22 = .ok (.ireturn, 1) := op172 (by decide +kernel)
theorem dC_near_23 : decode (mB mC_near) 23 = .ok (.aload_n 0, 1) := op42 (by decide +kernel)
theorem dC_near_24 : decode (mB mC_near) 24 = .ok (.invokevirtual 212, 3) := op182 0 212 (by decide +kernel)
theorem dC_near_27 : decode (mB mC_near) 27 = .ok (.bipush (-4), 2) := op16 252 (by decide +kernel)
theorem dC_near_29 : decode (mB mC_near) 29 = .ok (.istore 4, 2) := op54 4 (by decide +kernel)
theorem dC_near_31 : decode (mB mC_near) 31 = .ok (.bipush 7, 2) := op16 7 (by decide +kernel)
theorem dC_near_33 : decode (mB mC_near) 33 = .ok (.istore 5, 2) := op54 5 (by decide +kernel)
theorem dC_near_35 : decode (mB mC_near) 35 = .ok (.iconst 0, 1) := op3 (by decide +kernel)
theorem dC_near_36 : decode (mB mC_near) 36 = .ok (.istore 6, 2) := op54 6 (by decide +kernel)
theorem dC_near_38 : decode (mB mC_near) 38 = .ok (.iload 6, 2) := op21 6 (by decide +kernel)
theorem dC_near_40 : decode (mB mC_near) 40 = .ok (.bipush 64, 2) := op16 64 (by decide +kernel)
theorem dC_near_42 : decode (mB mC_near) 42 = .ok (.if_icmp .ge 46, 3) := op162 0 46 (by decide +kernel)
theorem dC_near_45 : decode (mB mC_near) 45 = .ok (.iload_n 1, 1) := op27 (by decide +kernel)
theorem dC_near_46 : decode (mB mC_near) 46 = .ok (.iload 6, 2) := op21 6 (by decide +kernel)
theorem dC_near_48 : decode (mB mC_near) 48 = .ok (.ixor, 1) := op130 (by decide +kernel)
theorem dC_near_49 : decode (mB mC_near) 49 = .ok (.invokestatic 269, 3) := op184 1 13 (by decide +kernel)
theorem dC_near_52 : decode (mB mC_near) 52 = .ok (.istore 7, 2) := op54 7 (by decide +kernel)
theorem dC_near_54 : decode (mB mC_near) 54 = .ok (.iload 7, 2) := op21 7 (by decide +kernel)
theorem dC_near_56 : decode (mB mC_near) 56 = .ok (.iload 5, 2) := op21 5 (by decide +kernel)
theorem dC_near_58 : decode (mB mC_near) 58 = .ok (.if_icmp .ge 24, 3) := op162 0 24 (by decide +kernel)
theorem dC_near_61 : decode (mB mC_near) 61 = .ok (.aload_n 0, 1) := op42 (by decide +kernel)
theorem dC_near_62 : decode (mB mC_near) 62 = .ok (.getfield 73, 3) := op180 0 73 (by decide +kernel)
theorem dC_near_65 : decode (mB mC_near) 65 = .ok (.iload 6, 2) := op21 6 (by decide +kernel)
theorem dC_near_67 : decode (mB mC_near) 67 = .ok (.invokevirtual 273, 3) := op182 1 17 (by decide +kernel)
theorem dC_near_70 : decode (mB mC_near) 70 = .ok (.iload_n 2, 1) := op28 (by decide +kernel)
theorem dC_near_71 : decode (mB mC_near) 71 = .ok (.if_icmp .ne 11, 3) := op160 0 11 (by decide +kernel)
theorem dC_near_74 : decode (mB mC_near) 74 = .ok (.iload 6, 2) := op21 6 (by decide +kernel)
theorem dC_near_76 : decode (mB mC_near) 76 = .ok (.istore 4, 2) := op54 4 (by decide +kernel)
theorem dC_near_78 : decode (mB mC_near) 78 = .ok (.iload 7, 2) := op21 7 (by decide +kernel)
theorem dC_near_80 : decode (mB mC_near) 80 = .ok (.istore 5, 2) := op54 5 (by decide +kernel)
theorem dC_near_82 : decode (mB mC_near) 82 = .ok (.iinc 6 1, 3) := op132 6 1 (by decide +kernel)
theorem dC_near_85 : decode (mB mC_near) 85 = .ok (.goto (-47), 3) := op167 255 209 (by decide +kernel)
theorem dC_near_88 : decode (mB mC_near) 88 = .ok (.iload 4, 2) := op21 4 (by decide +kernel)
theorem dC_near_90 : decode (mB mC_near) 90 = .ok (.bipush (-4), 2) := op16 252 (by decide +kernel)
theorem dC_near_92 : decode (mB mC_near) 92 = .ok (.if_icmp .eq 7, 3) := op159 0 7 (by decide +kernel)
theorem dC_near_95 : decode (mB mC_near) 95 = .ok (.iload_n 3, 1) := op29 (by decide +kernel)
theorem dC_near_96 : decode (mB mC_near) 96 = .ok (.ifCond .ne 8, 3) := op154 0 8 (by decide +kernel)
theorem dC_near_99 : decode (mB mC_near) 99 = .ok (.iload 4, 2) := op21 4 (by decide +kernel)
theorem dC_near_101 : decode (mB mC_near) 101 = .ok (.goto 5, 3) := op167 0 5 (by decide +kernel)
theorem dC_near_104 : decode (mB mC_near) 104 = .ok (.iload 5, 2) := op21 5 (by decide +kernel)
theorem dC_near_106 : decode (mB mC_near) 106 = .ok (.ireturn, 1) := op172 (by decide +kernel)

theorem vC_near_0 {M : Mm} {b : Nat × Nat} {K : Int32 → Mm → Prop} {v0 : Nat} {v1 : Int32} {v2 : Int32} {v3 : Int32}  
    (h : CI mC_isCase [.int v1] M (fun rv N => X mC_near 4 [(0, .ref v0), (1, .int v1), (2, .int v2), (3, .int v3)] [.int rv] N b (QI K))) : X mC_near 0 [(0, .ref v0), (1, .int v1), (2, .int v2), (3, .int v3)] [] M b (QI K) := by
  refine x_wf (fun hw => ?_)
  refine x_iload_n (pc := 0) dC_near_0 rfl (q := 1) rfl ?_
  exact x_invS (pc := 1) dC_near_1 (S := []) (As := [.int v1]) mlC_182 hC_isCase rfl ⟨by decide, by decide⟩ ⟨Nat.zero_le _, Nat.zero_le _⟩ rfl (Nat.le_of_ble_eq_true rfl) (aftI (b' := b) ⟨Nat.le_refl _, Nat.le_refl _⟩ (fun rv N h => h) h)

theorem vC_near_4 {M : Mm} {b : Nat × Nat} {K : Int32 → Mm → Prop} {v0 : Nat} {v1 : Int32} {v2 : Int32} {v3 : Int32} {w0 : Int32}  
    (h : (w0 = 0 → (K (-1) M)) ∧ (¬ w0 = 0 → (CI mC_isEither [.int v2] M (fun rv N => X mC_near 11 [(0, .ref v0), (1, .int v1), (2, .int v2), (3, .int v3)] [.int rv] N b (QI K))))) : X mC_near 4 [(0, .ref v0), (1, .int v1), (2, .int v2), (3, .int v3)] [.int w0] M b (QI K) := by
  refine x_wf (fun hw => ?_)
  obtain ⟨g1_0, g1_1⟩ := h
  refine x_if_eq (pc := 4) dC_near_4 (t := 21) rfl (fun q1 => ?_) (fun q1 => ?_)
  · have h := g1_0 q1
    refine x_iconst (pc := 21) dC_near_21 (v := (-1)) rfl ?_
    exact x_retQI (pc := 22) dC_near_22 rfl rfl h
  · refine x_iload_n (pc := 7) dC_near_7 rfl (q := 2) rfl ?_
    have h := g1_1 q1
    exact x_invS (pc := 8) dC_near_8 (S := []) (As := [.int v2]) mlC_218 hC_isEither rfl ⟨by decide, by decide⟩ ⟨Nat.zero_le _, Nat.zero_le _⟩ rfl (Nat.le_of_ble_eq_true rfl) (aftI (b' := b) ⟨Nat.le_refl _, Nat.le_refl _⟩ (fun rv N h => h) h)

theorem vC_near_11 {M : Mm} {b : Nat × Nat} {K : Int32 → Mm → Prop} {v0 : Nat} {v1 : Int32} {v2 : Int32} {v3 : Int32} {w0 : Int32}  
    (h : (w0 = 0 → (K (-1) M)) ∧ (¬ w0 = 0 → (CI mC_isEither [.int v3] M (fun rv N => X mC_near 18 [(0, .ref v0), (1, .int v1), (2, .int v2), (3, .int v3)] [.int rv] N b (QI K))))) : X mC_near 11 [(0, .ref v0), (1, .int v1), (2, .int v2), (3, .int v3)] [.int w0] M b (QI K) := by
  refine x_wf (fun hw => ?_)
  obtain ⟨g1_0, g1_1⟩ := h
  refine x_if_eq (pc := 11) dC_near_11 (t := 21) rfl (fun q1 => ?_) (fun q1 => ?_)
  · have h := g1_0 q1
    refine x_iconst (pc := 21) dC_near_21 (v := (-1)) rfl ?_
    exact x_retQI (pc := 22) dC_near_22 rfl rfl h
  · refine x_iload_n (pc := 14) dC_near_14 rfl (q := 3) rfl ?_
    have h := g1_1 q1
    exact x_invS (pc := 15) dC_near_15 (S := []) (As := [.int v3]) mlC_218 hC_isEither rfl ⟨by decide, by decide⟩ ⟨Nat.zero_le _, Nat.zero_le _⟩ rfl (Nat.le_of_ble_eq_true rfl) (aftI (b' := b) ⟨Nat.le_refl _, Nat.le_refl _⟩ (fun rv N h => h) h)

theorem vC_near_18 {M : Mm} {b : Nat × Nat} {K : Int32 → Mm → Prop} {v0 : Nat} {v1 : Int32} {v2 : Int32} {v3 : Int32} {w0 : Int32} (kv0 : v0 % 64 = 10) 
    (h : (¬ w0 = 0 → (CV mC_weighNow [.ref v0] M (fun N => X mC_near 27 [(0, .ref v0), (1, .int v1), (2, .int v2), (3, .int v3)] [] N b (QI K)))) ∧ (w0 = 0 → (K (-1) M))) : X mC_near 18 [(0, .ref v0), (1, .int v1), (2, .int v2), (3, .int v3)] [.int w0] M b (QI K) := by
  refine x_wf (fun hw => ?_)
  obtain ⟨g1_0, g1_1⟩ := h
  refine x_if_ne (pc := 18) dC_near_18 (t := 23) rfl (fun q1 => ?_) (fun q1 => ?_)
  · refine x_aload_n (pc := 23) dC_near_23 rfl (q := 0) rfl ?_
    have h := g1_0 q1
    exact x_invV (pc := 24) dC_near_24 (c := 10) (S := []) (As := []) mlC_212 hC_weighNow rfl (by decide) rfl kv0 ⟨by decide, by decide⟩ ⟨Nat.zero_le _, Nat.zero_le _⟩ rfl (Nat.le_of_ble_eq_true rfl) (aftV (b' := b) ⟨Nat.le_refl _, Nat.le_refl _⟩ (fun N h => h) h)
  · have h := g1_1 q1
    refine x_iconst (pc := 21) dC_near_21 (v := (-1)) rfl ?_
    exact x_retQI (pc := 22) dC_near_22 rfl rfl h

theorem vC_near_27 {M : Mm} {b : Nat × Nat} {K : Int32 → Mm → Prop} {v0 : Nat} {v1 : Int32} {v2 : Int32} {v3 : Int32}  
    (h : X mC_near 38 [(0, .ref v0), (1, .int v1), (2, .int v2), (3, .int v3), (4, .int (-4)), (5, .int 7), (6, .int 0)] [] M b (QI K)) : X mC_near 27 [(0, .ref v0), (1, .int v1), (2, .int v2), (3, .int v3)] [] M b (QI K) := by
  refine x_wf (fun hw => ?_)
  refine x_bipush (pc := 27) dC_near_27 (v := (-4)) rfl ?_
  refine x_istore (pc := 29) dC_near_29 (by decide) (L' := [(4, .int (-4)), (0, .ref v0), (1, .int v1), (2, .int v2), (3, .int v3)]) rfl ?_
  refine x_bipush (pc := 31) dC_near_31 (v := 7) rfl ?_
  refine x_istore (pc := 33) dC_near_33 (by decide) (L' := [(5, .int 7), (4, .int (-4)), (0, .ref v0), (1, .int v1), (2, .int v2), (3, .int v3)]) rfl ?_
  refine x_iconst (pc := 35) dC_near_35 (v := 0) rfl ?_
  refine x_istore (pc := 36) dC_near_36 (by decide) (L' := [(6, .int 0), (5, .int 7), (4, .int (-4)), (0, .ref v0), (1, .int v1), (2, .int v2), (3, .int v3)]) rfl ?_
  exact x_loc [3, 4, 5, 6, 2, 1, 0] rfl h

theorem vC_near_38 {M : Mm} {b : Nat × Nat} {K : Int32 → Mm → Prop} {v0 : Nat} {v1 : Int32} {v2 : Int32} {v3 : Int32} {v4 : Int32} {v5 : Int32} {v6 : Int32}  
    (h : (((64 ≤ v6 ∧ v4 = (-4)) ∨ (64 ≤ v6 ∧ ¬ v4 = (-4) ∧ v3 = 0)) → (K v4 M)) ∧ ((64 ≤ v6 ∧ ¬ v4 = (-4) ∧ ¬ v3 = 0) → (K v5 M)) ∧ (¬ 64 ≤ v6 → (CI mJi_bitCount [.int (v1 ^^^ v6)] M (fun rv N => X mC_near 52 [(0, .ref v0), (1, .int v1), (2, .int v2), (3, .int v3), (4, .int v4), (5, .int v5), (6, .int v6)] [.int rv] N b (QI K))))) : X mC_near 38 [(0, .ref v0), (1, .int v1), (2, .int v2), (3, .int v3), (4, .int v4), (5, .int v5), (6, .int v6)] [] M b (QI K) := by
  refine x_wf (fun hw => ?_)
  refine x_iload (pc := 38) dC_near_38 (q := 6) rfl ?_
  refine x_bipush (pc := 40) dC_near_40 (v := 64) rfl ?_
  obtain ⟨g1_0, g1_1, g1_2⟩ := h
  have g1_k0 : (64 ≤ v6 ∧ v4 = (-4)) ∨ (64 ≤ v6 ∧ ¬ v4 = (-4) ∧ v3 = 0) → X mC_near 99 [(0, .ref v0), (1, .int v1), (2, .int v2), (3, .int v3), (4, .int v4), (5, .int v5), (6, .int v6)] [] M b (QI K) := fun q => by
    have h := g1_0 q
    refine x_iload (pc := 99) dC_near_99 (q := 4) rfl ?_
    refine x_goto (pc := 101) dC_near_101 (t := 106) rfl ?_
    exact x_retQI (pc := 106) dC_near_106 rfl rfl h
  refine x_icmp_ge (pc := 42) dC_near_42 (t := 88) rfl (fun q1 => ?_) (fun q1 => ?_)
  · refine x_iload (pc := 88) dC_near_88 (q := 4) rfl ?_
    refine x_bipush (pc := 90) dC_near_90 (v := (-4)) rfl ?_
    refine x_icmp_eq (pc := 92) dC_near_92 (t := 99) rfl (fun q2 => ?_) (fun q2 => ?_)
    · exact g1_k0 (Or.inl ⟨q1, q2⟩)
    · refine x_iload_n (pc := 95) dC_near_95 rfl (q := 3) rfl ?_
      refine x_if_ne (pc := 96) dC_near_96 (t := 104) rfl (fun q3 => ?_) (fun q3 => ?_)
      · refine x_iload (pc := 104) dC_near_104 (q := 5) rfl ?_
        have h := g1_1 ⟨q1, q2, q3⟩
        exact x_retQI (pc := 106) dC_near_106 rfl rfl h
      · exact g1_k0 (Or.inr ⟨q1, q2, q3⟩)
  · refine x_iload_n (pc := 45) dC_near_45 rfl (q := 1) rfl ?_
    refine x_iload (pc := 46) dC_near_46 (q := 6) rfl ?_
    refine x_ixor (pc := 48) dC_near_48 ?_
    have h := g1_2 q1
    exact x_invS (pc := 49) dC_near_49 (S := []) (As := [.int (v1 ^^^ v6)]) mlC_269 hJi_bitCount rfl ⟨by decide, by decide⟩ ⟨Nat.zero_le _, Nat.zero_le _⟩ rfl (Nat.le_of_ble_eq_true rfl) (aftI (b' := b) ⟨Nat.le_refl _, Nat.le_refl _⟩ (fun rv N h => h) h)

theorem vC_near_52 {M : Mm} {b : Nat × Nat} {K : Int32 → Mm → Prop} {v0 : Nat} {v1 : Int32} {v2 : Int32} {v3 : Int32} {v4 : Int32} {v5 : Int32} {v6 : Int32} {w0 : Int32} {r1 : Nat} (kv0 : v0 % 64 = 10) (e1 : gr M v0 11 = some r1)
    (h : (v5 ≤ w0 → (X mC_near 38 [(0, .ref v0), (1, .int v1), (2, .int v2), (3, .int v3), (4, .int v4), (5, .int v5), (6, .int (v6 + 1))] [] M b (QI K))) ∧ (¬ v5 ≤ w0 → (CI mWe_heldIn [.ref r1, .int v6] M (fun rv N => X mC_near 70 [(0, .ref v0), (1, .int v1), (2, .int v2), (3, .int v3), (4, .int v4), (5, .int v5), (6, .int v6), (7, .int w0)] [.int rv] N b (QI K))))) : X mC_near 52 [(0, .ref v0), (1, .int v1), (2, .int v2), (3, .int v3), (4, .int v4), (5, .int v5), (6, .int v6)] [.int w0] M b (QI K) := by
  refine x_wf (fun hw => ?_)
  refine x_istore (pc := 52) dC_near_52 (by decide) (L' := [(7, .int w0), (0, .ref v0), (1, .int v1), (2, .int v2), (3, .int v3), (4, .int v4), (5, .int v5), (6, .int v6)]) rfl ?_
  refine x_iload (pc := 54) dC_near_54 (q := 0) rfl ?_
  refine x_iload (pc := 56) dC_near_56 (q := 6) rfl ?_
  obtain ⟨g1_0, g1_1⟩ := h
  refine x_icmp_ge (pc := 58) dC_near_58 (t := 82) rfl (fun q1 => ?_) (fun q1 => ?_)
  · have h := g1_0 q1
    refine x_iinc (pc := 82) dC_near_82 (q := 7) rfl (v := v6 + 1) rfl (by decide) (L' := [(6, .int (v6 + 1)), (7, .int w0), (0, .ref v0), (1, .int v1), (2, .int v2), (3, .int v3), (4, .int v4), (5, .int v5)]) rfl ?_
    refine x_goto (pc := 85) dC_near_85 (t := 38) rfl ?_
    exact x_loc [2, 3, 4, 5, 6, 7, 0] rfl h
  · refine x_aload_n (pc := 61) dC_near_61 rfl (q := 1) rfl ?_
    refine x_getR (pc := 62) dC_near_62 kv0 flC_73 rfl e1 ?_
    refine x_iload (pc := 65) dC_near_65 (q := 7) rfl ?_
    have h := g1_1 q1
    exact x_invV (pc := 67) dC_near_67 (c := 8) (S := []) (As := [.int v6]) mlC_273 hWe_heldIn rfl (by decide) rfl (wfk hw e1 kv0) ⟨by decide, by decide⟩ ⟨Nat.zero_le _, Nat.zero_le _⟩ rfl (Nat.le_of_ble_eq_true rfl) (aftI (b' := b) ⟨Nat.le_refl _, Nat.le_refl _⟩ (fun rv N h => x_loc [1, 2, 3, 4, 5, 6, 7, 0] rfl h) h)

theorem vC_near_70 {M : Mm} {b : Nat × Nat} {K : Int32 → Mm → Prop} {v0 : Nat} {v1 : Int32} {v2 : Int32} {v3 : Int32} {v4 : Int32} {v5 : Int32} {v6 : Int32} {v7 : Int32} {w0 : Int32}  
    (h : (¬ w0 = v2 → (X mC_near 38 [(0, .ref v0), (1, .int v1), (2, .int v2), (3, .int v3), (4, .int v4), (5, .int v5), (6, .int (v6 + 1))] [] M b (QI K))) ∧ (w0 = v2 → (X mC_near 38 [(0, .ref v0), (1, .int v1), (2, .int v2), (3, .int v3), (4, .int v6), (5, .int v7), (6, .int (v6 + 1))] [] M b (QI K)))) : X mC_near 70 [(0, .ref v0), (1, .int v1), (2, .int v2), (3, .int v3), (4, .int v4), (5, .int v5), (6, .int v6), (7, .int v7)] [.int w0] M b (QI K) := by
  refine x_wf (fun hw => ?_)
  refine x_iload_n (pc := 70) dC_near_70 rfl (q := 2) rfl ?_
  obtain ⟨g1_0, g1_1⟩ := h
  refine x_icmp_ne (pc := 71) dC_near_71 (t := 82) rfl (fun q1 => ?_) (fun q1 => ?_)
  · have h := g1_0 q1
    refine x_iinc (pc := 82) dC_near_82 (q := 6) rfl (v := v6 + 1) rfl (by decide) (L' := [(6, .int (v6 + 1)), (0, .ref v0), (1, .int v1), (2, .int v2), (3, .int v3), (4, .int v4), (5, .int v5), (7, .int v7)]) rfl ?_
    refine x_goto (pc := 85) dC_near_85 (t := 38) rfl ?_
    exact x_loc [1, 2, 3, 4, 5, 6, 0] rfl h
  · refine x_iload (pc := 74) dC_near_74 (q := 6) rfl ?_
    have h := g1_1 q1
    refine x_istore (pc := 76) dC_near_76 (by decide) (L' := [(4, .int v6), (0, .ref v0), (1, .int v1), (2, .int v2), (3, .int v3), (5, .int v5), (6, .int v6), (7, .int v7)]) rfl ?_
    refine x_iload (pc := 78) dC_near_78 (q := 7) rfl ?_
    refine x_istore (pc := 80) dC_near_80 (by decide) (L' := [(5, .int v7), (4, .int v6), (0, .ref v0), (1, .int v1), (2, .int v2), (3, .int v3), (6, .int v6), (7, .int v7)]) rfl ?_
    refine x_iinc (pc := 82) dC_near_82 (q := 6) rfl (v := v6 + 1) rfl (by decide) (L' := [(6, .int (v6 + 1)), (5, .int v7), (4, .int v6), (0, .ref v0), (1, .int v1), (2, .int v2), (3, .int v3), (7, .int v7)]) rfl ?_
    refine x_goto (pc := 85) dC_near_85 (t := 38) rfl ?_
    exact x_loc [3, 4, 5, 6, 2, 1, 0] rfl h

theorem dC_bring_0 : decode (mB mC_bring) 0 = .ok (.iload_n 1, 1) := op27 (by decide +kernel)
theorem dC_bring_1 : decode (mB mC_bring) 1 = .ok (.ifCond .lt 10, 3) := op155 0 10 (by decide +kernel)
theorem dC_bring_4 : decode (mB mC_bring) 4 = .ok (.iload_n 1, 1) := op27 (by decide +kernel)
theorem dC_bring_5 : decode (mB mC_bring) 5 = .ok (.sipush 255, 3) := op17 0 255 (by decide +kernel)
theorem dC_bring_8 : decode (mB mC_bring) 8 = .ok (.if_icmp .le 5, 3) := op164 0 5 (by decide +kernel)
theorem dC_bring_11 : decode (mB mC_bring) 11 = .ok (.iconst (-1), 1) := op2 (by decide +kernel)
theorem dC_bring_12 : decode (mB mC_bring) 12 = .ok (.ireturn, 1) := op172 (by decide +kernel)
theorem dC_bring_13 : decode (mB mC_bring) 13 = .ok (.aload_n 0, 1) := op42 (by decide +kernel)
theorem dC_bring_14 : decode (mB mC_bring) 14 = .ok (.getfield 64, 3) := op180 0 64 (by decide +kernel)
theorem dC_bring_17 : decode (mB mC_bring) 17 = .ok (.istore_n 2, 1) := op61 (by decide +kernel)
theorem dC_bring_18 : decode (mB mC_bring) 18 = .ok (.aload_n 0, 1) := op42 (by decide +kernel)
theorem dC_bring_19 : decode (mB mC_bring) 19 = .ok (.iload_n 1, 1) := op27 (by decide +kernel)
theorem dC_bring_20 : decode (mB mC_bring) 20 = .ok (.putfield 64, 3) := op181 0 64 (by decide +kernel)
theorem dC_bring_23 : decode (mB mC_bring) 23 = .ok (.iload_n 2, 1) := op28 (by decide +kernel)
theorem dC_bring_24 : decode (mB mC_bring) 24 = .ok (.ireturn, 1) := op172 (by decide +kernel)

theorem vC_bring_0 {M : Mm} {b : Nat × Nat} {K : Int32 → Mm → Prop} {v0 : Nat} {v1 : Int32} (kv0 : v0 % 64 = 10) 
    (h : (((v1 < 0) ∨ (¬ v1 < 0 ∧ ¬ v1 ≤ 255)) → (K (-1) M)) ∧ ((¬ v1 < 0 ∧ v1 ≤ 255) → (K (gi M v0 9) (si M v0 9 v1)))) : X mC_bring 0 [(0, .ref v0), (1, .int v1)] [] M b (QI K) := by
  refine x_wf (fun hw => ?_)
  refine x_iload_n (pc := 0) dC_bring_0 rfl (q := 1) rfl ?_
  obtain ⟨g1_0, g1_1⟩ := h
  have g1_k0 : (v1 < 0) ∨ (¬ v1 < 0 ∧ ¬ v1 ≤ 255) → X mC_bring 11 [(0, .ref v0), (1, .int v1)] [] M b (QI K) := fun q => by
    have h := g1_0 q
    refine x_iconst (pc := 11) dC_bring_11 (v := (-1)) rfl ?_
    exact x_retQI (pc := 12) dC_bring_12 rfl rfl h
  refine x_if_lt (pc := 1) dC_bring_1 (t := 11) rfl (fun q1 => ?_) (fun q1 => ?_)
  · exact g1_k0 (Or.inl q1)
  · refine x_iload_n (pc := 4) dC_bring_4 rfl (q := 1) rfl ?_
    refine x_sipush (pc := 5) dC_bring_5 (v := 255) rfl ?_
    refine x_icmp_le (pc := 8) dC_bring_8 (t := 13) rfl (fun q2 => ?_) (fun q2 => ?_)
    · refine x_aload_n (pc := 13) dC_bring_13 rfl (q := 0) rfl ?_
      refine x_getI (pc := 14) dC_bring_14 kv0 flC_64 rfl ?_
      have h := g1_1 ⟨q1, q2⟩
      refine x_istore_n (pc := 17) dC_bring_17 rfl (by decide) (L' := [(2, .int (gi M v0 9)), (0, .ref v0), (1, .int v1)]) rfl ?_
      refine x_aload_n (pc := 18) dC_bring_18 rfl (q := 1) rfl ?_
      refine x_iload_n (pc := 19) dC_bring_19 rfl (q := 2) rfl ?_
      refine x_putI (pc := 20) dC_bring_20 kv0 flC_64 rfl rfl ?_
      refine x_iload_n (pc := 23) dC_bring_23 rfl (q := 0) rfl ?_
      exact x_retQI (pc := 24) dC_bring_24 rfl rfl h
    · exact g1_k0 (Or.inr ⟨q1, q2⟩)

theorem dC_copies_0 : decode (mB mC_copies) 0 = .ok (.iload_n 1, 1) := op27 (by decide +kernel)
theorem dC_copies_1 : decode (mB mC_copies) 1 = .ok (.ifCond .lt 19, 3) := op155 0 19 (by decide +kernel)
theorem dC_copies_4 : decode (mB mC_copies) 4 = .ok (.iload_n 1, 1) := op27 (by decide +kernel)
theorem dC_copies_5 : decode (mB mC_copies) 5 = .ok (.bipush 8, 2) := op16 8 (by decide +kernel)
theorem dC_copies_7 : decode (mB mC_copies) 7 = .ok (.if_icmp .ge 13, 3) := op162 0 13 (by decide +kernel)
theorem dC_copies_10 : decode (mB mC_copies) 10 = .ok (.iload_n 2, 1) := op28 (by decide +kernel)
theorem dC_copies_11 : decode (mB mC_copies) 11 = .ok (.ifCond .lt 9, 3) := op155 0 9 (by decide +kernel)
theorem dC_copies_14 : decode (mB mC_copies) 14 = .ok (.iload_n 2, 1) := op28 (by decide +kernel)
theorem dC_copies_15 : decode (mB mC_copies) 15 = .ok (.bipush 9, 2) := op16 9 (by decide +kernel)
theorem dC_copies_17 : decode (mB mC_copies) 17 = .ok (.if_icmp .le 5, 3) := op164 0 5 (by decide +kernel)
theorem dC_copies_20 : decode (mB mC_copies) 20 = .ok (.iconst (-1), 1) := op2 (by decide +kernel)
theorem dC_copies_21 : decode (mB mC_copies) 21 = .ok (.ireturn, 1) := op172 (by decide +kernel)
theorem dC_copies_22 : decode (mB mC_copies) 22 = .ok (.aload_n 0, 1) := op42 (by decide +kernel)
theorem dC_copies_23 : decode (mB mC_copies) 23 = .ok (.getfield 44, 3) := op180 0 44 (by decide +kernel)
theorem dC_copies_26 : decode (mB mC_copies) 26 = .ok (.getfield 276, 3) := op180 1 20 (by decide +kernel)
theorem dC_copies_29 : decode (mB mC_copies) 29 = .ok (.iload_n 1, 1) := op27 (by decide +kernel)
theorem dC_copies_30 : decode (mB mC_copies) 30 = .ok (.iaload, 1) := op46 (by decide +kernel)
theorem dC_copies_31 : decode (mB mC_copies) 31 = .ok (.istore_n 3, 1) := op62 (by decide +kernel)
theorem dC_copies_32 : decode (mB mC_copies) 32 = .ok (.aload_n 0, 1) := op42 (by decide +kernel)
theorem dC_copies_33 : decode (mB mC_copies) 33 = .ok (.getfield 44, 3) := op180 0 44 (by decide +kernel)
theorem dC_copies_36 : decode (mB mC_copies) 36 = .ok (.getfield 276, 3) := op180 1 20 (by decide +kernel)
theorem dC_copies_39 : decode (mB mC_copies) 39 = .ok (.iload_n 1, 1) := op27 (by decide +kernel)
theorem dC_copies_40 : decode (mB mC_copies) 40 = .ok (.iload_n 2, 1) := op28 (by decide +kernel)
theorem dC_copies_41 : decode (mB mC_copies) 41 = .ok (.iastore, 1) := op79 (by decide +kernel)
theorem dC_copies_42 : decode (mB mC_copies) 42 = .ok (.iload_n 3, 1) := op29 (by decide +kernel)
theorem dC_copies_43 : decode (mB mC_copies) 43 = .ok (.ireturn, 1) := op172 (by decide +kernel)

theorem vC_copies_0 {M : Mm} {b : Nat × Nat} {K : Int32 → Mm → Prop} {v0 : Nat} {v1 : Int32} {v2 : Int32} {r1 : Nat} {r2 : Nat} (kv0 : v0 % 64 = 10) (e1 : gr M v0 4 = some r1) (e2 : gr M r1 2 = some r2)
    (h : (¬ v1 < 0 ∧ ¬ 8 ≤ v1 ∧ ¬ v2 < 0 ∧ v2 ≤ 9 → vp_in v1 8) ∧ (((v1 < 0) ∨ (¬ v1 < 0 ∧ 8 ≤ v1) ∨ (¬ v1 < 0 ∧ ¬ 8 ≤ v1 ∧ v2 < 0) ∨ (¬ v1 < 0 ∧ ¬ 8 ≤ v1 ∧ ¬ v2 < 0 ∧ ¬ v2 ≤ 9)) → (K (-1) M)) ∧ ((¬ v1 < 0 ∧ ¬ 8 ≤ v1 ∧ ¬ v2 < 0 ∧ v2 ≤ 9) → (vp_in v1 8 ∧ (K (gi M r2 (v1).toNatClampNeg) (si M r2 (v1).toNatClampNeg v2))))) : X mC_copies 0 [(0, .ref v0), (1, .int v1), (2, .int v2)] [] M b (QI K) := by
  refine x_wf (fun hw => ?_)
  refine x_iload_n (pc := 0) dC_copies_0 rfl (q := 1) rfl ?_
  obtain ⟨s1, g1_0, g1_1⟩ := h
  have g1_k0 : (v1 < 0) ∨ (¬ v1 < 0 ∧ 8 ≤ v1) ∨ (¬ v1 < 0 ∧ ¬ 8 ≤ v1 ∧ v2 < 0) ∨ (¬ v1 < 0 ∧ ¬ 8 ≤ v1 ∧ ¬ v2 < 0 ∧ ¬ v2 ≤ 9) → X mC_copies 20 [(0, .ref v0), (1, .int v1), (2, .int v2)] [] M b (QI K) := fun q => by
    have h := g1_0 q
    refine x_iconst (pc := 20) dC_copies_20 (v := (-1)) rfl ?_
    exact x_retQI (pc := 21) dC_copies_21 rfl rfl h
  refine x_if_lt (pc := 1) dC_copies_1 (t := 20) rfl (fun q1 => ?_) (fun q1 => ?_)
  · exact g1_k0 (Or.inl q1)
  · refine x_iload_n (pc := 4) dC_copies_4 rfl (q := 1) rfl ?_
    refine x_bipush (pc := 5) dC_copies_5 (v := 8) rfl ?_
    refine x_icmp_ge (pc := 7) dC_copies_7 (t := 20) rfl (fun q2 => ?_) (fun q2 => ?_)
    · exact g1_k0 (Or.inr (Or.inl ⟨q1, q2⟩))
    · refine x_iload_n (pc := 10) dC_copies_10 rfl (q := 2) rfl ?_
      refine x_if_lt (pc := 11) dC_copies_11 (t := 20) rfl (fun q3 => ?_) (fun q3 => ?_)
      · exact g1_k0 (Or.inr (Or.inr (Or.inl ⟨q1, q2, q3⟩)))
      · refine x_iload_n (pc := 14) dC_copies_14 rfl (q := 2) rfl ?_
        refine x_bipush (pc := 15) dC_copies_15 (v := 9) rfl ?_
        refine x_icmp_le (pc := 17) dC_copies_17 (t := 22) rfl (fun q4 => ?_) (fun q4 => ?_)
        · refine x_aload_n (pc := 22) dC_copies_22 rfl (q := 0) rfl ?_
          refine x_getR (pc := 23) dC_copies_23 kv0 flC_44 rfl e1 ?_
          refine x_getR (pc := 26) dC_copies_26 (wfk hw e1 kv0) flC_276 rfl e2 ?_
          refine x_iload_n (pc := 29) dC_copies_29 rfl (q := 1) rfl ?_
          refine x_aldIj (pc := 30) (j := (v1).toNatClampNeg) (Or.inl ⟨rfl, rfl⟩) dC_copies_30 (wfk hw e2 (wfk hw e1 kv0)) ak_13 rfl (s1 ⟨q1, q2, q3, q4⟩) ?_
          have h := g1_1 ⟨q1, q2, q3, q4⟩
          refine x_istore_n (pc := 31) dC_copies_31 rfl (by decide) (L' := [(3, .int (gi M r2 (v1).toNatClampNeg)), (0, .ref v0), (1, .int v1), (2, .int v2)]) rfl ?_
          refine x_aload_n (pc := 32) dC_copies_32 rfl (q := 1) rfl ?_
          refine x_getR (pc := 33) dC_copies_33 kv0 flC_44 rfl e1 ?_
          refine x_getR (pc := 36) dC_copies_36 (wfk hw e1 kv0) flC_276 rfl e2 ?_
          refine x_iload_n (pc := 39) dC_copies_39 rfl (q := 2) rfl ?_
          refine x_iload_n (pc := 40) dC_copies_40 rfl (q := 3) rfl ?_
          obtain ⟨s502, h⟩ := h
          refine x_astIj (pc := 41) (j := (v1).toNatClampNeg) (v := v2) (Or.inl ⟨rfl, rfl, rfl⟩) dC_copies_41 (wfk hw e2 (wfk hw e1 kv0)) ak_13 rfl s502 ?_
          refine x_iload_n (pc := 42) dC_copies_42 rfl (q := 0) rfl ?_
          exact x_retQI (pc := 43) dC_copies_43 rfl rfl h
        · exact g1_k0 (Or.inr (Or.inr (Or.inr ⟨q1, q2, q3, q4⟩)))

theorem dC_argue_0 : decode (mB mC_argue) 0 = .ok (.iload_n 1, 1) := op27 (by decide +kernel)
theorem dC_argue_1 : decode (mB mC_argue) 1 = .ok (.invokestatic 182, 3) := op184 0 182 (by decide +kernel)
theorem dC_argue_4 : decode (mB mC_argue) 4 = .ok (.ifCond .eq 17, 3) := op153 0 17 (by decide +kernel)
theorem dC_argue_7 : decode (mB mC_argue) 7 = .ok (.iload_n 2, 1) := op28 (by decide +kernel)
theorem dC_argue_8 : decode (mB mC_argue) 8 = .ok (.invokestatic 218, 3) := op184 0 218 (by decide +kernel)
theorem dC_argue_11 : decode (mB mC_argue) 11 = .ok (.ifCond .eq 10, 3) := op153 0 10 (by decide +kernel)
theorem dC_argue_14 : decode (mB mC_argue) 14 = .ok (.iload_n 3, 1) := op29 (by decide +kernel)
theorem dC_argue_15 : decode (mB mC_argue) 15 = .ok (.invokestatic 218, 3) := op184 0 218 (by decide +kernel)
theorem dC_argue_18 : decode (mB mC_argue) 18 = .ok (.ifCond .ne 5, 3) := op154 0 5 (by decide +kernel)
theorem dC_argue_21 : decode (mB mC_argue) 21 = .ok (.iconst (-1), 1) := op2 (by decide +kernel)
theorem dC_argue_22 : decode (mB mC_argue) 22 = .ok (.ireturn, 1) := op172 (by decide +kernel)
theorem dC_argue_23 : decode (mB mC_argue) 23 = .ok (.aload_n 0, 1) := op42 (by decide +kernel)
theorem dC_argue_24 : decode (mB mC_argue) 24 = .ok (.iload_n 1, 1) := op27 (by decide +kernel)
theorem dC_argue_25 : decode (mB mC_argue) 25 = .ok (.iload_n 2, 1) := op28 (by decide +kernel)
theorem dC_argue_26 : decode (mB mC_argue) 26 = .ok (.invokevirtual 279, 3) := op182 1 23 (by decide +kernel)
theorem dC_argue_29 : decode (mB mC_argue) 29 = .ok (.istore 4, 2) := op54 4 (by decide +kernel)
theorem dC_argue_31 : decode (mB mC_argue) 31 = .ok (.iload 4, 2) := op21 4 (by decide +kernel)
theorem dC_argue_33 : decode (mB mC_argue) 33 = .ok (.ifCond .ge 6, 3) := op156 0 6 (by decide +kernel)
theorem dC_argue_36 : decode (mB mC_argue) 36 = .ok (.bipush (-4), 2) := op16 252 (by decide +kernel)
theorem dC_argue_38 : decode (mB mC_argue) 38 = .ok (.ireturn, 1) := op172 (by decide +kernel)
theorem dC_argue_39 : decode (mB mC_argue) 39 = .ok (.iload_n 3, 1) := op29 (by decide +kernel)
theorem dC_argue_40 : decode (mB mC_argue) 40 = .ok (.ifCond .ne 11, 3) := op154 0 11 (by decide +kernel)
theorem dC_argue_43 : decode (mB mC_argue) 43 = .ok (.iload 4, 2) := op21 4 (by decide +kernel)
theorem dC_argue_45 : decode (mB mC_argue) 45 = .ok (.invokestatic 269, 3) := op184 1 13 (by decide +kernel)
theorem dC_argue_48 : decode (mB mC_argue) 48 = .ok (.goto 5, 3) := op167 0 5 (by decide +kernel)
theorem dC_argue_51 : decode (mB mC_argue) 51 = .ok (.iload 4, 2) := op21 4 (by decide +kernel)
theorem dC_argue_53 : decode (mB mC_argue) 53 = .ok (.ireturn, 1) := op172 (by decide +kernel)

theorem vC_argue_0 {M : Mm} {b : Nat × Nat} {K : Int32 → Mm → Prop} {v0 : Nat} {v1 : Int32} {v2 : Int32} {v3 : Int32}  
    (h : CI mC_isCase [.int v1] M (fun rv N => X mC_argue 4 [(0, .ref v0), (1, .int v1), (2, .int v2), (3, .int v3)] [.int rv] N b (QI K))) : X mC_argue 0 [(0, .ref v0), (1, .int v1), (2, .int v2), (3, .int v3)] [] M b (QI K) := by
  refine x_wf (fun hw => ?_)
  refine x_iload_n (pc := 0) dC_argue_0 rfl (q := 1) rfl ?_
  exact x_invS (pc := 1) dC_argue_1 (S := []) (As := [.int v1]) mlC_182 hC_isCase rfl ⟨by decide, by decide⟩ ⟨Nat.zero_le _, Nat.zero_le _⟩ rfl (Nat.le_of_ble_eq_true rfl) (aftI (b' := b) ⟨Nat.le_refl _, Nat.le_refl _⟩ (fun rv N h => h) h)

theorem vC_argue_4 {M : Mm} {b : Nat × Nat} {K : Int32 → Mm → Prop} {v0 : Nat} {v1 : Int32} {v2 : Int32} {v3 : Int32} {w0 : Int32}  
    (h : (w0 = 0 → (K (-1) M)) ∧ (¬ w0 = 0 → (CI mC_isEither [.int v2] M (fun rv N => X mC_argue 11 [(0, .ref v0), (1, .int v1), (2, .int v2), (3, .int v3)] [.int rv] N b (QI K))))) : X mC_argue 4 [(0, .ref v0), (1, .int v1), (2, .int v2), (3, .int v3)] [.int w0] M b (QI K) := by
  refine x_wf (fun hw => ?_)
  obtain ⟨g1_0, g1_1⟩ := h
  refine x_if_eq (pc := 4) dC_argue_4 (t := 21) rfl (fun q1 => ?_) (fun q1 => ?_)
  · have h := g1_0 q1
    refine x_iconst (pc := 21) dC_argue_21 (v := (-1)) rfl ?_
    exact x_retQI (pc := 22) dC_argue_22 rfl rfl h
  · refine x_iload_n (pc := 7) dC_argue_7 rfl (q := 2) rfl ?_
    have h := g1_1 q1
    exact x_invS (pc := 8) dC_argue_8 (S := []) (As := [.int v2]) mlC_218 hC_isEither rfl ⟨by decide, by decide⟩ ⟨Nat.zero_le _, Nat.zero_le _⟩ rfl (Nat.le_of_ble_eq_true rfl) (aftI (b' := b) ⟨Nat.le_refl _, Nat.le_refl _⟩ (fun rv N h => h) h)

theorem vC_argue_11 {M : Mm} {b : Nat × Nat} {K : Int32 → Mm → Prop} {v0 : Nat} {v1 : Int32} {v2 : Int32} {v3 : Int32} {w0 : Int32}  
    (h : (w0 = 0 → (K (-1) M)) ∧ (¬ w0 = 0 → (CI mC_isEither [.int v3] M (fun rv N => X mC_argue 18 [(0, .ref v0), (1, .int v1), (2, .int v2), (3, .int v3)] [.int rv] N b (QI K))))) : X mC_argue 11 [(0, .ref v0), (1, .int v1), (2, .int v2), (3, .int v3)] [.int w0] M b (QI K) := by
  refine x_wf (fun hw => ?_)
  obtain ⟨g1_0, g1_1⟩ := h
  refine x_if_eq (pc := 11) dC_argue_11 (t := 21) rfl (fun q1 => ?_) (fun q1 => ?_)
  · have h := g1_0 q1
    refine x_iconst (pc := 21) dC_argue_21 (v := (-1)) rfl ?_
    exact x_retQI (pc := 22) dC_argue_22 rfl rfl h
  · refine x_iload_n (pc := 14) dC_argue_14 rfl (q := 3) rfl ?_
    have h := g1_1 q1
    exact x_invS (pc := 15) dC_argue_15 (S := []) (As := [.int v3]) mlC_218 hC_isEither rfl ⟨by decide, by decide⟩ ⟨Nat.zero_le _, Nat.zero_le _⟩ rfl (Nat.le_of_ble_eq_true rfl) (aftI (b' := b) ⟨Nat.le_refl _, Nat.le_refl _⟩ (fun rv N h => h) h)

theorem vC_argue_18 {M : Mm} {b : Nat × Nat} {K : Int32 → Mm → Prop} {v0 : Nat} {v1 : Int32} {v2 : Int32} {v3 : Int32} {w0 : Int32} (kv0 : v0 % 64 = 10) 
    (h : (¬ w0 = 0 → (CI mC_fewestBooks [.ref v0, .int v1, .int v2] M (fun rv N => X mC_argue 29 [(3, .int v3)] [.int rv] N b (QI K)))) ∧ (w0 = 0 → (K (-1) M))) : X mC_argue 18 [(0, .ref v0), (1, .int v1), (2, .int v2), (3, .int v3)] [.int w0] M b (QI K) := by
  refine x_wf (fun hw => ?_)
  obtain ⟨g1_0, g1_1⟩ := h
  refine x_if_ne (pc := 18) dC_argue_18 (t := 23) rfl (fun q1 => ?_) (fun q1 => ?_)
  · refine x_aload_n (pc := 23) dC_argue_23 rfl (q := 0) rfl ?_
    refine x_iload_n (pc := 24) dC_argue_24 rfl (q := 1) rfl ?_
    refine x_iload_n (pc := 25) dC_argue_25 rfl (q := 2) rfl ?_
    have h := g1_0 q1
    exact x_invV (pc := 26) dC_argue_26 (c := 10) (S := []) (As := [.int v1, .int v2]) mlC_279 hC_fewestBooks rfl (by decide) rfl kv0 ⟨by decide, by decide⟩ ⟨Nat.zero_le _, Nat.zero_le _⟩ rfl (Nat.le_of_ble_eq_true rfl) (aftI (b' := b) ⟨Nat.le_refl _, Nat.le_refl _⟩ (fun rv N h => x_loc [3] rfl h) h)
  · have h := g1_1 q1
    refine x_iconst (pc := 21) dC_argue_21 (v := (-1)) rfl ?_
    exact x_retQI (pc := 22) dC_argue_22 rfl rfl h

theorem vC_argue_29 {M : Mm} {b : Nat × Nat} {K : Int32 → Mm → Prop} {v3 : Int32} {w0 : Int32}  
    (h : ((0 ≤ w0 ∧ ¬ v3 = 0) → (K w0 M)) ∧ ((0 ≤ w0 ∧ v3 = 0) → (CI mJi_bitCount [.int w0] M (fun rv N => X mC_argue 48 [] [.int rv] N b (QI K)))) ∧ (¬ 0 ≤ w0 → (K (-4) M))) : X mC_argue 29 [(3, .int v3)] [.int w0] M b (QI K) := by
  refine x_wf (fun hw => ?_)
  refine x_istore (pc := 29) dC_argue_29 (by decide) (L' := [(4, .int w0), (3, .int v3)]) rfl ?_
  refine x_iload (pc := 31) dC_argue_31 (q := 0) rfl ?_
  obtain ⟨g1_0, g1_1, g1_2⟩ := h
  refine x_if_ge (pc := 33) dC_argue_33 (t := 39) rfl (fun q1 => ?_) (fun q1 => ?_)
  · refine x_iload_n (pc := 39) dC_argue_39 rfl (q := 1) rfl ?_
    refine x_if_ne (pc := 40) dC_argue_40 (t := 51) rfl (fun q2 => ?_) (fun q2 => ?_)
    · refine x_iload (pc := 51) dC_argue_51 (q := 0) rfl ?_
      have h := g1_0 ⟨q1, q2⟩
      exact x_retQI (pc := 53) dC_argue_53 rfl rfl h
    · refine x_iload (pc := 43) dC_argue_43 (q := 0) rfl ?_
      have h := g1_1 ⟨q1, q2⟩
      exact x_invS (pc := 45) dC_argue_45 (S := []) (As := [.int w0]) mlC_269 hJi_bitCount rfl ⟨by decide, by decide⟩ ⟨Nat.zero_le _, Nat.zero_le _⟩ rfl (Nat.le_of_ble_eq_true rfl) (aftI (b' := b) ⟨Nat.le_refl _, Nat.le_refl _⟩ (fun rv N h => x_loc [] rfl h) h)
  · refine x_bipush (pc := 36) dC_argue_36 (v := (-4)) rfl ?_
    have h := g1_2 q1
    exact x_retQI (pc := 38) dC_argue_38 rfl rfl h

theorem vC_argue_48 {M : Mm} {b : Nat × Nat} {K : Int32 → Mm → Prop} {w0 : Int32}  
    (h : K w0 M) : X mC_argue 48 [] [.int w0] M b (QI K) := by
  refine x_wf (fun hw => ?_)
  refine x_goto (pc := 48) dC_argue_48 (t := 53) rfl ?_
  exact x_retQI (pc := 53) dC_argue_53 rfl rfl h

theorem dC_fewestBooks_0 : decode (mB mC_fewestBooks) 0 = .ok (.aload_n 0, 1) := op42 (by decide +kernel)
theorem dC_fewestBooks_1 : decode (mB mC_fewestBooks) 1 = .ok (.getfield 44, 3) := op180 0 44 (by decide +kernel)
theorem dC_fewestBooks_4 : decode (mB mC_fewestBooks) 4 = .ok (.aload_n 0, 1) := op42 (by decide +kernel)
theorem dC_fewestBooks_5 : decode (mB mC_fewestBooks) 5 = .ok (.getfield 54, 3) := op180 0 54 (by decide +kernel)
theorem dC_fewestBooks_8 : decode (mB mC_fewestBooks) 8 = .ok (.invokevirtual 282, 3) := op182 1 26 (by decide +kernel)
theorem dC_fewestBooks_11 : decode (mB mC_fewestBooks) 11 = .ok (.istore_n 3, 1) := op62 (by decide +kernel)
theorem dC_fewestBooks_12 : decode (mB mC_fewestBooks) 12 = .ok (.iconst (-1), 1) := op2 (by decide +kernel)
theorem dC_fewestBooks_13 : decode (mB mC_fewestBooks) 13 = .ok (.istore 4, 2) := op54 4 (by decide +kernel)
theorem dC_fewestBooks_15 : decode (mB mC_fewestBooks) 15 = .ok (.bipush 9, 2) := op16 9 (by decide +kernel)
theorem dC_fewestBooks_17 : decode (mB mC_fewestBooks) 17 = .ok (.istore 5, 2) := op54 5 (by decide +kernel)
theorem dC_fewestBooks_19 : decode (mB mC_fewestBooks) 19 = .ok (.iconst 0, 1) := op3 (by decide +kernel)
theorem dC_fewestBooks_20 : decode (mB mC_fewestBooks) 20 = .ok (.istore 6, 2) := op54 6 (by decide +kernel)
theorem dC_fewestBooks_22 : decode (mB mC_fewestBooks) 22 = .ok (.iload 6, 2) := op21 6 (by decide +kernel)
theorem dC_fewestBooks_24 : decode (mB mC_fewestBooks) 24 = .ok (.sipush 255, 3) := op17 0 255 (by decide +kernel)
theorem dC_fewestBooks_27 : decode (mB mC_fewestBooks) 27 = .ok (.if_icmp .gt 68, 3) := op163 0 68 (by decide +kernel)
theorem dC_fewestBooks_30 : decode (mB mC_fewestBooks) 30 = .ok (.iload 6, 2) := op21 6 (by decide +kernel)
theorem dC_fewestBooks_32 : decode (mB mC_fewestBooks) 32 = .ok (.iload_n 3, 1) := op29 (by decide +kernel)
theorem dC_fewestBooks_33 : decode (mB mC_fewestBooks) 33 = .ok (.iconst (-1), 1) := op2 (by decide +kernel)
theorem dC_fewestBooks_34 : decode (mB mC_fewestBooks) 34 = .ok (.ixor, 1) := op130 (by decide +kernel)
theorem dC_fewestBooks_35 : decode (mB mC_fewestBooks) 35 = .ok (.iand, 1) := op126 (by decide +kernel)
theorem dC_fewestBooks_36 : decode (mB mC_fewestBooks) 36 = .ok (.ifCond .ne 53, 3) := op154 0 53 (by decide +kernel)
theorem dC_fewestBooks_39 : decode (mB mC_fewestBooks) 39 = .ok (.iload 6, 2) := op21 6 (by decide +kernel)
theorem dC_fewestBooks_41 : decode (mB mC_fewestBooks) 41 = .ok (.invokestatic 269, 3) := op184 1 13 (by decide +kernel)
theorem dC_fewestBooks_44 : decode (mB mC_fewestBooks) 44 = .ok (.iload 5, 2) := op21 5 (by decide +kernel)
theorem dC_fewestBooks_46 : decode (mB mC_fewestBooks) 46 = .ok (.if_icmp .ge 43, 3) := op162 0 43 (by decide +kernel)
theorem dC_fewestBooks_49 : decode (mB mC_fewestBooks) 49 = .ok (.aload_n 0, 1) := op42 (by decide +kernel)
theorem dC_fewestBooks_50 : decode (mB mC_fewestBooks) 50 = .ok (.getfield 73, 3) := op180 0 73 (by decide +kernel)
theorem dC_fewestBooks_53 : decode (mB mC_fewestBooks) 53 = .ok (.aload_n 0, 1) := op42 (by decide +kernel)
theorem dC_fewestBooks_54 : decode (mB mC_fewestBooks) 54 = .ok (.getfield 44, 3) := op180 0 44 (by decide +kernel)
theorem dC_fewestBooks_57 : decode (mB mC_fewestBooks) 57 = .ok (.aload_n 0, 1) := op42 (by decide +kernel)
theorem dC_fewestBooks_58 : decode (mB mC_fewestBooks) 58 = .ok (.getfield 54, 3) := op180 0 54 (by decide +kernel)
theorem dC_fewestBooks_61 : decode (mB mC_fewestBooks) 61 = .ok (.iload 6, 2) := op21 6 (by decide +kernel)
theorem dC_fewestBooks_63 : decode (mB mC_fewestBooks) 63 = .ok (.invokevirtual 285, 3) := op182 1 29 (by decide +kernel)
theorem dC_fewestBooks_66 : decode (mB mC_fewestBooks) 66 = .ok (.aload_n 0, 1) := op42 (by decide +kernel)
theorem dC_fewestBooks_67 : decode (mB mC_fewestBooks) 67 = .ok (.getfield 73, 3) := op180 0 73 (by decide +kernel)
theorem dC_fewestBooks_70 : decode (mB mC_fewestBooks) 70 = .ok (.iload_n 1, 1) := op27 (by decide +kernel)
theorem dC_fewestBooks_71 : decode (mB mC_fewestBooks) 71 = .ok (.invokevirtual 273, 3) := op182 1 17 (by decide +kernel)
theorem dC_fewestBooks_74 : decode (mB mC_fewestBooks) 74 = .ok (.iload_n 2, 1) := op28 (by decide +kernel)
theorem dC_fewestBooks_75 : decode (mB mC_fewestBooks) 75 = .ok (.if_icmp .ne 14, 3) := op160 0 14 (by decide +kernel)
theorem dC_fewestBooks_78 : decode (mB mC_fewestBooks) 78 = .ok (.iload 6, 2) := op21 6 (by decide +kernel)
theorem dC_fewestBooks_80 : decode (mB mC_fewestBooks) 80 = .ok (.istore 4, 2) := op54 4 (by decide +kernel)
theorem dC_fewestBooks_82 : decode (mB mC_fewestBooks) 82 = .ok (.iload 6, 2) := op21 6 (by decide +kernel)
theorem dC_fewestBooks_84 : decode (mB mC_fewestBooks) 84 = .ok (.invokestatic 269, 3) := op184 1 13 (by decide +kernel)
theorem dC_fewestBooks_87 : decode (mB mC_fewestBooks) 87 = .ok (.istore 5, 2) := op54 5 (by decide +kernel)
theorem dC_fewestBooks_89 : decode (mB mC_fewestBooks) 89 = .ok (.iinc 6 1, 3) := op132 6 1 (by decide +kernel)
theorem dC_fewestBooks_92 : decode (mB mC_fewestBooks) 92 = .ok (.goto (-70), 3) := op167 255 186 (by decide +kernel)
theorem dC_fewestBooks_95 : decode (mB mC_fewestBooks) 95 = .ok (.iload 4, 2) := op21 4 (by decide +kernel)
theorem dC_fewestBooks_97 : decode (mB mC_fewestBooks) 97 = .ok (.ireturn, 1) := op172 (by decide +kernel)

theorem vC_fewestBooks_0 {M : Mm} {b : Nat × Nat} {K : Int32 → Mm → Prop} {v0 : Nat} {v1 : Int32} {v2 : Int32} {r1 : Nat} {r2 : Nat} (kv0 : v0 % 64 = 10) (e1 : gr M v0 4 = some r1) (e2 : gr M v0 6 = some r2)
    (h : CI mLi_tellingBooks [.ref r1, .ref r2] M (fun rv N => X mC_fewestBooks 11 [(0, .ref v0), (1, .int v1), (2, .int v2)] [.int rv] N b (QI K))) : X mC_fewestBooks 0 [(0, .ref v0), (1, .int v1), (2, .int v2)] [] M b (QI K) := by
  refine x_wf (fun hw => ?_)
  refine x_aload_n (pc := 0) dC_fewestBooks_0 rfl (q := 0) rfl ?_
  refine x_getR (pc := 1) dC_fewestBooks_1 kv0 flC_44 rfl e1 ?_
  refine x_aload_n (pc := 4) dC_fewestBooks_4 rfl (q := 0) rfl ?_
  refine x_getR (pc := 5) dC_fewestBooks_5 kv0 flC_54 rfl e2 ?_
  exact x_invV (pc := 8) dC_fewestBooks_8 (c := 1) (S := []) (As := [.ref r2]) mlC_282 hLi_tellingBooks rfl (by decide) rfl (wfk hw e1 kv0) ⟨by decide, by decide⟩ ⟨Nat.zero_le _, Nat.zero_le _⟩ rfl (Nat.le_of_ble_eq_true rfl) (aftI (b' := b) ⟨Nat.le_refl _, Nat.le_refl _⟩ (fun rv N h => h) h)

theorem vC_fewestBooks_11 {M : Mm} {b : Nat × Nat} {K : Int32 → Mm → Prop} {v0 : Nat} {v1 : Int32} {v2 : Int32} {w0 : Int32}  
    (h : X mC_fewestBooks 22 [(0, .ref v0), (1, .int v1), (2, .int v2), (3, .int w0), (4, .int (-1)), (5, .int 9), (6, .int 0)] [] M b (QI K)) : X mC_fewestBooks 11 [(0, .ref v0), (1, .int v1), (2, .int v2)] [.int w0] M b (QI K) := by
  refine x_wf (fun hw => ?_)
  refine x_istore_n (pc := 11) dC_fewestBooks_11 rfl (by decide) (L' := [(3, .int w0), (0, .ref v0), (1, .int v1), (2, .int v2)]) rfl ?_
  refine x_iconst (pc := 12) dC_fewestBooks_12 (v := (-1)) rfl ?_
  refine x_istore (pc := 13) dC_fewestBooks_13 (by decide) (L' := [(4, .int (-1)), (3, .int w0), (0, .ref v0), (1, .int v1), (2, .int v2)]) rfl ?_
  refine x_bipush (pc := 15) dC_fewestBooks_15 (v := 9) rfl ?_
  refine x_istore (pc := 17) dC_fewestBooks_17 (by decide) (L' := [(5, .int 9), (4, .int (-1)), (3, .int w0), (0, .ref v0), (1, .int v1), (2, .int v2)]) rfl ?_
  refine x_iconst (pc := 19) dC_fewestBooks_19 (v := 0) rfl ?_
  refine x_istore (pc := 20) dC_fewestBooks_20 (by decide) (L' := [(6, .int 0), (5, .int 9), (4, .int (-1)), (3, .int w0), (0, .ref v0), (1, .int v1), (2, .int v2)]) rfl ?_
  exact x_loc [4, 5, 6, 3, 2, 1, 0] rfl h

theorem vC_fewestBooks_22 {M : Mm} {b : Nat × Nat} {K : Int32 → Mm → Prop} {v0 : Nat} {v1 : Int32} {v2 : Int32} {v3 : Int32} {v4 : Int32} {v5 : Int32} {v6 : Int32}  
    (h : (255 < v6 → (K v4 M)) ∧ ((¬ 255 < v6 ∧ ¬ (v6 &&& (v3 ^^^ (-1))) = 0) → (X mC_fewestBooks 22 [(0, .ref v0), (1, .int v1), (2, .int v2), (3, .int v3), (4, .int v4), (5, .int v5), (6, .int (v6 + 1))] [] M b (QI K))) ∧ ((¬ 255 < v6 ∧ (v6 &&& (v3 ^^^ (-1))) = 0) → (CI mJi_bitCount [.int v6] M (fun rv N => X mC_fewestBooks 44 [(0, .ref v0), (1, .int v1), (2, .int v2), (3, .int v3), (4, .int v4), (5, .int v5), (6, .int v6)] [.int rv] N b (QI K))))) : X mC_fewestBooks 22 [(0, .ref v0), (1, .int v1), (2, .int v2), (3, .int v3), (4, .int v4), (5, .int v5), (6, .int v6)] [] M b (QI K) := by
  refine x_wf (fun hw => ?_)
  refine x_iload (pc := 22) dC_fewestBooks_22 (q := 6) rfl ?_
  refine x_sipush (pc := 24) dC_fewestBooks_24 (v := 255) rfl ?_
  obtain ⟨g1_0, g1_1, g1_2⟩ := h
  refine x_icmp_gt (pc := 27) dC_fewestBooks_27 (t := 95) rfl (fun q1 => ?_) (fun q1 => ?_)
  · refine x_iload (pc := 95) dC_fewestBooks_95 (q := 4) rfl ?_
    have h := g1_0 q1
    exact x_retQI (pc := 97) dC_fewestBooks_97 rfl rfl h
  · refine x_iload (pc := 30) dC_fewestBooks_30 (q := 6) rfl ?_
    refine x_iload_n (pc := 32) dC_fewestBooks_32 rfl (q := 3) rfl ?_
    refine x_iconst (pc := 33) dC_fewestBooks_33 (v := (-1)) rfl ?_
    refine x_ixor (pc := 34) dC_fewestBooks_34 ?_
    refine x_iand (pc := 35) dC_fewestBooks_35 ?_
    refine x_if_ne (pc := 36) dC_fewestBooks_36 (t := 89) rfl (fun q2 => ?_) (fun q2 => ?_)
    · have h := g1_1 ⟨q1, q2⟩
      refine x_iinc (pc := 89) dC_fewestBooks_89 (q := 6) rfl (v := v6 + 1) rfl (by decide) (L' := [(6, .int (v6 + 1)), (0, .ref v0), (1, .int v1), (2, .int v2), (3, .int v3), (4, .int v4), (5, .int v5)]) rfl ?_
      refine x_goto (pc := 92) dC_fewestBooks_92 (t := 22) rfl ?_
      exact x_loc [1, 2, 3, 4, 5, 6, 0] rfl h
    · refine x_iload (pc := 39) dC_fewestBooks_39 (q := 6) rfl ?_
      have h := g1_2 ⟨q1, q2⟩
      exact x_invS (pc := 41) dC_fewestBooks_41 (S := []) (As := [.int v6]) mlC_269 hJi_bitCount rfl ⟨by decide, by decide⟩ ⟨Nat.zero_le _, Nat.zero_le _⟩ rfl (Nat.le_of_ble_eq_true rfl) (aftI (b' := b) ⟨Nat.le_refl _, Nat.le_refl _⟩ (fun rv N h => h) h)

theorem vC_fewestBooks_44 {M : Mm} {b : Nat × Nat} {K : Int32 → Mm → Prop} {v0 : Nat} {v1 : Int32} {v2 : Int32} {v3 : Int32} {v4 : Int32} {v5 : Int32} {v6 : Int32} {w0 : Int32} {r1 : Nat} {r2 : Nat} {r3 : Nat} (kv0 : v0 % 64 = 10) (e1 : gr M v0 11 = some r1) (e2 : gr M v0 4 = some r2) (e3 : gr M v0 6 = some r3)
    (h : (v5 ≤ w0 → (X mC_fewestBooks 22 [(0, .ref v0), (1, .int v1), (2, .int v2), (3, .int v3), (4, .int v4), (5, .int v5), (6, .int (v6 + 1))] [] M b (QI K))) ∧ (¬ v5 ≤ w0 → (CV mWe_begin [.ref r1, .ref r2, .ref r3, .int v6] M (fun N => X mC_fewestBooks 66 [(0, .ref v0), (1, .int v1), (2, .int v2), (3, .int v3), (4, .int v4), (5, .int v5), (6, .int v6)] [] N b (QI K))))) : X mC_fewestBooks 44 [(0, .ref v0), (1, .int v1), (2, .int v2), (3, .int v3), (4, .int v4), (5, .int v5), (6, .int v6)] [.int w0] M b (QI K) := by
  refine x_wf (fun hw => ?_)
  refine x_iload (pc := 44) dC_fewestBooks_44 (q := 5) rfl ?_
  obtain ⟨g1_0, g1_1⟩ := h
  refine x_icmp_ge (pc := 46) dC_fewestBooks_46 (t := 89) rfl (fun q1 => ?_) (fun q1 => ?_)
  · have h := g1_0 q1
    refine x_iinc (pc := 89) dC_fewestBooks_89 (q := 6) rfl (v := v6 + 1) rfl (by decide) (L' := [(6, .int (v6 + 1)), (0, .ref v0), (1, .int v1), (2, .int v2), (3, .int v3), (4, .int v4), (5, .int v5)]) rfl ?_
    refine x_goto (pc := 92) dC_fewestBooks_92 (t := 22) rfl ?_
    exact x_loc [1, 2, 3, 4, 5, 6, 0] rfl h
  · refine x_aload_n (pc := 49) dC_fewestBooks_49 rfl (q := 0) rfl ?_
    refine x_getR (pc := 50) dC_fewestBooks_50 kv0 flC_73 rfl e1 ?_
    refine x_aload_n (pc := 53) dC_fewestBooks_53 rfl (q := 0) rfl ?_
    refine x_getR (pc := 54) dC_fewestBooks_54 kv0 flC_44 rfl e2 ?_
    refine x_aload_n (pc := 57) dC_fewestBooks_57 rfl (q := 0) rfl ?_
    refine x_getR (pc := 58) dC_fewestBooks_58 kv0 flC_54 rfl e3 ?_
    refine x_iload (pc := 61) dC_fewestBooks_61 (q := 6) rfl ?_
    have h := g1_1 q1
    exact x_invV (pc := 63) dC_fewestBooks_63 (c := 8) (S := []) (As := [.ref r2, .ref r3, .int v6]) mlC_285 hWe_begin rfl (by decide) rfl (wfk hw e1 kv0) ⟨by decide, by decide⟩ ⟨Nat.zero_le _, Nat.zero_le _⟩ rfl (Nat.le_of_ble_eq_true rfl) (aftV (b' := b) ⟨Nat.le_refl _, Nat.le_refl _⟩ (fun N h => h) h)

theorem vC_fewestBooks_66 {M : Mm} {b : Nat × Nat} {K : Int32 → Mm → Prop} {v0 : Nat} {v1 : Int32} {v2 : Int32} {v3 : Int32} {v4 : Int32} {v5 : Int32} {v6 : Int32} {r1 : Nat} (kv0 : v0 % 64 = 10) (e1 : gr M v0 11 = some r1)
    (h : CI mWe_heldIn [.ref r1, .int v1] M (fun rv N => X mC_fewestBooks 74 [(0, .ref v0), (1, .int v1), (2, .int v2), (3, .int v3), (4, .int v4), (5, .int v5), (6, .int v6)] [.int rv] N b (QI K))) : X mC_fewestBooks 66 [(0, .ref v0), (1, .int v1), (2, .int v2), (3, .int v3), (4, .int v4), (5, .int v5), (6, .int v6)] [] M b (QI K) := by
  refine x_wf (fun hw => ?_)
  refine x_aload_n (pc := 66) dC_fewestBooks_66 rfl (q := 0) rfl ?_
  refine x_getR (pc := 67) dC_fewestBooks_67 kv0 flC_73 rfl e1 ?_
  refine x_iload_n (pc := 70) dC_fewestBooks_70 rfl (q := 1) rfl ?_
  exact x_invV (pc := 71) dC_fewestBooks_71 (c := 8) (S := []) (As := [.int v1]) mlC_273 hWe_heldIn rfl (by decide) rfl (wfk hw e1 kv0) ⟨by decide, by decide⟩ ⟨Nat.zero_le _, Nat.zero_le _⟩ rfl (Nat.le_of_ble_eq_true rfl) (aftI (b' := b) ⟨Nat.le_refl _, Nat.le_refl _⟩ (fun rv N h => h) h)

theorem vC_fewestBooks_74 {M : Mm} {b : Nat × Nat} {K : Int32 → Mm → Prop} {v0 : Nat} {v1 : Int32} {v2 : Int32} {v3 : Int32} {v4 : Int32} {v5 : Int32} {v6 : Int32} {w0 : Int32}  
    (h : (¬ w0 = v2 → (X mC_fewestBooks 22 [(0, .ref v0), (1, .int v1), (2, .int v2), (3, .int v3), (4, .int v4), (5, .int v5), (6, .int (v6 + 1))] [] M b (QI K))) ∧ (w0 = v2 → (CI mJi_bitCount [.int v6] M (fun rv N => X mC_fewestBooks 87 [(0, .ref v0), (1, .int v1), (2, .int v2), (3, .int v3), (4, .int v6), (6, .int v6)] [.int rv] N b (QI K))))) : X mC_fewestBooks 74 [(0, .ref v0), (1, .int v1), (2, .int v2), (3, .int v3), (4, .int v4), (5, .int v5), (6, .int v6)] [.int w0] M b (QI K) := by
  refine x_wf (fun hw => ?_)
  refine x_iload_n (pc := 74) dC_fewestBooks_74 rfl (q := 2) rfl ?_
  obtain ⟨g1_0, g1_1⟩ := h
  refine x_icmp_ne (pc := 75) dC_fewestBooks_75 (t := 89) rfl (fun q1 => ?_) (fun q1 => ?_)
  · have h := g1_0 q1
    refine x_iinc (pc := 89) dC_fewestBooks_89 (q := 6) rfl (v := v6 + 1) rfl (by decide) (L' := [(6, .int (v6 + 1)), (0, .ref v0), (1, .int v1), (2, .int v2), (3, .int v3), (4, .int v4), (5, .int v5)]) rfl ?_
    refine x_goto (pc := 92) dC_fewestBooks_92 (t := 22) rfl ?_
    exact x_loc [1, 2, 3, 4, 5, 6, 0] rfl h
  · refine x_iload (pc := 78) dC_fewestBooks_78 (q := 6) rfl ?_
    have h := g1_1 q1
    refine x_istore (pc := 80) dC_fewestBooks_80 (by decide) (L' := [(4, .int v6), (0, .ref v0), (1, .int v1), (2, .int v2), (3, .int v3), (5, .int v5), (6, .int v6)]) rfl ?_
    refine x_iload (pc := 82) dC_fewestBooks_82 (q := 6) rfl ?_
    exact x_invS (pc := 84) dC_fewestBooks_84 (S := []) (As := [.int v6]) mlC_269 hJi_bitCount rfl ⟨by decide, by decide⟩ ⟨Nat.zero_le _, Nat.zero_le _⟩ rfl (Nat.le_of_ble_eq_true rfl) (aftI (b' := b) ⟨Nat.le_refl _, Nat.le_refl _⟩ (fun rv N h => x_loc [1, 2, 3, 4, 0, 6] rfl h) h)

theorem vC_fewestBooks_87 {M : Mm} {b : Nat × Nat} {K : Int32 → Mm → Prop} {v0 : Nat} {v1 : Int32} {v2 : Int32} {v3 : Int32} {v4 : Int32} {v6 : Int32} {w0 : Int32}  
    (h : X mC_fewestBooks 22 [(0, .ref v0), (1, .int v1), (2, .int v2), (3, .int v3), (4, .int v4), (5, .int w0), (6, .int (v6 + 1))] [] M b (QI K)) : X mC_fewestBooks 87 [(0, .ref v0), (1, .int v1), (2, .int v2), (3, .int v3), (4, .int v4), (6, .int v6)] [.int w0] M b (QI K) := by
  refine x_wf (fun hw => ?_)
  refine x_istore (pc := 87) dC_fewestBooks_87 (by decide) (L' := [(5, .int w0), (0, .ref v0), (1, .int v1), (2, .int v2), (3, .int v3), (4, .int v4), (6, .int v6)]) rfl ?_
  refine x_iinc (pc := 89) dC_fewestBooks_89 (q := 6) rfl (v := v6 + 1) rfl (by decide) (L' := [(6, .int (v6 + 1)), (5, .int w0), (0, .ref v0), (1, .int v1), (2, .int v2), (3, .int v3), (4, .int v4)]) rfl ?_
  refine x_goto (pc := 92) dC_fewestBooks_92 (t := 22) rfl ?_
  exact x_loc [2, 3, 4, 5, 6, 1, 0] rfl h

theorem dC_game_0 : decode (mB mC_game) 0 = .ok (.iload_n 1, 1) := op27 (by decide +kernel)
theorem dC_game_1 : decode (mB mC_game) 1 = .ok (.invokestatic 182, 3) := op184 0 182 (by decide +kernel)
theorem dC_game_4 : decode (mB mC_game) 4 = .ok (.ifCond .eq 17, 3) := op153 0 17 (by decide +kernel)
theorem dC_game_7 : decode (mB mC_game) 7 = .ok (.iload_n 2, 1) := op28 (by decide +kernel)
theorem dC_game_8 : decode (mB mC_game) 8 = .ok (.invokestatic 218, 3) := op184 0 218 (by decide +kernel)
theorem dC_game_11 : decode (mB mC_game) 11 = .ok (.ifCond .eq 10, 3) := op153 0 10 (by decide +kernel)
theorem dC_game_14 : decode (mB mC_game) 14 = .ok (.iload_n 3, 1) := op29 (by decide +kernel)
theorem dC_game_15 : decode (mB mC_game) 15 = .ok (.invokestatic 218, 3) := op184 0 218 (by decide +kernel)
theorem dC_game_18 : decode (mB mC_game) 18 = .ok (.ifCond .ne 5, 3) := op154 0 5 (by decide +kernel)
theorem dC_game_21 : decode (mB mC_game) 21 = .ok (.iconst (-1), 1) := op2 (by decide +kernel)
theorem dC_game_22 : decode (mB mC_game) 22 = .ok (.ireturn, 1) := op172 (by decide +kernel)
theorem dC_game_23 : decode (mB mC_game) 23 = .ok (.aload_n 0, 1) := op42 (by decide +kernel)
theorem dC_game_24 : decode (mB mC_game) 24 = .ok (.getfield 73, 3) := op180 0 73 (by decide +kernel)
theorem dC_game_27 : decode (mB mC_game) 27 = .ok (.aload_n 0, 1) := op42 (by decide +kernel)
theorem dC_game_28 : decode (mB mC_game) 28 = .ok (.getfield 44, 3) := op180 0 44 (by decide +kernel)
theorem dC_game_31 : decode (mB mC_game) 31 = .ok (.aload_n 0, 1) := op42 (by decide +kernel)
theorem dC_game_32 : decode (mB mC_game) 32 = .ok (.getfield 54, 3) := op180 0 54 (by decide +kernel)
theorem dC_game_35 : decode (mB mC_game) 35 = .ok (.bipush 63, 2) := op16 63 (by decide +kernel)
theorem dC_game_37 : decode (mB mC_game) 37 = .ok (.invokevirtual 285, 3) := op182 1 29 (by decide +kernel)
theorem dC_game_40 : decode (mB mC_game) 40 = .ok (.iload_n 3, 1) := op29 (by decide +kernel)
theorem dC_game_41 : decode (mB mC_game) 41 = .ok (.ifCond .ne 14, 3) := op154 0 14 (by decide +kernel)
theorem dC_game_44 : decode (mB mC_game) 44 = .ok (.aload_n 0, 1) := op42 (by decide +kernel)
theorem dC_game_45 : decode (mB mC_game) 45 = .ok (.getfield 73, 3) := op180 0 73 (by decide +kernel)
theorem dC_game_48 : decode (mB mC_game) 48 = .ok (.iload_n 1, 1) := op27 (by decide +kernel)
theorem dC_game_49 : decode (mB mC_game) 49 = .ok (.invokevirtual 273, 3) := op182 1 17 (by decide +kernel)
theorem dC_game_52 : decode (mB mC_game) 52 = .ok (.goto 4, 3) := op167 0 4 (by decide +kernel)
theorem dC_game_55 : decode (mB mC_game) 55 = .ok (.iconst 0, 1) := op3 (by decide +kernel)
theorem dC_game_56 : decode (mB mC_game) 56 = .ok (.ireturn, 1) := op172 (by decide +kernel)

theorem vC_game_0 {M : Mm} {b : Nat × Nat} {K : Int32 → Mm → Prop} {v0 : Nat} {v1 : Int32} {v2 : Int32} {v3 : Int32}  
    (h : CI mC_isCase [.int v1] M (fun rv N => X mC_game 4 [(0, .ref v0), (1, .int v1), (2, .int v2), (3, .int v3)] [.int rv] N b (QI K))) : X mC_game 0 [(0, .ref v0), (1, .int v1), (2, .int v2), (3, .int v3)] [] M b (QI K) := by
  refine x_wf (fun hw => ?_)
  refine x_iload_n (pc := 0) dC_game_0 rfl (q := 1) rfl ?_
  exact x_invS (pc := 1) dC_game_1 (S := []) (As := [.int v1]) mlC_182 hC_isCase rfl ⟨by decide, by decide⟩ ⟨Nat.zero_le _, Nat.zero_le _⟩ rfl (Nat.le_of_ble_eq_true rfl) (aftI (b' := b) ⟨Nat.le_refl _, Nat.le_refl _⟩ (fun rv N h => h) h)

theorem vC_game_4 {M : Mm} {b : Nat × Nat} {K : Int32 → Mm → Prop} {v0 : Nat} {v1 : Int32} {v2 : Int32} {v3 : Int32} {w0 : Int32}  
    (h : (w0 = 0 → (K (-1) M)) ∧ (¬ w0 = 0 → (CI mC_isEither [.int v2] M (fun rv N => X mC_game 11 [(0, .ref v0), (1, .int v1), (3, .int v3)] [.int rv] N b (QI K))))) : X mC_game 4 [(0, .ref v0), (1, .int v1), (2, .int v2), (3, .int v3)] [.int w0] M b (QI K) := by
  refine x_wf (fun hw => ?_)
  obtain ⟨g1_0, g1_1⟩ := h
  refine x_if_eq (pc := 4) dC_game_4 (t := 21) rfl (fun q1 => ?_) (fun q1 => ?_)
  · have h := g1_0 q1
    refine x_iconst (pc := 21) dC_game_21 (v := (-1)) rfl ?_
    exact x_retQI (pc := 22) dC_game_22 rfl rfl h
  · refine x_iload_n (pc := 7) dC_game_7 rfl (q := 2) rfl ?_
    have h := g1_1 q1
    exact x_invS (pc := 8) dC_game_8 (S := []) (As := [.int v2]) mlC_218 hC_isEither rfl ⟨by decide, by decide⟩ ⟨Nat.zero_le _, Nat.zero_le _⟩ rfl (Nat.le_of_ble_eq_true rfl) (aftI (b' := b) ⟨Nat.le_refl _, Nat.le_refl _⟩ (fun rv N h => x_loc [0, 1, 3] rfl h) h)

theorem vC_game_11 {M : Mm} {b : Nat × Nat} {K : Int32 → Mm → Prop} {v0 : Nat} {v1 : Int32} {v3 : Int32} {w0 : Int32}  
    (h : (w0 = 0 → (K (-1) M)) ∧ (¬ w0 = 0 → (CI mC_isEither [.int v3] M (fun rv N => X mC_game 18 [(0, .ref v0), (1, .int v1), (3, .int v3)] [.int rv] N b (QI K))))) : X mC_game 11 [(0, .ref v0), (1, .int v1), (3, .int v3)] [.int w0] M b (QI K) := by
  refine x_wf (fun hw => ?_)
  obtain ⟨g1_0, g1_1⟩ := h
  refine x_if_eq (pc := 11) dC_game_11 (t := 21) rfl (fun q1 => ?_) (fun q1 => ?_)
  · have h := g1_0 q1
    refine x_iconst (pc := 21) dC_game_21 (v := (-1)) rfl ?_
    exact x_retQI (pc := 22) dC_game_22 rfl rfl h
  · refine x_iload_n (pc := 14) dC_game_14 rfl (q := 2) rfl ?_
    have h := g1_1 q1
    exact x_invS (pc := 15) dC_game_15 (S := []) (As := [.int v3]) mlC_218 hC_isEither rfl ⟨by decide, by decide⟩ ⟨Nat.zero_le _, Nat.zero_le _⟩ rfl (Nat.le_of_ble_eq_true rfl) (aftI (b' := b) ⟨Nat.le_refl _, Nat.le_refl _⟩ (fun rv N h => h) h)

theorem vC_game_18 {M : Mm} {b : Nat × Nat} {K : Int32 → Mm → Prop} {v0 : Nat} {v1 : Int32} {v3 : Int32} {w0 : Int32} {r1 : Nat} {r2 : Nat} {r3 : Nat} (kv0 : v0 % 64 = 10) (e1 : gr M v0 11 = some r1) (e2 : gr M v0 4 = some r2) (e3 : gr M v0 6 = some r3)
    (h : (¬ w0 = 0 → (CV mWe_begin [.ref r1, .ref r2, .ref r3, .int 63] M (fun N => X mC_game 40 [(0, .ref v0), (1, .int v1), (3, .int v3)] [] N b (QI K)))) ∧ (w0 = 0 → (K (-1) M))) : X mC_game 18 [(0, .ref v0), (1, .int v1), (3, .int v3)] [.int w0] M b (QI K) := by
  refine x_wf (fun hw => ?_)
  obtain ⟨g1_0, g1_1⟩ := h
  refine x_if_ne (pc := 18) dC_game_18 (t := 23) rfl (fun q1 => ?_) (fun q1 => ?_)
  · refine x_aload_n (pc := 23) dC_game_23 rfl (q := 0) rfl ?_
    refine x_getR (pc := 24) dC_game_24 kv0 flC_73 rfl e1 ?_
    refine x_aload_n (pc := 27) dC_game_27 rfl (q := 0) rfl ?_
    refine x_getR (pc := 28) dC_game_28 kv0 flC_44 rfl e2 ?_
    refine x_aload_n (pc := 31) dC_game_31 rfl (q := 0) rfl ?_
    refine x_getR (pc := 32) dC_game_32 kv0 flC_54 rfl e3 ?_
    refine x_bipush (pc := 35) dC_game_35 (v := 63) rfl ?_
    have h := g1_0 q1
    exact x_invV (pc := 37) dC_game_37 (c := 8) (S := []) (As := [.ref r2, .ref r3, .int 63]) mlC_285 hWe_begin rfl (by decide) rfl (wfk hw e1 kv0) ⟨by decide, by decide⟩ ⟨Nat.zero_le _, Nat.zero_le _⟩ rfl (Nat.le_of_ble_eq_true rfl) (aftV (b' := b) ⟨Nat.le_refl _, Nat.le_refl _⟩ (fun N h => h) h)
  · have h := g1_1 q1
    refine x_iconst (pc := 21) dC_game_21 (v := (-1)) rfl ?_
    exact x_retQI (pc := 22) dC_game_22 rfl rfl h

theorem vC_game_40 {M : Mm} {b : Nat × Nat} {K : Int32 → Mm → Prop} {v0 : Nat} {v1 : Int32} {v3 : Int32} {r1 : Nat} (kv0 : v0 % 64 = 10) (e1 : gr M v0 11 = some r1)
    (h : (¬ v3 = 0 → (K 0 M)) ∧ (v3 = 0 → (CI mWe_heldIn [.ref r1, .int v1] M (fun rv N => X mC_game 52 [] [.int rv] N b (QI K))))) : X mC_game 40 [(0, .ref v0), (1, .int v1), (3, .int v3)] [] M b (QI K) := by
  refine x_wf (fun hw => ?_)
  refine x_iload_n (pc := 40) dC_game_40 rfl (q := 2) rfl ?_
  obtain ⟨g1_0, g1_1⟩ := h
  refine x_if_ne (pc := 41) dC_game_41 (t := 55) rfl (fun q1 => ?_) (fun q1 => ?_)
  · refine x_iconst (pc := 55) dC_game_55 (v := 0) rfl ?_
    have h := g1_0 q1
    exact x_retQI (pc := 56) dC_game_56 rfl rfl h
  · refine x_aload_n (pc := 44) dC_game_44 rfl (q := 0) rfl ?_
    refine x_getR (pc := 45) dC_game_45 kv0 flC_73 rfl e1 ?_
    refine x_iload_n (pc := 48) dC_game_48 rfl (q := 1) rfl ?_
    have h := g1_1 q1
    exact x_invV (pc := 49) dC_game_49 (c := 8) (S := []) (As := [.int v1]) mlC_273 hWe_heldIn rfl (by decide) rfl (wfk hw e1 kv0) ⟨by decide, by decide⟩ ⟨Nat.zero_le _, Nat.zero_le _⟩ rfl (Nat.le_of_ble_eq_true rfl) (aftI (b' := b) ⟨Nat.le_refl _, Nat.le_refl _⟩ (fun rv N h => x_loc [] rfl h) h)

theorem vC_game_52 {M : Mm} {b : Nat × Nat} {K : Int32 → Mm → Prop} {w0 : Int32}  
    (h : K w0 M) : X mC_game 52 [] [.int w0] M b (QI K) := by
  refine x_wf (fun hw => ?_)
  refine x_goto (pc := 52) dC_game_52 (t := 56) rfl ?_
  exact x_retQI (pc := 56) dC_game_56 rfl rfl h

theorem dC_turn_0 : decode (mB mC_turn) 0 = .ok (.iload_n 1, 1) := op27 (by decide +kernel)
theorem dC_turn_1 : decode (mB mC_turn) 1 = .ok (.ifCond .lt 8, 3) := op155 0 8 (by decide +kernel)
theorem dC_turn_4 : decode (mB mC_turn) 4 = .ok (.iload_n 1, 1) := op27 (by decide +kernel)
theorem dC_turn_5 : decode (mB mC_turn) 5 = .ok (.iconst 3, 1) := op6 (by decide +kernel)
theorem dC_turn_6 : decode (mB mC_turn) 6 = .ok (.if_icmp .le 5, 3) := op164 0 5 (by decide +kernel)
theorem dC_turn_9 : decode (mB mC_turn) 9 = .ok (.iconst (-1), 1) := op2 (by decide +kernel)
theorem dC_turn_10 : decode (mB mC_turn) 10 = .ok (.ireturn, 1) := op172 (by decide +kernel)
theorem dC_turn_11 : decode (mB mC_turn) 11 = .ok (.aload_n 0, 1) := op42 (by decide +kernel)
theorem dC_turn_12 : decode (mB mC_turn) 12 = .ok (.invokevirtual 212, 3) := op182 0 212 (by decide +kernel)
theorem dC_turn_15 : decode (mB mC_turn) 15 = .ok (.aload_n 0, 1) := op42 (by decide +kernel)
theorem dC_turn_16 : decode (mB mC_turn) 16 = .ok (.getfield 82, 3) := op180 0 82 (by decide +kernel)
theorem dC_turn_19 : decode (mB mC_turn) 19 = .ok (.invokevirtual 289, 3) := op182 1 33 (by decide +kernel)
theorem dC_turn_22 : decode (mB mC_turn) 22 = .ok (.istore_n 2, 1) := op61 (by decide +kernel)
theorem dC_turn_23 : decode (mB mC_turn) 23 = .ok (.iload_n 2, 1) := op28 (by decide +kernel)
theorem dC_turn_24 : decode (mB mC_turn) 24 = .ok (.ifCond .ge 6, 3) := op156 0 6 (by decide +kernel)
theorem dC_turn_27 : decode (mB mC_turn) 27 = .ok (.bipush (-4), 2) := op16 252 (by decide +kernel)
theorem dC_turn_29 : decode (mB mC_turn) 29 = .ok (.ireturn, 1) := op172 (by decide +kernel)
theorem dC_turn_30 : decode (mB mC_turn) 30 = .ok (.iload_n 1, 1) := op27 (by decide +kernel)
theorem dC_turn_31 : decode (mB mC_turn) 31 = .ok (.tableswitch 45 0 2 #[25, 35, 40], 25) := by decide +kernel
theorem dC_turn_56 : decode (mB mC_turn) 56 = .ok (.aload_n 0, 1) := op42 (by decide +kernel)
theorem dC_turn_57 : decode (mB mC_turn) 57 = .ok (.getfield 82, 3) := op180 0 82 (by decide +kernel)
theorem dC_turn_60 : decode (mB mC_turn) 60 = .ok (.getfield 293, 3) := op180 1 37 (by decide +kernel)
theorem dC_turn_63 : decode (mB mC_turn) 63 = .ok (.iload_n 2, 1) := op28 (by decide +kernel)
theorem dC_turn_64 : decode (mB mC_turn) 64 = .ok (.iaload, 1) := op46 (by decide +kernel)
theorem dC_turn_65 : decode (mB mC_turn) 65 = .ok (.ireturn, 1) := op172 (by decide +kernel)
theorem dC_turn_66 : decode (mB mC_turn) 66 = .ok (.iload_n 2, 1) := op28 (by decide +kernel)
theorem dC_turn_67 : decode (mB mC_turn) 67 = .ok (.invokestatic 296, 3) := op184 1 40 (by decide +kernel)
theorem dC_turn_70 : decode (mB mC_turn) 70 = .ok (.ireturn, 1) := op172 (by decide +kernel)
theorem dC_turn_71 : decode (mB mC_turn) 71 = .ok (.iload_n 2, 1) := op28 (by decide +kernel)
theorem dC_turn_72 : decode (mB mC_turn) 72 = .ok (.invokestatic 299, 3) := op184 1 43 (by decide +kernel)
theorem dC_turn_75 : decode (mB mC_turn) 75 = .ok (.ireturn, 1) := op172 (by decide +kernel)
theorem dC_turn_76 : decode (mB mC_turn) 76 = .ok (.iload_n 2, 1) := op28 (by decide +kernel)
theorem dC_turn_77 : decode (mB mC_turn) 77 = .ok (.invokestatic 302, 3) := op184 1 46 (by decide +kernel)
theorem dC_turn_80 : decode (mB mC_turn) 80 = .ok (.ireturn, 1) := op172 (by decide +kernel)

theorem vC_turn_0 {M : Mm} {b : Nat × Nat} {K : Int32 → Mm → Prop} {v0 : Nat} {v1 : Int32} (kv0 : v0 % 64 = 10) 
    (h : (((v1 < 0) ∨ (¬ v1 < 0 ∧ ¬ v1 ≤ 3)) → (K (-1) M)) ∧ ((¬ v1 < 0 ∧ v1 ≤ 3) → (CV mC_weighNow [.ref v0] M (fun N => X mC_turn 15 [(0, .ref v0), (1, .int v1)] [] N b (QI K))))) : X mC_turn 0 [(0, .ref v0), (1, .int v1)] [] M b (QI K) := by
  refine x_wf (fun hw => ?_)
  refine x_iload_n (pc := 0) dC_turn_0 rfl (q := 1) rfl ?_
  obtain ⟨g1_0, g1_1⟩ := h
  have g1_k0 : (v1 < 0) ∨ (¬ v1 < 0 ∧ ¬ v1 ≤ 3) → X mC_turn 9 [(0, .ref v0), (1, .int v1)] [] M b (QI K) := fun q => by
    have h := g1_0 q
    refine x_iconst (pc := 9) dC_turn_9 (v := (-1)) rfl ?_
    exact x_retQI (pc := 10) dC_turn_10 rfl rfl h
  refine x_if_lt (pc := 1) dC_turn_1 (t := 9) rfl (fun q1 => ?_) (fun q1 => ?_)
  · exact g1_k0 (Or.inl q1)
  · refine x_iload_n (pc := 4) dC_turn_4 rfl (q := 1) rfl ?_
    refine x_iconst (pc := 5) dC_turn_5 (v := 3) rfl ?_
    refine x_icmp_le (pc := 6) dC_turn_6 (t := 11) rfl (fun q2 => ?_) (fun q2 => ?_)
    · refine x_aload_n (pc := 11) dC_turn_11 rfl (q := 0) rfl ?_
      have h := g1_1 ⟨q1, q2⟩
      exact x_invV (pc := 12) dC_turn_12 (c := 10) (S := []) (As := []) mlC_212 hC_weighNow rfl (by decide) rfl kv0 ⟨by decide, by decide⟩ ⟨Nat.zero_le _, Nat.zero_le _⟩ rfl (Nat.le_of_ble_eq_true rfl) (aftV (b' := b) ⟨Nat.le_refl _, Nat.le_refl _⟩ (fun N h => h) h)
    · exact g1_k0 (Or.inr ⟨q1, q2⟩)

theorem vC_turn_15 {M : Mm} {b : Nat × Nat} {K : Int32 → Mm → Prop} {v0 : Nat} {v1 : Int32} {r1 : Nat} (kv0 : v0 % 64 = 10) (e1 : gr M v0 12 = some r1)
    (h : CI mFi_best [.ref r1] M (fun rv N => X mC_turn 22 [(0, .ref v0), (1, .int v1)] [.int rv] N b (QI K))) : X mC_turn 15 [(0, .ref v0), (1, .int v1)] [] M b (QI K) := by
  refine x_wf (fun hw => ?_)
  refine x_aload_n (pc := 15) dC_turn_15 rfl (q := 0) rfl ?_
  refine x_getR (pc := 16) dC_turn_16 kv0 flC_82 rfl e1 ?_
  exact x_invV (pc := 19) dC_turn_19 (c := 0) (S := []) (As := []) mlC_289 hFi_best rfl (by decide) rfl (wfk hw e1 kv0) ⟨by decide, by decide⟩ ⟨Nat.zero_le _, Nat.zero_le _⟩ rfl (Nat.le_of_ble_eq_true rfl) (aftI (b' := b) ⟨Nat.le_refl _, Nat.le_refl _⟩ (fun rv N h => h) h)

theorem vC_turn_22 {M : Mm} {b : Nat × Nat} {K : Int32 → Mm → Prop} {v0 : Nat} {v1 : Int32} {w0 : Int32} {r1 : Nat} {r2 : Nat} (kv0 : v0 % 64 = 10) (e1 : gr M v0 12 = some r1) (e2 : gr M r1 1 = some r2)
    (h : (0 ≤ w0 → ((v1 = 0 → (vp_in w0 1024 ∧ (K (gi M r2 (w0).toNatClampNeg) M))) ∧ (v1 = 1 → (CI mFi_doctorAt [.int w0] M (fun rv N => X mC_turn 70 [] [.int rv] N b (QI K)))) ∧ (v1 = 2 → (CI mFi_answerAt [.int w0] M (fun rv N => X mC_turn 75 [] [.int rv] N b (QI K)))) ∧ (¬ v1 = 0 ∧ ¬ v1 = 1 ∧ ¬ v1 = 2 → (CI mFi_marksAt [.int w0] M (fun rv N => X mC_turn 80 [] [.int rv] N b (QI K)))))) ∧ (¬ 0 ≤ w0 → (K (-4) M))) : X mC_turn 22 [(0, .ref v0), (1, .int v1)] [.int w0] M b (QI K) := by
  refine x_wf (fun hw => ?_)
  refine x_istore_n (pc := 22) dC_turn_22 rfl (by decide) (L' := [(2, .int w0), (0, .ref v0), (1, .int v1)]) rfl ?_
  refine x_iload_n (pc := 23) dC_turn_23 rfl (q := 0) rfl ?_
  obtain ⟨g1_0, g1_1⟩ := h
  refine x_if_ge (pc := 24) dC_turn_24 (t := 30) rfl (fun q1 => ?_) (fun q1 => ?_)
  · refine x_iload_n (pc := 30) dC_turn_30 rfl (q := 2) rfl ?_
    have h := g1_0 q1
    obtain ⟨g2_0, g2_1, g2_2, g2_3⟩ := h
    by_cases q2 : v1 = 0
    · refine x_tblIn (pc := 31) dC_turn_31 (by rw [q2]; decide) (by rw [q2]; decide) (off := 25) (by rw [q2]; rfl) (t := 56) rfl ?_
      have h := g2_0 q2
      refine x_aload_n (pc := 56) dC_turn_56 rfl (q := 1) rfl ?_
      refine x_getR (pc := 57) dC_turn_57 kv0 flC_82 rfl e1 ?_
      refine x_getR (pc := 60) dC_turn_60 (wfk hw e1 kv0) flC_293 rfl e2 ?_
      refine x_iload_n (pc := 63) dC_turn_63 rfl (q := 0) rfl ?_
      obtain ⟨s501, h⟩ := h
      refine x_aldIj (pc := 64) (j := (w0).toNatClampNeg) (Or.inl ⟨rfl, rfl⟩) dC_turn_64 (wfk hw e2 (wfk hw e1 kv0)) ak_16 rfl s501 ?_
      exact x_retQI (pc := 65) dC_turn_65 rfl rfl h
    by_cases q3 : v1 = 1
    · refine x_tblIn (pc := 31) dC_turn_31 (by rw [q3]; decide) (by rw [q3]; decide) (off := 35) (by rw [q3]; rfl) (t := 66) rfl ?_
      have h := g2_1 q3
      refine x_iload_n (pc := 66) dC_turn_66 rfl (q := 0) rfl ?_
      exact x_invS (pc := 67) dC_turn_67 (S := []) (As := [.int w0]) mlC_296 hFi_doctorAt rfl ⟨by decide, by decide⟩ ⟨Nat.zero_le _, Nat.zero_le _⟩ rfl (Nat.le_of_ble_eq_true rfl) (aftI (b' := b) ⟨Nat.le_refl _, Nat.le_refl _⟩ (fun rv N h => x_loc [] rfl h) h)
    by_cases q4 : v1 = 2
    · refine x_tblIn (pc := 31) dC_turn_31 (by rw [q4]; decide) (by rw [q4]; decide) (off := 40) (by rw [q4]; rfl) (t := 71) rfl ?_
      have h := g2_2 q4
      refine x_iload_n (pc := 71) dC_turn_71 rfl (q := 0) rfl ?_
      exact x_invS (pc := 72) dC_turn_72 (S := []) (As := [.int w0]) mlC_299 hFi_answerAt rfl ⟨by decide, by decide⟩ ⟨Nat.zero_le _, Nat.zero_le _⟩ rfl (Nat.le_of_ble_eq_true rfl) (aftI (b' := b) ⟨Nat.le_refl _, Nat.le_refl _⟩ (fun rv N h => x_loc [] rfl h) h)
    have h := g2_3 ⟨q2, q3, q4⟩
    have hout : (v1).toInt < 0 ∨ 2 < (v1).toInt := tblout (fun (k : Int) h1 h2 => by
      rcases (show k = 0 ∨ k = 1 ∨ k = 2 by omega) with rfl | rfl | rfl
      · exact q2
      · exact q3
      · exact q4)
    refine x_tblOut (pc := 31) dC_turn_31 hout (t := 76) rfl ?_
    refine x_iload_n (pc := 76) dC_turn_76 rfl (q := 0) rfl ?_
    exact x_invS (pc := 77) dC_turn_77 (S := []) (As := [.int w0]) mlC_302 hFi_marksAt rfl ⟨by decide, by decide⟩ ⟨Nat.zero_le _, Nat.zero_le _⟩ rfl (Nat.le_of_ble_eq_true rfl) (aftI (b' := b) ⟨Nat.le_refl _, Nat.le_refl _⟩ (fun rv N h => x_loc [] rfl h) h)
  · refine x_bipush (pc := 27) dC_turn_27 (v := (-4)) rfl ?_
    have h := g1_1 q1
    exact x_retQI (pc := 29) dC_turn_29 rfl rfl h

theorem vC_turn_70 {M : Mm} {b : Nat × Nat} {K : Int32 → Mm → Prop} {w0 : Int32}  
    (h : K w0 M) : X mC_turn 70 [] [.int w0] M b (QI K) := by
  refine x_wf (fun hw => ?_)
  exact x_retQI (pc := 70) dC_turn_70 rfl rfl h

theorem vC_turn_75 {M : Mm} {b : Nat × Nat} {K : Int32 → Mm → Prop} {w0 : Int32}  
    (h : K w0 M) : X mC_turn 75 [] [.int w0] M b (QI K) := by
  refine x_wf (fun hw => ?_)
  exact x_retQI (pc := 75) dC_turn_75 rfl rfl h

theorem vC_turn_80 {M : Mm} {b : Nat × Nat} {K : Int32 → Mm → Prop} {w0 : Int32}  
    (h : K w0 M) : X mC_turn 80 [] [.int w0] M b (QI K) := by
  refine x_wf (fun hw => ?_)
  exact x_retQI (pc := 80) dC_turn_80 rfl rfl h

theorem dC_turns_0 : decode (mB mC_turns) 0 = .ok (.iload_n 1, 1) := op27 (by decide +kernel)
theorem dC_turns_1 : decode (mB mC_turns) 1 = .ok (.invokestatic 209, 3) := op184 0 209 (by decide +kernel)
theorem dC_turns_4 : decode (mB mC_turns) 4 = .ok (.ifCond .eq 17, 3) := op153 0 17 (by decide +kernel)
theorem dC_turns_7 : decode (mB mC_turns) 7 = .ok (.iload_n 2, 1) := op28 (by decide +kernel)
theorem dC_turns_8 : decode (mB mC_turns) 8 = .ok (.invokestatic 218, 3) := op184 0 218 (by decide +kernel)
theorem dC_turns_11 : decode (mB mC_turns) 11 = .ok (.ifCond .eq 10, 3) := op153 0 10 (by decide +kernel)
theorem dC_turns_14 : decode (mB mC_turns) 14 = .ok (.iload_n 3, 1) := op29 (by decide +kernel)
theorem dC_turns_15 : decode (mB mC_turns) 15 = .ok (.invokestatic 182, 3) := op184 0 182 (by decide +kernel)
theorem dC_turns_18 : decode (mB mC_turns) 18 = .ok (.ifCond .ne 5, 3) := op154 0 5 (by decide +kernel)
theorem dC_turns_21 : decode (mB mC_turns) 21 = .ok (.iconst (-1), 1) := op2 (by decide +kernel)
theorem dC_turns_22 : decode (mB mC_turns) 22 = .ok (.ireturn, 1) := op172 (by decide +kernel)
theorem dC_turns_23 : decode (mB mC_turns) 23 = .ok (.aload_n 0, 1) := op42 (by decide +kernel)
theorem dC_turns_24 : decode (mB mC_turns) 24 = .ok (.getfield 54, 3) := op180 0 54 (by decide +kernel)
theorem dC_turns_27 : decode (mB mC_turns) 27 = .ok (.iload_n 1, 1) := op27 (by decide +kernel)
theorem dC_turns_28 : decode (mB mC_turns) 28 = .ok (.invokevirtual 305, 3) := op182 1 49 (by decide +kernel)
theorem dC_turns_31 : decode (mB mC_turns) 31 = .ok (.ifCond .ne 6, 3) := op154 0 6 (by decide +kernel)
theorem dC_turns_34 : decode (mB mC_turns) 34 = .ok (.bipush (-2), 2) := op16 254 (by decide +kernel)
theorem dC_turns_36 : decode (mB mC_turns) 36 = .ok (.ireturn, 1) := op172 (by decide +kernel)
theorem dC_turns_37 : decode (mB mC_turns) 37 = .ok (.aload_n 0, 1) := op42 (by decide +kernel)
theorem dC_turns_38 : decode (mB mC_turns) 38 = .ok (.invokevirtual 212, 3) := op182 0 212 (by decide +kernel)
theorem dC_turns_41 : decode (mB mC_turns) 41 = .ok (.iconst 0, 1) := op3 (by decide +kernel)
theorem dC_turns_42 : decode (mB mC_turns) 42 = .ok (.istore 4, 2) := op54 4 (by decide +kernel)
theorem dC_turns_44 : decode (mB mC_turns) 44 = .ok (.iconst 0, 1) := op3 (by decide +kernel)
theorem dC_turns_45 : decode (mB mC_turns) 45 = .ok (.istore 5, 2) := op54 5 (by decide +kernel)
theorem dC_turns_47 : decode (mB mC_turns) 47 = .ok (.iload 5, 2) := op21 5 (by decide +kernel)
theorem dC_turns_49 : decode (mB mC_turns) 49 = .ok (.bipush 64, 2) := op16 64 (by decide +kernel)
theorem dC_turns_51 : decode (mB mC_turns) 51 = .ok (.if_icmp .ge 53, 3) := op162 0 53 (by decide +kernel)
theorem dC_turns_54 : decode (mB mC_turns) 54 = .ok (.iload_n 3, 1) := op29 (by decide +kernel)
theorem dC_turns_55 : decode (mB mC_turns) 55 = .ok (.iload 5, 2) := op21 5 (by decide +kernel)
theorem dC_turns_57 : decode (mB mC_turns) 57 = .ok (.iconst (-1), 1) := op2 (by decide +kernel)
theorem dC_turns_58 : decode (mB mC_turns) 58 = .ok (.ixor, 1) := op130 (by decide +kernel)
theorem dC_turns_59 : decode (mB mC_turns) 59 = .ok (.iand, 1) := op126 (by decide +kernel)
theorem dC_turns_60 : decode (mB mC_turns) 60 = .ok (.ifCond .ne 38, 3) := op154 0 38 (by decide +kernel)
theorem dC_turns_63 : decode (mB mC_turns) 63 = .ok (.aload_n 0, 1) := op42 (by decide +kernel)
theorem dC_turns_64 : decode (mB mC_turns) 64 = .ok (.getfield 73, 3) := op180 0 73 (by decide +kernel)
theorem dC_turns_67 : decode (mB mC_turns) 67 = .ok (.iload 5, 2) := op21 5 (by decide +kernel)
theorem dC_turns_69 : decode (mB mC_turns) 69 = .ok (.invokevirtual 238, 3) := op182 0 238 (by decide +kernel)
theorem dC_turns_72 : decode (mB mC_turns) 72 = .ok (.iload 4, 2) := op21 4 (by decide +kernel)
theorem dC_turns_74 : decode (mB mC_turns) 74 = .ok (.aload_n 0, 1) := op42 (by decide +kernel)
theorem dC_turns_75 : decode (mB mC_turns) 75 = .ok (.getfield 73, 3) := op180 0 73 (by decide +kernel)
theorem dC_turns_78 : decode (mB mC_turns) 78 = .ok (.iload_n 1, 1) := op27 (by decide +kernel)
theorem dC_turns_79 : decode (mB mC_turns) 79 = .ok (.iload_n 2, 1) := op28 (by decide +kernel)
theorem dC_turns_80 : decode (mB mC_turns) 80 = .ok (.iload_n 3, 1) := op29 (by decide +kernel)
theorem dC_turns_81 : decode (mB mC_turns) 81 = .ok (.invokestatic 269, 3) := op184 1 13 (by decide +kernel)
theorem dC_turns_84 : decode (mB mC_turns) 84 = .ok (.invokevirtual 308, 3) := op182 1 52 (by decide +kernel)
theorem dC_turns_87 : decode (mB mC_turns) 87 = .ok (.ifCond .eq 7, 3) := op153 0 7 (by decide +kernel)
theorem dC_turns_90 : decode (mB mC_turns) 90 = .ok (.iconst 1, 1) := op4 (by decide +kernel)
theorem dC_turns_91 : decode (mB mC_turns) 91 = .ok (.goto 4, 3) := op167 0 4 (by decide +kernel)
theorem dC_turns_94 : decode (mB mC_turns) 94 = .ok (.iconst 0, 1) := op3 (by decide +kernel)
theorem dC_turns_95 : decode (mB mC_turns) 95 = .ok (.iadd, 1) := op96 (by decide +kernel)
theorem dC_turns_96 : decode (mB mC_turns) 96 = .ok (.istore 4, 2) := op54 4 (by decide +kernel)
theorem dC_turns_98 : decode (mB mC_turns) 98 = .ok (.iinc 5 1, 3) := op132 5 1 (by decide +kernel)
theorem dC_turns_101 : decode (mB mC_turns) 101 = .ok (.goto (-54), 3) := op167 255 202 (by decide +kernel)
theorem dC_turns_104 : decode (mB mC_turns) 104 = .ok (.iload 4, 2) := op21 4 (by decide +kernel)
theorem dC_turns_106 : decode (mB mC_turns) 106 = .ok (.ireturn, 1) := op172 (by decide +kernel)

theorem vC_turns_0 {M : Mm} {b : Nat × Nat} {K : Int32 → Mm → Prop} {v0 : Nat} {v1 : Int32} {v2 : Int32} {v3 : Int32}  
    (h : CI mC_isDoctor [.int v1] M (fun rv N => X mC_turns 4 [(0, .ref v0), (1, .int v1), (2, .int v2), (3, .int v3)] [.int rv] N b (QI K))) : X mC_turns 0 [(0, .ref v0), (1, .int v1), (2, .int v2), (3, .int v3)] [] M b (QI K) := by
  refine x_wf (fun hw => ?_)
  refine x_iload_n (pc := 0) dC_turns_0 rfl (q := 1) rfl ?_
  exact x_invS (pc := 1) dC_turns_1 (S := []) (As := [.int v1]) mlC_209 hC_isDoctor rfl ⟨by decide, by decide⟩ ⟨Nat.zero_le _, Nat.zero_le _⟩ rfl (Nat.le_of_ble_eq_true rfl) (aftI (b' := b) ⟨Nat.le_refl _, Nat.le_refl _⟩ (fun rv N h => h) h)

theorem vC_turns_4 {M : Mm} {b : Nat × Nat} {K : Int32 → Mm → Prop} {v0 : Nat} {v1 : Int32} {v2 : Int32} {v3 : Int32} {w0 : Int32}  
    (h : (w0 = 0 → (K (-1) M)) ∧ (¬ w0 = 0 → (CI mC_isEither [.int v2] M (fun rv N => X mC_turns 11 [(0, .ref v0), (1, .int v1), (2, .int v2), (3, .int v3)] [.int rv] N b (QI K))))) : X mC_turns 4 [(0, .ref v0), (1, .int v1), (2, .int v2), (3, .int v3)] [.int w0] M b (QI K) := by
  refine x_wf (fun hw => ?_)
  obtain ⟨g1_0, g1_1⟩ := h
  refine x_if_eq (pc := 4) dC_turns_4 (t := 21) rfl (fun q1 => ?_) (fun q1 => ?_)
  · have h := g1_0 q1
    refine x_iconst (pc := 21) dC_turns_21 (v := (-1)) rfl ?_
    exact x_retQI (pc := 22) dC_turns_22 rfl rfl h
  · refine x_iload_n (pc := 7) dC_turns_7 rfl (q := 2) rfl ?_
    have h := g1_1 q1
    exact x_invS (pc := 8) dC_turns_8 (S := []) (As := [.int v2]) mlC_218 hC_isEither rfl ⟨by decide, by decide⟩ ⟨Nat.zero_le _, Nat.zero_le _⟩ rfl (Nat.le_of_ble_eq_true rfl) (aftI (b' := b) ⟨Nat.le_refl _, Nat.le_refl _⟩ (fun rv N h => h) h)

theorem vC_turns_11 {M : Mm} {b : Nat × Nat} {K : Int32 → Mm → Prop} {v0 : Nat} {v1 : Int32} {v2 : Int32} {v3 : Int32} {w0 : Int32}  
    (h : (w0 = 0 → (K (-1) M)) ∧ (¬ w0 = 0 → (CI mC_isCase [.int v3] M (fun rv N => X mC_turns 18 [(0, .ref v0), (1, .int v1), (2, .int v2), (3, .int v3)] [.int rv] N b (QI K))))) : X mC_turns 11 [(0, .ref v0), (1, .int v1), (2, .int v2), (3, .int v3)] [.int w0] M b (QI K) := by
  refine x_wf (fun hw => ?_)
  obtain ⟨g1_0, g1_1⟩ := h
  refine x_if_eq (pc := 11) dC_turns_11 (t := 21) rfl (fun q1 => ?_) (fun q1 => ?_)
  · have h := g1_0 q1
    refine x_iconst (pc := 21) dC_turns_21 (v := (-1)) rfl ?_
    exact x_retQI (pc := 22) dC_turns_22 rfl rfl h
  · refine x_iload_n (pc := 14) dC_turns_14 rfl (q := 3) rfl ?_
    have h := g1_1 q1
    exact x_invS (pc := 15) dC_turns_15 (S := []) (As := [.int v3]) mlC_182 hC_isCase rfl ⟨by decide, by decide⟩ ⟨Nat.zero_le _, Nat.zero_le _⟩ rfl (Nat.le_of_ble_eq_true rfl) (aftI (b' := b) ⟨Nat.le_refl _, Nat.le_refl _⟩ (fun rv N h => h) h)

theorem vC_turns_18 {M : Mm} {b : Nat × Nat} {K : Int32 → Mm → Prop} {v0 : Nat} {v1 : Int32} {v2 : Int32} {v3 : Int32} {w0 : Int32} {r1 : Nat} (kv0 : v0 % 64 = 10) (e1 : gr M v0 6 = some r1)
    (h : (¬ w0 = 0 → (CI mRu_isMain [.ref r1, .int v1] M (fun rv N => X mC_turns 31 [(0, .ref v0), (1, .int v1), (2, .int v2), (3, .int v3)] [.int rv] N b (QI K)))) ∧ (w0 = 0 → (K (-1) M))) : X mC_turns 18 [(0, .ref v0), (1, .int v1), (2, .int v2), (3, .int v3)] [.int w0] M b (QI K) := by
  refine x_wf (fun hw => ?_)
  obtain ⟨g1_0, g1_1⟩ := h
  refine x_if_ne (pc := 18) dC_turns_18 (t := 23) rfl (fun q1 => ?_) (fun q1 => ?_)
  · refine x_aload_n (pc := 23) dC_turns_23 rfl (q := 0) rfl ?_
    refine x_getR (pc := 24) dC_turns_24 kv0 flC_54 rfl e1 ?_
    refine x_iload_n (pc := 27) dC_turns_27 rfl (q := 1) rfl ?_
    have h := g1_0 q1
    exact x_invV (pc := 28) dC_turns_28 (c := 3) (S := []) (As := [.int v1]) mlC_305 hRu_isMain rfl (by decide) rfl (wfk hw e1 kv0) ⟨by decide, by decide⟩ ⟨Nat.zero_le _, Nat.zero_le _⟩ rfl (Nat.le_of_ble_eq_true rfl) (aftI (b' := b) ⟨Nat.le_refl _, Nat.le_refl _⟩ (fun rv N h => h) h)
  · have h := g1_1 q1
    refine x_iconst (pc := 21) dC_turns_21 (v := (-1)) rfl ?_
    exact x_retQI (pc := 22) dC_turns_22 rfl rfl h

theorem vC_turns_31 {M : Mm} {b : Nat × Nat} {K : Int32 → Mm → Prop} {v0 : Nat} {v1 : Int32} {v2 : Int32} {v3 : Int32} {w0 : Int32} (kv0 : v0 % 64 = 10) 
    (h : (¬ w0 = 0 → (CV mC_weighNow [.ref v0] M (fun N => X mC_turns 41 [(0, .ref v0), (1, .int v1), (2, .int v2), (3, .int v3)] [] N b (QI K)))) ∧ (w0 = 0 → (K (-2) M))) : X mC_turns 31 [(0, .ref v0), (1, .int v1), (2, .int v2), (3, .int v3)] [.int w0] M b (QI K) := by
  refine x_wf (fun hw => ?_)
  obtain ⟨g1_0, g1_1⟩ := h
  refine x_if_ne (pc := 31) dC_turns_31 (t := 37) rfl (fun q1 => ?_) (fun q1 => ?_)
  · refine x_aload_n (pc := 37) dC_turns_37 rfl (q := 0) rfl ?_
    have h := g1_0 q1
    exact x_invV (pc := 38) dC_turns_38 (c := 10) (S := []) (As := []) mlC_212 hC_weighNow rfl (by decide) rfl kv0 ⟨by decide, by decide⟩ ⟨Nat.zero_le _, Nat.zero_le _⟩ rfl (Nat.le_of_ble_eq_true rfl) (aftV (b' := b) ⟨Nat.le_refl _, Nat.le_refl _⟩ (fun N h => h) h)
  · refine x_bipush (pc := 34) dC_turns_34 (v := (-2)) rfl ?_
    have h := g1_1 q1
    exact x_retQI (pc := 36) dC_turns_36 rfl rfl h

theorem vC_turns_41 {M : Mm} {b : Nat × Nat} {K : Int32 → Mm → Prop} {v0 : Nat} {v1 : Int32} {v2 : Int32} {v3 : Int32}  
    (h : X mC_turns 47 [(0, .ref v0), (1, .int v1), (2, .int v2), (3, .int v3), (4, .int 0), (5, .int 0)] [] M b (QI K)) : X mC_turns 41 [(0, .ref v0), (1, .int v1), (2, .int v2), (3, .int v3)] [] M b (QI K) := by
  refine x_wf (fun hw => ?_)
  refine x_iconst (pc := 41) dC_turns_41 (v := 0) rfl ?_
  refine x_istore (pc := 42) dC_turns_42 (by decide) (L' := [(4, .int 0), (0, .ref v0), (1, .int v1), (2, .int v2), (3, .int v3)]) rfl ?_
  refine x_iconst (pc := 44) dC_turns_44 (v := 0) rfl ?_
  refine x_istore (pc := 45) dC_turns_45 (by decide) (L' := [(5, .int 0), (4, .int 0), (0, .ref v0), (1, .int v1), (2, .int v2), (3, .int v3)]) rfl ?_
  exact x_loc [2, 3, 4, 5, 1, 0] rfl h

theorem vC_turns_47 {M : Mm} {b : Nat × Nat} {K : Int32 → Mm → Prop} {v0 : Nat} {v1 : Int32} {v2 : Int32} {v3 : Int32} {v4 : Int32} {v5 : Int32} {r1 : Nat} (kv0 : v0 % 64 = 10) (e1 : gr M v0 11 = some r1)
    (h : (64 ≤ v5 → (K v4 M)) ∧ ((¬ 64 ≤ v5 ∧ ¬ (v3 &&& (v5 ^^^ (-1))) = 0) → (X mC_turns 47 [(0, .ref v0), (1, .int v1), (2, .int v2), (3, .int v3), (4, .int v4), (5, .int (v5 + 1))] [] M b (QI K))) ∧ ((¬ 64 ≤ v5 ∧ (v3 &&& (v5 ^^^ (-1))) = 0) → (CV mWe_weigh [.ref r1, .int v5] M (fun N => X mC_turns 72 [(0, .ref v0), (1, .int v1), (2, .int v2), (3, .int v3), (4, .int v4), (5, .int v5)] [] N b (QI K))))) : X mC_turns 47 [(0, .ref v0), (1, .int v1), (2, .int v2), (3, .int v3), (4, .int v4), (5, .int v5)] [] M b (QI K) := by
  refine x_wf (fun hw => ?_)
  refine x_iload (pc := 47) dC_turns_47 (q := 5) rfl ?_
  refine x_bipush (pc := 49) dC_turns_49 (v := 64) rfl ?_
  obtain ⟨g1_0, g1_1, g1_2⟩ := h
  refine x_icmp_ge (pc := 51) dC_turns_51 (t := 104) rfl (fun q1 => ?_) (fun q1 => ?_)
  · refine x_iload (pc := 104) dC_turns_104 (q := 4) rfl ?_
    have h := g1_0 q1
    exact x_retQI (pc := 106) dC_turns_106 rfl rfl h
  · refine x_iload_n (pc := 54) dC_turns_54 rfl (q := 3) rfl ?_
    refine x_iload (pc := 55) dC_turns_55 (q := 5) rfl ?_
    refine x_iconst (pc := 57) dC_turns_57 (v := (-1)) rfl ?_
    refine x_ixor (pc := 58) dC_turns_58 ?_
    refine x_iand (pc := 59) dC_turns_59 ?_
    refine x_if_ne (pc := 60) dC_turns_60 (t := 98) rfl (fun q2 => ?_) (fun q2 => ?_)
    · have h := g1_1 ⟨q1, q2⟩
      refine x_iinc (pc := 98) dC_turns_98 (q := 5) rfl (v := v5 + 1) rfl (by decide) (L' := [(5, .int (v5 + 1)), (0, .ref v0), (1, .int v1), (2, .int v2), (3, .int v3), (4, .int v4)]) rfl ?_
      refine x_goto (pc := 101) dC_turns_101 (t := 47) rfl ?_
      exact x_loc [1, 2, 3, 4, 5, 0] rfl h
    · refine x_aload_n (pc := 63) dC_turns_63 rfl (q := 0) rfl ?_
      refine x_getR (pc := 64) dC_turns_64 kv0 flC_73 rfl e1 ?_
      refine x_iload (pc := 67) dC_turns_67 (q := 5) rfl ?_
      have h := g1_2 ⟨q1, q2⟩
      exact x_invV (pc := 69) dC_turns_69 (c := 8) (S := []) (As := [.int v5]) mlC_238 hWe_weigh rfl (by decide) rfl (wfk hw e1 kv0) ⟨by decide, by decide⟩ ⟨Nat.zero_le _, Nat.zero_le _⟩ rfl (Nat.le_of_ble_eq_true rfl) (aftV (b' := b) ⟨Nat.le_refl _, Nat.le_refl _⟩ (fun N h => h) h)

theorem vC_turns_72 {M : Mm} {b : Nat × Nat} {K : Int32 → Mm → Prop} {v0 : Nat} {v1 : Int32} {v2 : Int32} {v3 : Int32} {v4 : Int32} {v5 : Int32} {r1 : Nat} (kv0 : v0 % 64 = 10) (e1 : gr M v0 11 = some r1)
    (h : CI mJi_bitCount [.int v3] M (fun rv N => X mC_turns 84 [(0, .ref v0), (1, .int v1), (2, .int v2), (3, .int v3), (5, .int v5)] [.int rv, .int v2, .int v1, .ref r1, .int v4] N b (QI K))) : X mC_turns 72 [(0, .ref v0), (1, .int v1), (2, .int v2), (3, .int v3), (4, .int v4), (5, .int v5)] [] M b (QI K) := by
  refine x_wf (fun hw => ?_)
  refine x_iload (pc := 72) dC_turns_72 (q := 4) rfl ?_
  refine x_aload_n (pc := 74) dC_turns_74 rfl (q := 0) rfl ?_
  refine x_getR (pc := 75) dC_turns_75 kv0 flC_73 rfl e1 ?_
  refine x_iload_n (pc := 78) dC_turns_78 rfl (q := 1) rfl ?_
  refine x_iload_n (pc := 79) dC_turns_79 rfl (q := 2) rfl ?_
  refine x_iload_n (pc := 80) dC_turns_80 rfl (q := 3) rfl ?_
  exact x_invS (pc := 81) dC_turns_81 (S := [.int v2, .int v1, .ref r1, .int v4]) (As := [.int v3]) mlC_269 hJi_bitCount rfl ⟨by decide, by decide⟩ ⟨Nat.zero_le _, Nat.zero_le _⟩ rfl (Nat.le_of_ble_eq_true rfl) (aftI (b' := b) ⟨Nat.le_refl _, Nat.le_refl _⟩ (fun rv N h => x_loc [0, 1, 2, 3, 5] rfl h) h)

theorem vC_turns_84 {M : Mm} {b : Nat × Nat} {K : Int32 → Mm → Prop} {v0 : Nat} {v1 : Int32} {v2 : Int32} {v3 : Int32} {v5 : Int32} {w0 : Int32} {w1 : Int32} {w2 : Int32} {w3 : Nat} {w4 : Int32} (kw3 : w3 % 64 = 8) 
    (h : CI mWe_turnsBy [.ref w3, .int w2, .int w1, .int w0] M (fun rv N => X mC_turns 87 [(0, .ref v0), (1, .int v1), (2, .int v2), (3, .int v3), (5, .int v5)] [.int rv, .int w4] N b (QI K))) : X mC_turns 84 [(0, .ref v0), (1, .int v1), (2, .int v2), (3, .int v3), (5, .int v5)] [.int w0, .int w1, .int w2, .ref w3, .int w4] M b (QI K) := by
  refine x_wf (fun hw => ?_)
  exact x_invV (pc := 84) dC_turns_84 (c := 8) (S := [.int w4]) (As := [.int w2, .int w1, .int w0]) mlC_308 hWe_turnsBy rfl (by decide) rfl kw3 ⟨by decide, by decide⟩ ⟨Nat.zero_le _, Nat.zero_le _⟩ rfl (Nat.le_of_ble_eq_true rfl) (aftI (b' := b) ⟨Nat.le_refl _, Nat.le_refl _⟩ (fun rv N h => h) h)

theorem vC_turns_87 {M : Mm} {b : Nat × Nat} {K : Int32 → Mm → Prop} {v0 : Nat} {v1 : Int32} {v2 : Int32} {v3 : Int32} {v5 : Int32} {w0 : Int32} {w1 : Int32}  
    (h : X mC_turns 47 [(0, .ref v0), (1, .int v1), (2, .int v2), (3, .int v3), (4, .int (w1 + (if w0 = 0 then 0 else 1 : Int32))), (5, .int (v5 + 1))] [] M b (QI K)) : X mC_turns 87 [(0, .ref v0), (1, .int v1), (2, .int v2), (3, .int v3), (5, .int v5)] [.int w0, .int w1] M b (QI K) := by
  refine x_wf (fun hw => ?_)
  suffices hJ : X mC_turns 95 [(0, .ref v0), (1, .int v1), (2, .int v2), (3, .int v3), (5, .int v5)] [.int (if w0 = 0 then 0 else 1 : Int32), .int w1] M b (QI K) by
    refine x_if_eq (pc := 87) dC_turns_87 (t := 94) rfl (fun q1 => ?_) (fun q1 => ?_)
    · refine x_iconst (pc := 94) dC_turns_94 (v := 0) rfl ?_
      first | (rw [if_pos q1] at hJ; exact hJ) | (simp only [if_pos q1] at hJ ⊢; exact hJ)
    · refine x_iconst (pc := 90) dC_turns_90 (v := 1) rfl ?_
      refine x_goto (pc := 91) dC_turns_91 (t := 95) rfl ?_
      first | (rw [if_neg q1] at hJ; exact hJ) | (simp only [if_neg q1] at hJ ⊢; exact hJ)
  refine x_iadd (pc := 95) dC_turns_95 ?_
  refine x_istore (pc := 96) dC_turns_96 (by decide) (L' := [(4, .int (w1 + (if w0 = 0 then 0 else 1 : Int32))), (0, .ref v0), (1, .int v1), (2, .int v2), (3, .int v3), (5, .int v5)]) rfl ?_
  refine x_iinc (pc := 98) dC_turns_98 (q := 5) rfl (v := v5 + 1) rfl (by decide) (L' := [(5, .int (v5 + 1)), (4, .int (w1 + (if w0 = 0 then 0 else 1 : Int32))), (0, .ref v0), (1, .int v1), (2, .int v2), (3, .int v3)]) rfl ?_
  refine x_goto (pc := 101) dC_turns_101 (t := 47) rfl ?_
  exact x_loc [2, 3, 4, 5, 1, 0] rfl h

theorem dC_keep_0 : decode (mB mC_keep) 0 = .ok (.aload_n 0, 1) := op42 (by decide +kernel)
theorem dC_keep_1 : decode (mB mC_keep) 1 = .ok (.getfield 58, 3) := op180 0 58 (by decide +kernel)
theorem dC_keep_4 : decode (mB mC_keep) 4 = .ok (.aload_n 0, 1) := op42 (by decide +kernel)
theorem dC_keep_5 : decode (mB mC_keep) 5 = .ok (.getfield 54, 3) := op180 0 54 (by decide +kernel)
theorem dC_keep_8 : decode (mB mC_keep) 8 = .ok (.invokevirtual 312, 3) := op182 1 56 (by decide +kernel)
theorem dC_keep_11 : decode (mB mC_keep) 11 = .ok (.iconst 1, 1) := op4 (by decide +kernel)
theorem dC_keep_12 : decode (mB mC_keep) 12 = .ok (.ireturn, 1) := op172 (by decide +kernel)

theorem vC_keep_0 {M : Mm} {b : Nat × Nat} {K : Int32 → Mm → Prop} {v0 : Nat} {r1 : Nat} {r2 : Nat} (kv0 : v0 % 64 = 10) (e1 : gr M v0 7 = some r1) (e2 : gr M v0 6 = some r2)
    (h : CV mRu_becomeAs [.ref r1, .ref r2] M (fun N => X mC_keep 11 [] [] N b (QI K))) : X mC_keep 0 [(0, .ref v0)] [] M b (QI K) := by
  refine x_wf (fun hw => ?_)
  refine x_aload_n (pc := 0) dC_keep_0 rfl (q := 0) rfl ?_
  refine x_getR (pc := 1) dC_keep_1 kv0 flC_58 rfl e1 ?_
  refine x_aload_n (pc := 4) dC_keep_4 rfl (q := 0) rfl ?_
  refine x_getR (pc := 5) dC_keep_5 kv0 flC_54 rfl e2 ?_
  exact x_invV (pc := 8) dC_keep_8 (c := 3) (S := []) (As := [.ref r2]) mlC_312 hRu_becomeAs rfl (by decide) rfl (wfk hw e1 kv0) ⟨by decide, by decide⟩ ⟨Nat.zero_le _, Nat.zero_le _⟩ rfl (Nat.le_of_ble_eq_true rfl) (aftV (b' := b) ⟨Nat.le_refl _, Nat.le_refl _⟩ (fun N h => x_loc [] rfl h) h)

theorem vC_keep_11 {M : Mm} {b : Nat × Nat} {K : Int32 → Mm → Prop}   
    (h : K 1 M) : X mC_keep 11 [] [] M b (QI K) := by
  refine x_wf (fun hw => ?_)
  refine x_iconst (pc := 11) dC_keep_11 (v := 1) rfl ?_
  exact x_retQI (pc := 12) dC_keep_12 rfl rfl h

theorem dC_swap_0 : decode (mB mC_swap) 0 = .ok (.aload_n 0, 1) := op42 (by decide +kernel)
theorem dC_swap_1 : decode (mB mC_swap) 1 = .ok (.getfield 54, 3) := op180 0 54 (by decide +kernel)
theorem dC_swap_4 : decode (mB mC_swap) 4 = .ok (.astore_n 1, 1) := op76 (by decide +kernel)
theorem dC_swap_5 : decode (mB mC_swap) 5 = .ok (.aload_n 0, 1) := op42 (by decide +kernel)
theorem dC_swap_6 : decode (mB mC_swap) 6 = .ok (.aload_n 0, 1) := op42 (by decide +kernel)
theorem dC_swap_7 : decode (mB mC_swap) 7 = .ok (.getfield 58, 3) := op180 0 58 (by decide +kernel)
theorem dC_swap_10 : decode (mB mC_swap) 10 = .ok (.putfield 54, 3) := op181 0 54 (by decide +kernel)
theorem dC_swap_13 : decode (mB mC_swap) 13 = .ok (.aload_n 0, 1) := op42 (by decide +kernel)
theorem dC_swap_14 : decode (mB mC_swap) 14 = .ok (.aload_n 1, 1) := op43 (by decide +kernel)
theorem dC_swap_15 : decode (mB mC_swap) 15 = .ok (.putfield 58, 3) := op181 0 58 (by decide +kernel)
theorem dC_swap_18 : decode (mB mC_swap) 18 = .ok (.iconst 1, 1) := op4 (by decide +kernel)
theorem dC_swap_19 : decode (mB mC_swap) 19 = .ok (.ireturn, 1) := op172 (by decide +kernel)

theorem vC_swap_0 {M : Mm} {b : Nat × Nat} {K : Int32 → Mm → Prop} {v0 : Nat} {r1 : Nat} {r2 : Nat} (kv0 : v0 % 64 = 10) (e1 : gr M v0 6 = some r1) (e2 : gr M v0 7 = some r2)
    (h : K 1 (sr (sr M v0 6 (some r2)) v0 7 (some r1))) : X mC_swap 0 [(0, .ref v0)] [] M b (QI K) := by
  refine x_wf (fun hw => ?_)
  refine x_aload_n (pc := 0) dC_swap_0 rfl (q := 0) rfl ?_
  refine x_getR (pc := 1) dC_swap_1 kv0 flC_54 rfl e1 ?_
  refine x_astore_n (pc := 4) dC_swap_4 rfl (by decide) (L' := [(1, .ref r1), (0, .ref v0)]) rfl ?_
  refine x_aload_n (pc := 5) dC_swap_5 rfl (q := 1) rfl ?_
  refine x_aload_n (pc := 6) dC_swap_6 rfl (q := 1) rfl ?_
  refine x_getR (pc := 7) dC_swap_7 kv0 flC_58 rfl e2 ?_
  refine x_putR (pc := 10) dC_swap_10 kv0 flC_54 (Or.inl rfl) (Or.inl ⟨_, rfl⟩) (by first | exact (wfk hw e2 kv0) | (rw [(wfk hw e2 kv0)]; rfl)) (by decide) ?_
  refine x_aload_n (pc := 13) dC_swap_13 rfl (q := 1) rfl ?_
  refine x_aload_n (pc := 14) dC_swap_14 rfl (q := 0) rfl ?_
  refine x_putR (pc := 15) dC_swap_15 kv0 flC_58 (Or.inl rfl) (Or.inl ⟨_, rfl⟩) (by first | exact (wfk hw e1 kv0) | (rw [(wfk hw e1 kv0)]; rfl)) (by decide) ?_
  refine x_iconst (pc := 18) dC_swap_18 (v := 1) rfl ?_
  exact x_retQI (pc := 19) dC_swap_19 rfl rfl h

theorem dC_differ_0 : decode (mB mC_differ) 0 = .ok (.iload_n 1, 1) := op27 (by decide +kernel)
theorem dC_differ_1 : decode (mB mC_differ) 1 = .ok (.invokestatic 218, 3) := op184 0 218 (by decide +kernel)
theorem dC_differ_4 : decode (mB mC_differ) 4 = .ok (.ifCond .ne 5, 3) := op154 0 5 (by decide +kernel)
theorem dC_differ_7 : decode (mB mC_differ) 7 = .ok (.iconst (-1), 1) := op2 (by decide +kernel)
theorem dC_differ_8 : decode (mB mC_differ) 8 = .ok (.ireturn, 1) := op172 (by decide +kernel)
theorem dC_differ_9 : decode (mB mC_differ) 9 = .ok (.aload_n 0, 1) := op42 (by decide +kernel)
theorem dC_differ_10 : decode (mB mC_differ) 10 = .ok (.invokevirtual 212, 3) := op182 0 212 (by decide +kernel)
theorem dC_differ_13 : decode (mB mC_differ) 13 = .ok (.aload_n 0, 1) := op42 (by decide +kernel)
theorem dC_differ_14 : decode (mB mC_differ) 14 = .ok (.getfield 73, 3) := op180 0 73 (by decide +kernel)
theorem dC_differ_17 : decode (mB mC_differ) 17 = .ok (.iconst 0, 1) := op3 (by decide +kernel)
theorem dC_differ_18 : decode (mB mC_differ) 18 = .ok (.invokevirtual 316, 3) := op182 1 60 (by decide +kernel)
theorem dC_differ_21 : decode (mB mC_differ) 21 = .ok (.lstore_n 2, 1) := op65 (by decide +kernel)
theorem dC_differ_22 : decode (mB mC_differ) 22 = .ok (.aload_n 0, 1) := op42 (by decide +kernel)
theorem dC_differ_23 : decode (mB mC_differ) 23 = .ok (.getfield 73, 3) := op180 0 73 (by decide +kernel)
theorem dC_differ_26 : decode (mB mC_differ) 26 = .ok (.iconst 1, 1) := op4 (by decide +kernel)
theorem dC_differ_27 : decode (mB mC_differ) 27 = .ok (.invokevirtual 316, 3) := op182 1 60 (by decide +kernel)
theorem dC_differ_30 : decode (mB mC_differ) 30 = .ok (.lstore 4, 2) := op55 4 (by decide +kernel)
theorem dC_differ_32 : decode (mB mC_differ) 32 = .ok (.aload_n 0, 1) := op42 (by decide +kernel)
theorem dC_differ_33 : decode (mB mC_differ) 33 = .ok (.getfield 73, 3) := op180 0 73 (by decide +kernel)
theorem dC_differ_36 : decode (mB mC_differ) 36 = .ok (.aload_n 0, 1) := op42 (by decide +kernel)
theorem dC_differ_37 : decode (mB mC_differ) 37 = .ok (.getfield 44, 3) := op180 0 44 (by decide +kernel)
theorem dC_differ_40 : decode (mB mC_differ) 40 = .ok (.aload_n 0, 1) := op42 (by decide +kernel)
theorem dC_differ_41 : decode (mB mC_differ) 41 = .ok (.getfield 58, 3) := op180 0 58 (by decide +kernel)
theorem dC_differ_44 : decode (mB mC_differ) 44 = .ok (.aload_n 0, 1) := op42 (by decide +kernel)
theorem dC_differ_45 : decode (mB mC_differ) 45 = .ok (.getfield 64, 3) := op180 0 64 (by decide +kernel)
theorem dC_differ_48 : decode (mB mC_differ) 48 = .ok (.invokevirtual 285, 3) := op182 1 29 (by decide +kernel)
theorem dC_differ_51 : decode (mB mC_differ) 51 = .ok (.lload_n 2, 1) := op32 (by decide +kernel)
theorem dC_differ_52 : decode (mB mC_differ) 52 = .ok (.aload_n 0, 1) := op42 (by decide +kernel)
theorem dC_differ_53 : decode (mB mC_differ) 53 = .ok (.getfield 73, 3) := op180 0 73 (by decide +kernel)
theorem dC_differ_56 : decode (mB mC_differ) 56 = .ok (.iconst 0, 1) := op3 (by decide +kernel)
theorem dC_differ_57 : decode (mB mC_differ) 57 = .ok (.invokevirtual 316, 3) := op182 1 60 (by decide +kernel)
theorem dC_differ_60 : decode (mB mC_differ) 60 = .ok (.lxor, 1) := op131 (by decide +kernel)
theorem dC_differ_61 : decode (mB mC_differ) 61 = .ok (.lload 4, 2) := op22 4 (by decide +kernel)
theorem dC_differ_63 : decode (mB mC_differ) 63 = .ok (.aload_n 0, 1) := op42 (by decide +kernel)
theorem dC_differ_64 : decode (mB mC_differ) 64 = .ok (.getfield 73, 3) := op180 0 73 (by decide +kernel)
theorem dC_differ_67 : decode (mB mC_differ) 67 = .ok (.iconst 1, 1) := op4 (by decide +kernel)
theorem dC_differ_68 : decode (mB mC_differ) 68 = .ok (.invokevirtual 316, 3) := op182 1 60 (by decide +kernel)
theorem dC_differ_71 : decode (mB mC_differ) 71 = .ok (.lxor, 1) := op131 (by decide +kernel)
theorem dC_differ_72 : decode (mB mC_differ) 72 = .ok (.lor, 1) := op129 (by decide +kernel)
theorem dC_differ_73 : decode (mB mC_differ) 73 = .ok (.lstore 6, 2) := op55 6 (by decide +kernel)
theorem dC_differ_75 : decode (mB mC_differ) 75 = .ok (.lload 6, 2) := op22 6 (by decide +kernel)
theorem dC_differ_77 : decode (mB mC_differ) 77 = .ok (.iload_n 1, 1) := op27 (by decide +kernel)
theorem dC_differ_78 : decode (mB mC_differ) 78 = .ok (.invokestatic 225, 3) := op184 0 225 (by decide +kernel)
theorem dC_differ_81 : decode (mB mC_differ) 81 = .ok (.ireturn, 1) := op172 (by decide +kernel)

theorem vC_differ_0 {M : Mm} {b : Nat × Nat} {K : Int32 → Mm → Prop} {v0 : Nat} {v1 : Int32}  
    (h : CI mC_isEither [.int v1] M (fun rv N => X mC_differ 4 [(0, .ref v0), (1, .int v1)] [.int rv] N b (QI K))) : X mC_differ 0 [(0, .ref v0), (1, .int v1)] [] M b (QI K) := by
  refine x_wf (fun hw => ?_)
  refine x_iload_n (pc := 0) dC_differ_0 rfl (q := 1) rfl ?_
  exact x_invS (pc := 1) dC_differ_1 (S := []) (As := [.int v1]) mlC_218 hC_isEither rfl ⟨by decide, by decide⟩ ⟨Nat.zero_le _, Nat.zero_le _⟩ rfl (Nat.le_of_ble_eq_true rfl) (aftI (b' := b) ⟨Nat.le_refl _, Nat.le_refl _⟩ (fun rv N h => h) h)

theorem vC_differ_4 {M : Mm} {b : Nat × Nat} {K : Int32 → Mm → Prop} {v0 : Nat} {v1 : Int32} {w0 : Int32} (kv0 : v0 % 64 = 10) 
    (h : (¬ w0 = 0 → (CV mC_weighNow [.ref v0] M (fun N => X mC_differ 13 [(0, .ref v0), (1, .int v1)] [] N b (QI K)))) ∧ (w0 = 0 → (K (-1) M))) : X mC_differ 4 [(0, .ref v0), (1, .int v1)] [.int w0] M b (QI K) := by
  refine x_wf (fun hw => ?_)
  obtain ⟨g1_0, g1_1⟩ := h
  refine x_if_ne (pc := 4) dC_differ_4 (t := 9) rfl (fun q1 => ?_) (fun q1 => ?_)
  · refine x_aload_n (pc := 9) dC_differ_9 rfl (q := 0) rfl ?_
    have h := g1_0 q1
    exact x_invV (pc := 10) dC_differ_10 (c := 10) (S := []) (As := []) mlC_212 hC_weighNow rfl (by decide) rfl kv0 ⟨by decide, by decide⟩ ⟨Nat.zero_le _, Nat.zero_le _⟩ rfl (Nat.le_of_ble_eq_true rfl) (aftV (b' := b) ⟨Nat.le_refl _, Nat.le_refl _⟩ (fun N h => h) h)
  · refine x_iconst (pc := 7) dC_differ_7 (v := (-1)) rfl ?_
    have h := g1_1 q1
    exact x_retQI (pc := 8) dC_differ_8 rfl rfl h

theorem vC_differ_13 {M : Mm} {b : Nat × Nat} {K : Int32 → Mm → Prop} {v0 : Nat} {v1 : Int32} {r1 : Nat} (kv0 : v0 % 64 = 10) (e1 : gr M v0 11 = some r1)
    (h : CJ mWe_casesOf [.ref r1, .int 0] M (fun rv N => X mC_differ 21 [(0, .ref v0), (1, .int v1)] [.long rv] N b (QI K))) : X mC_differ 13 [(0, .ref v0), (1, .int v1)] [] M b (QI K) := by
  refine x_wf (fun hw => ?_)
  refine x_aload_n (pc := 13) dC_differ_13 rfl (q := 0) rfl ?_
  refine x_getR (pc := 14) dC_differ_14 kv0 flC_73 rfl e1 ?_
  refine x_iconst (pc := 17) dC_differ_17 (v := 0) rfl ?_
  exact x_invV (pc := 18) dC_differ_18 (c := 8) (S := []) (As := [.int 0]) mlC_316 hWe_casesOf rfl (by decide) rfl (wfk hw e1 kv0) ⟨by decide, by decide⟩ ⟨Nat.zero_le _, Nat.zero_le _⟩ rfl (Nat.le_of_ble_eq_true rfl) (aftJ (b' := b) ⟨Nat.le_refl _, Nat.le_refl _⟩ (fun rv N h => h) h)

theorem vC_differ_21 {M : Mm} {b : Nat × Nat} {K : Int32 → Mm → Prop} {v0 : Nat} {v1 : Int32} {w0 : Int64} {r1 : Nat} (kv0 : v0 % 64 = 10) (e1 : gr M v0 11 = some r1)
    (h : CJ mWe_casesOf [.ref r1, .int 1] M (fun rv N => X mC_differ 30 [(0, .ref v0), (1, .int v1), (2, .long w0)] [.long rv] N b (QI K))) : X mC_differ 21 [(0, .ref v0), (1, .int v1)] [.long w0] M b (QI K) := by
  refine x_wf (fun hw => ?_)
  refine x_lstore_n (pc := 21) dC_differ_21 rfl (by decide) (L' := [(2, .long w0), (0, .ref v0), (1, .int v1)]) rfl ?_
  refine x_aload_n (pc := 22) dC_differ_22 rfl (q := 1) rfl ?_
  refine x_getR (pc := 23) dC_differ_23 kv0 flC_73 rfl e1 ?_
  refine x_iconst (pc := 26) dC_differ_26 (v := 1) rfl ?_
  exact x_invV (pc := 27) dC_differ_27 (c := 8) (S := []) (As := [.int 1]) mlC_316 hWe_casesOf rfl (by decide) rfl (wfk hw e1 kv0) ⟨by decide, by decide⟩ ⟨Nat.zero_le _, Nat.zero_le _⟩ rfl (Nat.le_of_ble_eq_true rfl) (aftJ (b' := b) ⟨Nat.le_refl _, Nat.le_refl _⟩ (fun rv N h => x_loc [1, 2, 0] rfl h) h)

theorem vC_differ_30 {M : Mm} {b : Nat × Nat} {K : Int32 → Mm → Prop} {v0 : Nat} {v1 : Int32} {v2 : Int64} {w0 : Int64} {r1 : Nat} {r2 : Nat} {r3 : Nat} (kv0 : v0 % 64 = 10) (e1 : gr M v0 11 = some r1) (e2 : gr M v0 4 = some r2) (e3 : gr M v0 7 = some r3)
    (h : CV mWe_begin [.ref r1, .ref r2, .ref r3, .int (gi M v0 9)] M (fun N => X mC_differ 51 [(0, .ref v0), (1, .int v1), (2, .long v2), (4, .long w0)] [] N b (QI K))) : X mC_differ 30 [(0, .ref v0), (1, .int v1), (2, .long v2)] [.long w0] M b (QI K) := by
  refine x_wf (fun hw => ?_)
  refine x_lstore (pc := 30) dC_differ_30 (by decide) (L' := [(4, .long w0), (0, .ref v0), (1, .int v1), (2, .long v2)]) rfl ?_
  refine x_aload_n (pc := 32) dC_differ_32 rfl (q := 1) rfl ?_
  refine x_getR (pc := 33) dC_differ_33 kv0 flC_73 rfl e1 ?_
  refine x_aload_n (pc := 36) dC_differ_36 rfl (q := 1) rfl ?_
  refine x_getR (pc := 37) dC_differ_37 kv0 flC_44 rfl e2 ?_
  refine x_aload_n (pc := 40) dC_differ_40 rfl (q := 1) rfl ?_
  refine x_getR (pc := 41) dC_differ_41 kv0 flC_58 rfl e3 ?_
  refine x_aload_n (pc := 44) dC_differ_44 rfl (q := 1) rfl ?_
  refine x_getI (pc := 45) dC_differ_45 kv0 flC_64 rfl ?_
  exact x_invV (pc := 48) dC_differ_48 (c := 8) (S := []) (As := [.ref r2, .ref r3, .int (gi M v0 9)]) mlC_285 hWe_begin rfl (by decide) rfl (wfk hw e1 kv0) ⟨by decide, by decide⟩ ⟨Nat.zero_le _, Nat.zero_le _⟩ rfl (Nat.le_of_ble_eq_true rfl) (aftV (b' := b) ⟨Nat.le_refl _, Nat.le_refl _⟩ (fun N h => x_loc [1, 2, 3, 0] rfl h) h)

theorem vC_differ_51 {M : Mm} {b : Nat × Nat} {K : Int32 → Mm → Prop} {v0 : Nat} {v1 : Int32} {v2 : Int64} {v4 : Int64} {r1 : Nat} (kv0 : v0 % 64 = 10) (e1 : gr M v0 11 = some r1)
    (h : CJ mWe_casesOf [.ref r1, .int 0] M (fun rv N => X mC_differ 60 [(0, .ref v0), (1, .int v1), (4, .long v4)] [.long rv, .long v2] N b (QI K))) : X mC_differ 51 [(0, .ref v0), (1, .int v1), (2, .long v2), (4, .long v4)] [] M b (QI K) := by
  refine x_wf (fun hw => ?_)
  refine x_lload_n (pc := 51) dC_differ_51 rfl (q := 2) rfl ?_
  refine x_aload_n (pc := 52) dC_differ_52 rfl (q := 0) rfl ?_
  refine x_getR (pc := 53) dC_differ_53 kv0 flC_73 rfl e1 ?_
  refine x_iconst (pc := 56) dC_differ_56 (v := 0) rfl ?_
  exact x_invV (pc := 57) dC_differ_57 (c := 8) (S := [.long v2]) (As := [.int 0]) mlC_316 hWe_casesOf rfl (by decide) rfl (wfk hw e1 kv0) ⟨by decide, by decide⟩ ⟨Nat.zero_le _, Nat.zero_le _⟩ rfl (Nat.le_of_ble_eq_true rfl) (aftJ (b' := b) ⟨Nat.le_refl _, Nat.le_refl _⟩ (fun rv N h => x_loc [0, 1, 3] rfl h) h)

theorem vC_differ_60 {M : Mm} {b : Nat × Nat} {K : Int32 → Mm → Prop} {v0 : Nat} {v1 : Int32} {v4 : Int64} {w0 : Int64} {w1 : Int64} {r1 : Nat} (kv0 : v0 % 64 = 10) (e1 : gr M v0 11 = some r1)
    (h : CJ mWe_casesOf [.ref r1, .int 1] M (fun rv N => X mC_differ 71 [(1, .int v1)] [.long rv, .long v4, .long (w1 ^^^ w0)] N b (QI K))) : X mC_differ 60 [(0, .ref v0), (1, .int v1), (4, .long v4)] [.long w0, .long w1] M b (QI K) := by
  refine x_wf (fun hw => ?_)
  refine x_lxor (pc := 60) dC_differ_60 ?_
  refine x_lload (pc := 61) dC_differ_61 (q := 2) rfl ?_
  refine x_aload_n (pc := 63) dC_differ_63 rfl (q := 0) rfl ?_
  refine x_getR (pc := 64) dC_differ_64 kv0 flC_73 rfl e1 ?_
  refine x_iconst (pc := 67) dC_differ_67 (v := 1) rfl ?_
  exact x_invV (pc := 68) dC_differ_68 (c := 8) (S := [.long v4, .long (w1 ^^^ w0)]) (As := [.int 1]) mlC_316 hWe_casesOf rfl (by decide) rfl (wfk hw e1 kv0) ⟨by decide, by decide⟩ ⟨Nat.zero_le _, Nat.zero_le _⟩ rfl (Nat.le_of_ble_eq_true rfl) (aftJ (b' := b) ⟨Nat.le_refl _, Nat.le_refl _⟩ (fun rv N h => x_loc [1] rfl h) h)

theorem vC_differ_71 {M : Mm} {b : Nat × Nat} {K : Int32 → Mm → Prop} {v1 : Int32} {w0 : Int64} {w1 : Int64} {w2 : Int64}  
    (h : CI mC_manyOrLeast [.long (w2 ||| (w1 ^^^ w0)), .int v1] M (fun rv N => X mC_differ 81 [] [.int rv] N b (QI K))) : X mC_differ 71 [(1, .int v1)] [.long w0, .long w1, .long w2] M b (QI K) := by
  refine x_wf (fun hw => ?_)
  refine x_lxor (pc := 71) dC_differ_71 ?_
  refine x_lor (pc := 72) dC_differ_72 ?_
  refine x_lstore (pc := 73) dC_differ_73 (by decide) (L' := [(6, .long (w2 ||| (w1 ^^^ w0))), (1, .int v1)]) rfl ?_
  refine x_lload (pc := 75) dC_differ_75 (q := 0) rfl ?_
  refine x_iload_n (pc := 77) dC_differ_77 rfl (q := 1) rfl ?_
  exact x_invS (pc := 78) dC_differ_78 (S := []) (As := [.long (w2 ||| (w1 ^^^ w0)), .int v1]) mlC_225 hC_manyOrLeast rfl ⟨by decide, by decide⟩ ⟨Nat.zero_le _, Nat.zero_le _⟩ rfl (Nat.le_of_ble_eq_true rfl) (aftI (b' := b) ⟨Nat.le_refl _, Nat.le_refl _⟩ (fun rv N h => x_loc [] rfl h) h)

theorem vC_differ_81 {M : Mm} {b : Nat × Nat} {K : Int32 → Mm → Prop} {w0 : Int32}  
    (h : K w0 M) : X mC_differ 81 [] [.int w0] M b (QI K) := by
  refine x_wf (fun hw => ?_)
  exact x_retQI (pc := 81) dC_differ_81 rfl rfl h

theorem dC_brief_0 : decode (mB mC_brief) 0 = .ok (.iload_n 1, 1) := op27 (by decide +kernel)
theorem dC_brief_1 : decode (mB mC_brief) 1 = .ok (.invokestatic 218, 3) := op184 0 218 (by decide +kernel)
theorem dC_brief_4 : decode (mB mC_brief) 4 = .ok (.ifCond .ne 5, 3) := op154 0 5 (by decide +kernel)
theorem dC_brief_7 : decode (mB mC_brief) 7 = .ok (.iconst (-1), 1) := op2 (by decide +kernel)
theorem dC_brief_8 : decode (mB mC_brief) 8 = .ok (.ireturn, 1) := op172 (by decide +kernel)
theorem dC_brief_9 : decode (mB mC_brief) 9 = .ok (.aload_n 0, 1) := op42 (by decide +kernel)
theorem dC_brief_10 : decode (mB mC_brief) 10 = .ok (.iconst 0, 1) := op3 (by decide +kernel)
theorem dC_brief_11 : decode (mB mC_brief) 11 = .ok (.invokevirtual 260, 3) := op182 1 4 (by decide +kernel)
theorem dC_brief_14 : decode (mB mC_brief) 14 = .ok (.lstore_n 2, 1) := op65 (by decide +kernel)
theorem dC_brief_15 : decode (mB mC_brief) 15 = .ok (.aload_n 0, 1) := op42 (by decide +kernel)
theorem dC_brief_16 : decode (mB mC_brief) 16 = .ok (.iconst 1, 1) := op4 (by decide +kernel)
theorem dC_brief_17 : decode (mB mC_brief) 17 = .ok (.invokevirtual 260, 3) := op182 1 4 (by decide +kernel)
theorem dC_brief_20 : decode (mB mC_brief) 20 = .ok (.lstore 4, 2) := op55 4 (by decide +kernel)
theorem dC_brief_22 : decode (mB mC_brief) 22 = .ok (.bipush 63, 2) := op16 63 (by decide +kernel)
theorem dC_brief_24 : decode (mB mC_brief) 24 = .ok (.istore 6, 2) := op54 6 (by decide +kernel)
theorem dC_brief_26 : decode (mB mC_brief) 26 = .ok (.iconst 0, 1) := op3 (by decide +kernel)
theorem dC_brief_27 : decode (mB mC_brief) 27 = .ok (.istore 7, 2) := op54 7 (by decide +kernel)
theorem dC_brief_29 : decode (mB mC_brief) 29 = .ok (.iload 7, 2) := op21 7 (by decide +kernel)
theorem dC_brief_31 : decode (mB mC_brief) 31 = .ok (.bipush 64, 2) := op16 64 (by decide +kernel)
theorem dC_brief_33 : decode (mB mC_brief) 33 = .ok (.if_icmp .ge 37, 3) := op162 0 37 (by decide +kernel)
theorem dC_brief_36 : decode (mB mC_brief) 36 = .ok (.iload 7, 2) := op21 7 (by decide +kernel)
theorem dC_brief_38 : decode (mB mC_brief) 38 = .ok (.invokestatic 269, 3) := op184 1 13 (by decide +kernel)
theorem dC_brief_41 : decode (mB mC_brief) 41 = .ok (.iload 6, 2) := op21 6 (by decide +kernel)
theorem dC_brief_43 : decode (mB mC_brief) 43 = .ok (.invokestatic 269, 3) := op184 1 13 (by decide +kernel)
theorem dC_brief_46 : decode (mB mC_brief) 46 = .ok (.if_icmp .ge 18, 3) := op162 0 18 (by decide +kernel)
theorem dC_brief_49 : decode (mB mC_brief) 49 = .ok (.iload 7, 2) := op21 7 (by decide +kernel)
theorem dC_brief_51 : decode (mB mC_brief) 51 = .ok (.lload_n 2, 1) := op32 (by decide +kernel)
theorem dC_brief_52 : decode (mB mC_brief) 52 = .ok (.lload 4, 2) := op22 4 (by decide +kernel)
theorem dC_brief_54 : decode (mB mC_brief) 54 = .ok (.invokestatic 319, 3) := op184 1 63 (by decide +kernel)
theorem dC_brief_57 : decode (mB mC_brief) 57 = .ok (.ifCond .eq 7, 3) := op153 0 7 (by decide +kernel)
theorem dC_brief_60 : decode (mB mC_brief) 60 = .ok (.iload 7, 2) := op21 7 (by decide +kernel)
theorem dC_brief_62 : decode (mB mC_brief) 62 = .ok (.istore 6, 2) := op54 6 (by decide +kernel)
theorem dC_brief_64 : decode (mB mC_brief) 64 = .ok (.iinc 7 1, 3) := op132 7 1 (by decide +kernel)
theorem dC_brief_67 : decode (mB mC_brief) 67 = .ok (.goto (-38), 3) := op167 255 218 (by decide +kernel)
theorem dC_brief_70 : decode (mB mC_brief) 70 = .ok (.iload_n 1, 1) := op27 (by decide +kernel)
theorem dC_brief_71 : decode (mB mC_brief) 71 = .ok (.ifCond .ne 11, 3) := op154 0 11 (by decide +kernel)
theorem dC_brief_74 : decode (mB mC_brief) 74 = .ok (.iload 6, 2) := op21 6 (by decide +kernel)
theorem dC_brief_76 : decode (mB mC_brief) 76 = .ok (.invokestatic 269, 3) := op184 1 13 (by decide +kernel)
theorem dC_brief_79 : decode (mB mC_brief) 79 = .ok (.goto 5, 3) := op167 0 5 (by decide +kernel)
theorem dC_brief_82 : decode (mB mC_brief) 82 = .ok (.iload 6, 2) := op21 6 (by decide +kernel)
theorem dC_brief_84 : decode (mB mC_brief) 84 = .ok (.ireturn, 1) := op172 (by decide +kernel)

theorem vC_brief_0 {M : Mm} {b : Nat × Nat} {K : Int32 → Mm → Prop} {v0 : Nat} {v1 : Int32}  
    (h : CI mC_isEither [.int v1] M (fun rv N => X mC_brief 4 [(0, .ref v0), (1, .int v1)] [.int rv] N b (QI K))) : X mC_brief 0 [(0, .ref v0), (1, .int v1)] [] M b (QI K) := by
  refine x_wf (fun hw => ?_)
  refine x_iload_n (pc := 0) dC_brief_0 rfl (q := 1) rfl ?_
  exact x_invS (pc := 1) dC_brief_1 (S := []) (As := [.int v1]) mlC_218 hC_isEither rfl ⟨by decide, by decide⟩ ⟨Nat.zero_le _, Nat.zero_le _⟩ rfl (Nat.le_of_ble_eq_true rfl) (aftI (b' := b) ⟨Nat.le_refl _, Nat.le_refl _⟩ (fun rv N h => h) h)

theorem vC_brief_4 {M : Mm} {b : Nat × Nat} {K : Int32 → Mm → Prop} {v0 : Nat} {v1 : Int32} {w0 : Int32} (kv0 : v0 % 64 = 10) 
    (h : (¬ w0 = 0 → (CJ mC_casesNow [.ref v0, .int 0] M (fun rv N => X mC_brief 14 [(0, .ref v0), (1, .int v1)] [.long rv] N b (QI K)))) ∧ (w0 = 0 → (K (-1) M))) : X mC_brief 4 [(0, .ref v0), (1, .int v1)] [.int w0] M b (QI K) := by
  refine x_wf (fun hw => ?_)
  obtain ⟨g1_0, g1_1⟩ := h
  refine x_if_ne (pc := 4) dC_brief_4 (t := 9) rfl (fun q1 => ?_) (fun q1 => ?_)
  · refine x_aload_n (pc := 9) dC_brief_9 rfl (q := 0) rfl ?_
    refine x_iconst (pc := 10) dC_brief_10 (v := 0) rfl ?_
    have h := g1_0 q1
    exact x_invV (pc := 11) dC_brief_11 (c := 10) (S := []) (As := [.int 0]) mlC_260 hC_casesNow rfl (by decide) rfl kv0 ⟨by decide, by decide⟩ ⟨Nat.zero_le _, Nat.zero_le _⟩ rfl (Nat.le_of_ble_eq_true rfl) (aftJ (b' := b) ⟨Nat.le_refl _, Nat.le_refl _⟩ (fun rv N h => h) h)
  · refine x_iconst (pc := 7) dC_brief_7 (v := (-1)) rfl ?_
    have h := g1_1 q1
    exact x_retQI (pc := 8) dC_brief_8 rfl rfl h

theorem vC_brief_14 {M : Mm} {b : Nat × Nat} {K : Int32 → Mm → Prop} {v0 : Nat} {v1 : Int32} {w0 : Int64} (kv0 : v0 % 64 = 10) 
    (h : CJ mC_casesNow [.ref v0, .int 1] M (fun rv N => X mC_brief 20 [(1, .int v1), (2, .long w0)] [.long rv] N b (QI K))) : X mC_brief 14 [(0, .ref v0), (1, .int v1)] [.long w0] M b (QI K) := by
  refine x_wf (fun hw => ?_)
  refine x_lstore_n (pc := 14) dC_brief_14 rfl (by decide) (L' := [(2, .long w0), (0, .ref v0), (1, .int v1)]) rfl ?_
  refine x_aload_n (pc := 15) dC_brief_15 rfl (q := 1) rfl ?_
  refine x_iconst (pc := 16) dC_brief_16 (v := 1) rfl ?_
  exact x_invV (pc := 17) dC_brief_17 (c := 10) (S := []) (As := [.int 1]) mlC_260 hC_casesNow rfl (by decide) rfl kv0 ⟨by decide, by decide⟩ ⟨Nat.zero_le _, Nat.zero_le _⟩ rfl (Nat.le_of_ble_eq_true rfl) (aftJ (b' := b) ⟨Nat.le_refl _, Nat.le_refl _⟩ (fun rv N h => x_loc [2, 0] rfl h) h)

theorem vC_brief_20 {M : Mm} {b : Nat × Nat} {K : Int32 → Mm → Prop} {v1 : Int32} {v2 : Int64} {w0 : Int64}  
    (h : X mC_brief 29 [(1, .int v1), (2, .long v2), (4, .long w0), (6, .int 63), (7, .int 0)] [] M b (QI K)) : X mC_brief 20 [(1, .int v1), (2, .long v2)] [.long w0] M b (QI K) := by
  refine x_wf (fun hw => ?_)
  refine x_lstore (pc := 20) dC_brief_20 (by decide) (L' := [(4, .long w0), (1, .int v1), (2, .long v2)]) rfl ?_
  refine x_bipush (pc := 22) dC_brief_22 (v := 63) rfl ?_
  refine x_istore (pc := 24) dC_brief_24 (by decide) (L' := [(6, .int 63), (4, .long w0), (1, .int v1), (2, .long v2)]) rfl ?_
  refine x_iconst (pc := 26) dC_brief_26 (v := 0) rfl ?_
  refine x_istore (pc := 27) dC_brief_27 (by decide) (L' := [(7, .int 0), (6, .int 63), (4, .long w0), (1, .int v1), (2, .long v2)]) rfl ?_
  exact x_loc [3, 4, 2, 1, 0] rfl h

theorem vC_brief_29 {M : Mm} {b : Nat × Nat} {K : Int32 → Mm → Prop} {v1 : Int32} {v2 : Int64} {v4 : Int64} {v6 : Int32} {v7 : Int32}  
    (h : ((64 ≤ v7 ∧ ¬ v1 = 0) → (K v6 M)) ∧ ((64 ≤ v7 ∧ v1 = 0) → (CI mJi_bitCount [.int v6] M (fun rv N => X mC_brief 79 [] [.int rv] N b (QI K)))) ∧ (¬ 64 ≤ v7 → (CI mJi_bitCount [.int v7] M (fun rv N => X mC_brief 41 [(1, .int v1), (2, .long v2), (4, .long v4), (6, .int v6), (7, .int v7)] [.int rv] N b (QI K))))) : X mC_brief 29 [(1, .int v1), (2, .long v2), (4, .long v4), (6, .int v6), (7, .int v7)] [] M b (QI K) := by
  refine x_wf (fun hw => ?_)
  refine x_iload (pc := 29) dC_brief_29 (q := 4) rfl ?_
  refine x_bipush (pc := 31) dC_brief_31 (v := 64) rfl ?_
  obtain ⟨g1_0, g1_1, g1_2⟩ := h
  refine x_icmp_ge (pc := 33) dC_brief_33 (t := 70) rfl (fun q1 => ?_) (fun q1 => ?_)
  · refine x_iload_n (pc := 70) dC_brief_70 rfl (q := 0) rfl ?_
    refine x_if_ne (pc := 71) dC_brief_71 (t := 82) rfl (fun q2 => ?_) (fun q2 => ?_)
    · refine x_iload (pc := 82) dC_brief_82 (q := 3) rfl ?_
      have h := g1_0 ⟨q1, q2⟩
      exact x_retQI (pc := 84) dC_brief_84 rfl rfl h
    · refine x_iload (pc := 74) dC_brief_74 (q := 3) rfl ?_
      have h := g1_1 ⟨q1, q2⟩
      exact x_invS (pc := 76) dC_brief_76 (S := []) (As := [.int v6]) mlC_269 hJi_bitCount rfl ⟨by decide, by decide⟩ ⟨Nat.zero_le _, Nat.zero_le _⟩ rfl (Nat.le_of_ble_eq_true rfl) (aftI (b' := b) ⟨Nat.le_refl _, Nat.le_refl _⟩ (fun rv N h => x_loc [] rfl h) h)
  · refine x_iload (pc := 36) dC_brief_36 (q := 4) rfl ?_
    have h := g1_2 q1
    exact x_invS (pc := 38) dC_brief_38 (S := []) (As := [.int v7]) mlC_269 hJi_bitCount rfl ⟨by decide, by decide⟩ ⟨Nat.zero_le _, Nat.zero_le _⟩ rfl (Nat.le_of_ble_eq_true rfl) (aftI (b' := b) ⟨Nat.le_refl _, Nat.le_refl _⟩ (fun rv N h => h) h)

theorem vC_brief_41 {M : Mm} {b : Nat × Nat} {K : Int32 → Mm → Prop} {v1 : Int32} {v2 : Int64} {v4 : Int64} {v6 : Int32} {v7 : Int32} {w0 : Int32}  
    (h : CI mJi_bitCount [.int v6] M (fun rv N => X mC_brief 46 [(1, .int v1), (2, .long v2), (4, .long v4), (6, .int v6), (7, .int v7)] [.int rv, .int w0] N b (QI K))) : X mC_brief 41 [(1, .int v1), (2, .long v2), (4, .long v4), (6, .int v6), (7, .int v7)] [.int w0] M b (QI K) := by
  refine x_wf (fun hw => ?_)
  refine x_iload (pc := 41) dC_brief_41 (q := 3) rfl ?_
  exact x_invS (pc := 43) dC_brief_43 (S := [.int w0]) (As := [.int v6]) mlC_269 hJi_bitCount rfl ⟨by decide, by decide⟩ ⟨Nat.zero_le _, Nat.zero_le _⟩ rfl (Nat.le_of_ble_eq_true rfl) (aftI (b' := b) ⟨Nat.le_refl _, Nat.le_refl _⟩ (fun rv N h => h) h)

theorem vC_brief_46 {M : Mm} {b : Nat × Nat} {K : Int32 → Mm → Prop} {v1 : Int32} {v2 : Int64} {v4 : Int64} {v6 : Int32} {v7 : Int32} {w0 : Int32} {w1 : Int32}  
    (h : (w0 ≤ w1 → (X mC_brief 29 [(1, .int v1), (2, .long v2), (4, .long v4), (6, .int v6), (7, .int (v7 + 1))] [] M b (QI K))) ∧ (¬ w0 ≤ w1 → (CI mC_tellsApart [.int v7, .long v2, .long v4] M (fun rv N => X mC_brief 57 [(1, .int v1), (2, .long v2), (4, .long v4), (6, .int v6), (7, .int v7)] [.int rv] N b (QI K))))) : X mC_brief 46 [(1, .int v1), (2, .long v2), (4, .long v4), (6, .int v6), (7, .int v7)] [.int w0, .int w1] M b (QI K) := by
  refine x_wf (fun hw => ?_)
  obtain ⟨g1_0, g1_1⟩ := h
  refine x_icmp_ge (pc := 46) dC_brief_46 (t := 64) rfl (fun q1 => ?_) (fun q1 => ?_)
  · have h := g1_0 q1
    refine x_iinc (pc := 64) dC_brief_64 (q := 4) rfl (v := v7 + 1) rfl (by decide) (L' := [(7, .int (v7 + 1)), (1, .int v1), (2, .long v2), (4, .long v4), (6, .int v6)]) rfl ?_
    refine x_goto (pc := 67) dC_brief_67 (t := 29) rfl ?_
    exact x_loc [1, 2, 3, 4, 0] rfl h
  · refine x_iload (pc := 49) dC_brief_49 (q := 4) rfl ?_
    refine x_lload_n (pc := 51) dC_brief_51 rfl (q := 1) rfl ?_
    refine x_lload (pc := 52) dC_brief_52 (q := 2) rfl ?_
    have h := g1_1 q1
    exact x_invS (pc := 54) dC_brief_54 (S := []) (As := [.int v7, .long v2, .long v4]) mlC_319 hC_tellsApart rfl ⟨by decide, by decide⟩ ⟨Nat.zero_le _, Nat.zero_le _⟩ rfl (Nat.le_of_ble_eq_true rfl) (aftI (b' := b) ⟨Nat.le_refl _, Nat.le_refl _⟩ (fun rv N h => h) h)

theorem vC_brief_57 {M : Mm} {b : Nat × Nat} {K : Int32 → Mm → Prop} {v1 : Int32} {v2 : Int64} {v4 : Int64} {v6 : Int32} {v7 : Int32} {w0 : Int32}  
    (h : (w0 = 0 → (X mC_brief 29 [(1, .int v1), (2, .long v2), (4, .long v4), (6, .int v6), (7, .int (v7 + 1))] [] M b (QI K))) ∧ (¬ w0 = 0 → (X mC_brief 29 [(1, .int v1), (2, .long v2), (4, .long v4), (6, .int v7), (7, .int (v7 + 1))] [] M b (QI K)))) : X mC_brief 57 [(1, .int v1), (2, .long v2), (4, .long v4), (6, .int v6), (7, .int v7)] [.int w0] M b (QI K) := by
  refine x_wf (fun hw => ?_)
  obtain ⟨g1_0, g1_1⟩ := h
  refine x_if_eq (pc := 57) dC_brief_57 (t := 64) rfl (fun q1 => ?_) (fun q1 => ?_)
  · have h := g1_0 q1
    refine x_iinc (pc := 64) dC_brief_64 (q := 4) rfl (v := v7 + 1) rfl (by decide) (L' := [(7, .int (v7 + 1)), (1, .int v1), (2, .long v2), (4, .long v4), (6, .int v6)]) rfl ?_
    refine x_goto (pc := 67) dC_brief_67 (t := 29) rfl ?_
    exact x_loc [1, 2, 3, 4, 0] rfl h
  · refine x_iload (pc := 60) dC_brief_60 (q := 4) rfl ?_
    have h := g1_1 q1
    refine x_istore (pc := 62) dC_brief_62 (by decide) (L' := [(6, .int v7), (1, .int v1), (2, .long v2), (4, .long v4), (7, .int v7)]) rfl ?_
    refine x_iinc (pc := 64) dC_brief_64 (q := 4) rfl (v := v7 + 1) rfl (by decide) (L' := [(7, .int (v7 + 1)), (6, .int v7), (1, .int v1), (2, .long v2), (4, .long v4)]) rfl ?_
    refine x_goto (pc := 67) dC_brief_67 (t := 29) rfl ?_
    exact x_loc [2, 3, 4, 1, 0] rfl h

theorem vC_brief_79 {M : Mm} {b : Nat × Nat} {K : Int32 → Mm → Prop} {w0 : Int32}  
    (h : K w0 M) : X mC_brief 79 [] [.int w0] M b (QI K) := by
  refine x_wf (fun hw => ?_)
  refine x_goto (pc := 79) dC_brief_79 (t := 84) rfl ?_
  exact x_retQI (pc := 84) dC_brief_84 rfl rfl h

theorem dC_tellsApart_0 : decode (mB mC_tellsApart) 0 = .ok (.lconst 0, 1) := op9 (by decide +kernel)
theorem dC_tellsApart_1 : decode (mB mC_tellsApart) 1 = .ok (.lstore 5, 2) := op55 5 (by decide +kernel)
theorem dC_tellsApart_3 : decode (mB mC_tellsApart) 3 = .ok (.lconst 0, 1) := op9 (by decide +kernel)
theorem dC_tellsApart_4 : decode (mB mC_tellsApart) 4 = .ok (.lstore 7, 2) := op55 7 (by decide +kernel)
theorem dC_tellsApart_6 : decode (mB mC_tellsApart) 6 = .ok (.iconst 0, 1) := op3 (by decide +kernel)
theorem dC_tellsApart_7 : decode (mB mC_tellsApart) 7 = .ok (.istore 9, 2) := op54 9 (by decide +kernel)
theorem dC_tellsApart_9 : decode (mB mC_tellsApart) 9 = .ok (.iload 9, 2) := op21 9 (by decide +kernel)
theorem dC_tellsApart_11 : decode (mB mC_tellsApart) 11 = .ok (.bipush 64, 2) := op16 64 (by decide +kernel)
theorem dC_tellsApart_13 : decode (mB mC_tellsApart) 13 = .ok (.if_icmp .ge 61, 3) := op162 0 61 (by decide +kernel)
theorem dC_tellsApart_16 : decode (mB mC_tellsApart) 16 = .ok (.lconst 1, 1) := op10 (by decide +kernel)
theorem dC_tellsApart_17 : decode (mB mC_tellsApart) 17 = .ok (.iload 9, 2) := op21 9 (by decide +kernel)
theorem dC_tellsApart_19 : decode (mB mC_tellsApart) 19 = .ok (.iload_n 0, 1) := op26 (by decide +kernel)
theorem dC_tellsApart_20 : decode (mB mC_tellsApart) 20 = .ok (.iand, 1) := op126 (by decide +kernel)
theorem dC_tellsApart_21 : decode (mB mC_tellsApart) 21 = .ok (.lshl, 1) := op121 (by decide +kernel)
theorem dC_tellsApart_22 : decode (mB mC_tellsApart) 22 = .ok (.lstore 10, 2) := op55 10 (by decide +kernel)
theorem dC_tellsApart_24 : decode (mB mC_tellsApart) 24 = .ok (.lload 5, 2) := op22 5 (by decide +kernel)
theorem dC_tellsApart_26 : decode (mB mC_tellsApart) 26 = .ok (.lload_n 1, 1) := op31 (by decide +kernel)
theorem dC_tellsApart_27 : decode (mB mC_tellsApart) 27 = .ok (.iload 9, 2) := op21 9 (by decide +kernel)
theorem dC_tellsApart_29 : decode (mB mC_tellsApart) 29 = .ok (.lushr, 1) := op125 (by decide +kernel)
theorem dC_tellsApart_30 : decode (mB mC_tellsApart) 30 = .ok (.lconst 1, 1) := op10 (by decide +kernel)
theorem dC_tellsApart_31 : decode (mB mC_tellsApart) 31 = .ok (.land, 1) := op127 (by decide +kernel)
theorem dC_tellsApart_32 : decode (mB mC_tellsApart) 32 = .ok (.lconst 1, 1) := op10 (by decide +kernel)
theorem dC_tellsApart_33 : decode (mB mC_tellsApart) 33 = .ok (.lcmp, 1) := op148 (by decide +kernel)
theorem dC_tellsApart_34 : decode (mB mC_tellsApart) 34 = .ok (.ifCond .ne 8, 3) := op154 0 8 (by decide +kernel)
theorem dC_tellsApart_37 : decode (mB mC_tellsApart) 37 = .ok (.lload 10, 2) := op22 10 (by decide +kernel)
theorem dC_tellsApart_39 : decode (mB mC_tellsApart) 39 = .ok (.goto 4, 3) := op167 0 4 (by decide +kernel)
theorem dC_tellsApart_42 : decode (mB mC_tellsApart) 42 = .ok (.lconst 0, 1) := op9 (by decide +kernel)
theorem dC_tellsApart_43 : decode (mB mC_tellsApart) 43 = .ok (.lor, 1) := op129 (by decide +kernel)
theorem dC_tellsApart_44 : decode (mB mC_tellsApart) 44 = .ok (.lstore 5, 2) := op55 5 (by decide +kernel)
theorem dC_tellsApart_46 : decode (mB mC_tellsApart) 46 = .ok (.lload 7, 2) := op22 7 (by decide +kernel)
theorem dC_tellsApart_48 : decode (mB mC_tellsApart) 48 = .ok (.lload_n 3, 1) := op33 (by decide +kernel)
theorem dC_tellsApart_49 : decode (mB mC_tellsApart) 49 = .ok (.iload 9, 2) := op21 9 (by decide +kernel)
theorem dC_tellsApart_51 : decode (mB mC_tellsApart) 51 = .ok (.lushr, 1) := op125 (by decide +kernel)
theorem dC_tellsApart_52 : decode (mB mC_tellsApart) 52 = .ok (.lconst 1, 1) := op10 (by decide +kernel)
theorem dC_tellsApart_53 : decode (mB mC_tellsApart) 53 = .ok (.land, 1) := op127 (by decide +kernel)
theorem dC_tellsApart_54 : decode (mB mC_tellsApart) 54 = .ok (.lconst 1, 1) := op10 (by decide +kernel)
theorem dC_tellsApart_55 : decode (mB mC_tellsApart) 55 = .ok (.lcmp, 1) := op148 (by decide +kernel)
theorem dC_tellsApart_56 : decode (mB mC_tellsApart) 56 = .ok (.ifCond .ne 8, 3) := op154 0 8 (by decide +kernel)
theorem dC_tellsApart_59 : decode (mB mC_tellsApart) 59 = .ok (.lload 10, 2) := op22 10 (by decide +kernel)
theorem dC_tellsApart_61 : decode (mB mC_tellsApart) 61 = .ok (.goto 4, 3) := op167 0 4 (by decide +kernel)
theorem dC_tellsApart_64 : decode (mB mC_tellsApart) 64 = .ok (.lconst 0, 1) := op9 (by decide +kernel)
theorem dC_tellsApart_65 : decode (mB mC_tellsApart) 65 = .ok (.lor, 1) := op129 (by decide +kernel)
theorem dC_tellsApart_66 : decode (mB mC_tellsApart) 66 = .ok (.lstore 7, 2) := op55 7 (by decide +kernel)
theorem dC_tellsApart_68 : decode (mB mC_tellsApart) 68 = .ok (.iinc 9 1, 3) := op132 9 1 (by decide +kernel)
theorem dC_tellsApart_71 : decode (mB mC_tellsApart) 71 = .ok (.goto (-62), 3) := op167 255 194 (by decide +kernel)
theorem dC_tellsApart_74 : decode (mB mC_tellsApart) 74 = .ok (.lload 5, 2) := op22 5 (by decide +kernel)
theorem dC_tellsApart_76 : decode (mB mC_tellsApart) 76 = .ok (.lload 7, 2) := op22 7 (by decide +kernel)
theorem dC_tellsApart_78 : decode (mB mC_tellsApart) 78 = .ok (.land, 1) := op127 (by decide +kernel)
theorem dC_tellsApart_79 : decode (mB mC_tellsApart) 79 = .ok (.lconst 0, 1) := op9 (by decide +kernel)
theorem dC_tellsApart_80 : decode (mB mC_tellsApart) 80 = .ok (.lcmp, 1) := op148 (by decide +kernel)
theorem dC_tellsApart_81 : decode (mB mC_tellsApart) 81 = .ok (.ifCond .ne 7, 3) := op154 0 7 (by decide +kernel)
theorem dC_tellsApart_84 : decode (mB mC_tellsApart) 84 = .ok (.iconst 1, 1) := op4 (by decide +kernel)
theorem dC_tellsApart_85 : decode (mB mC_tellsApart) 85 = .ok (.goto 4, 3) := op167 0 4 (by decide +kernel)
theorem dC_tellsApart_88 : decode (mB mC_tellsApart) 88 = .ok (.iconst 0, 1) := op3 (by decide +kernel)
theorem dC_tellsApart_89 : decode (mB mC_tellsApart) 89 = .ok (.ireturn, 1) := op172 (by decide +kernel)

theorem vC_tellsApart_0 {M : Mm} {b : Nat × Nat} {K : Int32 → Mm → Prop} {v0 : Int32} {v1 : Int64} {v3 : Int64}  
    (h : X mC_tellsApart 9 [(0, .int v0), (1, .long v1), (3, .long v3), (5, .long 0), (7, .long 0), (9, .int 0)] [] M b (QI K)) : X mC_tellsApart 0 [(0, .int v0), (1, .long v1), (3, .long v3)] [] M b (QI K) := by
  refine x_wf (fun hw => ?_)
  refine x_lconst (pc := 0) dC_tellsApart_0 (v := 0) rfl ?_
  refine x_lstore (pc := 1) dC_tellsApart_1 (by decide) (L' := [(5, .long 0), (0, .int v0), (1, .long v1), (3, .long v3)]) rfl ?_
  refine x_lconst (pc := 3) dC_tellsApart_3 (v := 0) rfl ?_
  refine x_lstore (pc := 4) dC_tellsApart_4 (by decide) (L' := [(7, .long 0), (5, .long 0), (0, .int v0), (1, .long v1), (3, .long v3)]) rfl ?_
  refine x_iconst (pc := 6) dC_tellsApart_6 (v := 0) rfl ?_
  refine x_istore (pc := 7) dC_tellsApart_7 (by decide) (L' := [(9, .int 0), (7, .long 0), (5, .long 0), (0, .int v0), (1, .long v1), (3, .long v3)]) rfl ?_
  exact x_loc [3, 4, 5, 2, 1, 0] rfl h

theorem vC_tellsApart_9 {M : Mm} {b : Nat × Nat} {K : Int32 → Mm → Prop} {v0 : Int32} {v1 : Int64} {v3 : Int64} {v5 : Int64} {v7 : Int64} {v9 : Int32}  
    (h : ((64 ≤ v9 ∧ ¬ (v5 &&& v7) = 0) → (K 0 M)) ∧ ((64 ≤ v9 ∧ (v5 &&& v7) = 0) → (K 1 M)) ∧ (¬ 64 ≤ v9 → (X mC_tellsApart 9 [(0, .int v0), (1, .long v1), (3, .long v3), (5, .long (v5 ||| (if ((lushr v1 v9) &&& 1) = 1 then ((1 : Int64) <<< (((v9 &&& v0)).toInt64 &&& 63)) else 0 : Int64))), (7, .long (v7 ||| (if ((lushr v3 v9) &&& 1) = 1 then ((1 : Int64) <<< (((v9 &&& v0)).toInt64 &&& 63)) else 0 : Int64))), (9, .int (v9 + 1))] [] M b (QI K)))) : X mC_tellsApart 9 [(0, .int v0), (1, .long v1), (3, .long v3), (5, .long v5), (7, .long v7), (9, .int v9)] [] M b (QI K) := by
  refine x_wf (fun hw => ?_)
  refine x_iload (pc := 9) dC_tellsApart_9 (q := 5) rfl ?_
  refine x_bipush (pc := 11) dC_tellsApart_11 (v := 64) rfl ?_
  obtain ⟨g1_0, g1_1, g1_2⟩ := h
  refine x_icmp_ge (pc := 13) dC_tellsApart_13 (t := 74) rfl (fun q1 => ?_) (fun q1 => ?_)
  · refine x_lload (pc := 74) dC_tellsApart_74 (q := 3) rfl ?_
    refine x_lload (pc := 76) dC_tellsApart_76 (q := 4) rfl ?_
    refine x_land (pc := 78) dC_tellsApart_78 ?_
    refine x_lconst (pc := 79) dC_tellsApart_79 (v := 0) rfl ?_
    refine x_lc_ne (pc := 80) dC_tellsApart_80 dC_tellsApart_81 (t := 88) rfl (fun q2 => ?_) (fun q2 => ?_)
    · refine x_iconst (pc := 88) dC_tellsApart_88 (v := 0) rfl ?_
      have h := g1_0 ⟨q1, q2⟩
      exact x_retQI (pc := 89) dC_tellsApart_89 rfl (by (repeat' split) <;> rfl) h
    · refine x_iconst (pc := 84) dC_tellsApart_84 (v := 1) rfl ?_
      refine x_goto (pc := 85) dC_tellsApart_85 (t := 89) rfl ?_
      have h := g1_1 ⟨q1, q2⟩
      exact x_retQI (pc := 89) dC_tellsApart_89 rfl (by (repeat' split) <;> rfl) h
  · refine x_lconst (pc := 16) dC_tellsApart_16 (v := 1) rfl ?_
    refine x_iload (pc := 17) dC_tellsApart_17 (q := 5) rfl ?_
    refine x_iload_n (pc := 19) dC_tellsApart_19 rfl (q := 0) rfl ?_
    refine x_iand (pc := 20) dC_tellsApart_20 ?_
    refine x_lshl (pc := 21) dC_tellsApart_21 ?_
    have h := g1_2 q1
    refine x_lstore (pc := 22) dC_tellsApart_22 (by decide) (L' := [(10, .long ((1 : Int64) <<< (((v9 &&& v0)).toInt64 &&& 63))), (0, .int v0), (1, .long v1), (3, .long v3), (5, .long v5), (7, .long v7), (9, .int v9)]) rfl ?_
    refine x_lload (pc := 24) dC_tellsApart_24 (q := 4) rfl ?_
    refine x_lload_n (pc := 26) dC_tellsApart_26 rfl (q := 2) rfl ?_
    refine x_iload (pc := 27) dC_tellsApart_27 (q := 6) rfl ?_
    refine x_lushr (pc := 29) dC_tellsApart_29 ?_
    refine x_lconst (pc := 30) dC_tellsApart_30 (v := 1) rfl ?_
    refine x_land (pc := 31) dC_tellsApart_31 ?_
    refine x_lconst (pc := 32) dC_tellsApart_32 (v := 1) rfl ?_
    suffices hJ : X mC_tellsApart 43 [(10, .long ((1 : Int64) <<< (((v9 &&& v0)).toInt64 &&& 63))), (0, .int v0), (1, .long v1), (3, .long v3), (5, .long v5), (7, .long v7), (9, .int v9)] [.long (if ((lushr v1 v9) &&& 1) = 1 then ((1 : Int64) <<< (((v9 &&& v0)).toInt64 &&& 63)) else 0 : Int64), .long v5] M b (QI K) by
      refine x_lc_ne (pc := 33) dC_tellsApart_33 dC_tellsApart_34 (t := 42) rfl (fun q3 => ?_) (fun q3 => ?_)
      · refine x_lconst (pc := 42) dC_tellsApart_42 (v := 0) rfl ?_
        first | (rw [if_neg q3] at hJ; exact hJ) | (simp only [if_neg q3] at hJ ⊢; exact hJ)
      · refine x_lload (pc := 37) dC_tellsApart_37 (q := 0) rfl ?_
        refine x_goto (pc := 39) dC_tellsApart_39 (t := 43) rfl ?_
        first | (rw [if_pos q3] at hJ; exact hJ) | (simp only [if_pos q3] at hJ ⊢; exact hJ)
    refine x_lor (pc := 43) dC_tellsApart_43 ?_
    refine x_lstore (pc := 44) dC_tellsApart_44 (by decide) (L' := [(5, .long (v5 ||| (if ((lushr v1 v9) &&& 1) = 1 then ((1 : Int64) <<< (((v9 &&& v0)).toInt64 &&& 63)) else 0 : Int64))), (10, .long ((1 : Int64) <<< (((v9 &&& v0)).toInt64 &&& 63))), (0, .int v0), (1, .long v1), (3, .long v3), (7, .long v7), (9, .int v9)]) rfl ?_
    refine x_lload (pc := 46) dC_tellsApart_46 (q := 5) rfl ?_
    refine x_lload_n (pc := 48) dC_tellsApart_48 rfl (q := 4) rfl ?_
    refine x_iload (pc := 49) dC_tellsApart_49 (q := 6) rfl ?_
    refine x_lushr (pc := 51) dC_tellsApart_51 ?_
    refine x_lconst (pc := 52) dC_tellsApart_52 (v := 1) rfl ?_
    refine x_land (pc := 53) dC_tellsApart_53 ?_
    refine x_lconst (pc := 54) dC_tellsApart_54 (v := 1) rfl ?_
    suffices hJ : X mC_tellsApart 65 [(5, .long (v5 ||| (if ((lushr v1 v9) &&& 1) = 1 then ((1 : Int64) <<< (((v9 &&& v0)).toInt64 &&& 63)) else 0 : Int64))), (10, .long ((1 : Int64) <<< (((v9 &&& v0)).toInt64 &&& 63))), (0, .int v0), (1, .long v1), (3, .long v3), (7, .long v7), (9, .int v9)] [.long (if ((lushr v3 v9) &&& 1) = 1 then ((1 : Int64) <<< (((v9 &&& v0)).toInt64 &&& 63)) else 0 : Int64), .long v7] M b (QI K) by
      refine x_lc_ne (pc := 55) dC_tellsApart_55 dC_tellsApart_56 (t := 64) rfl (fun q4 => ?_) (fun q4 => ?_)
      · refine x_lconst (pc := 64) dC_tellsApart_64 (v := 0) rfl ?_
        first | (rw [if_neg q4] at hJ; exact hJ) | (simp only [if_neg q4] at hJ ⊢; exact hJ)
      · refine x_lload (pc := 59) dC_tellsApart_59 (q := 1) rfl ?_
        refine x_goto (pc := 61) dC_tellsApart_61 (t := 65) rfl ?_
        first | (rw [if_pos q4] at hJ; exact hJ) | (simp only [if_pos q4] at hJ ⊢; exact hJ)
    refine x_lor (pc := 65) dC_tellsApart_65 ?_
    refine x_lstore (pc := 66) dC_tellsApart_66 (by decide) (L' := [(7, .long (v7 ||| (if ((lushr v3 v9) &&& 1) = 1 then ((1 : Int64) <<< (((v9 &&& v0)).toInt64 &&& 63)) else 0 : Int64))), (5, .long (v5 ||| (if ((lushr v1 v9) &&& 1) = 1 then ((1 : Int64) <<< (((v9 &&& v0)).toInt64 &&& 63)) else 0 : Int64))), (10, .long ((1 : Int64) <<< (((v9 &&& v0)).toInt64 &&& 63))), (0, .int v0), (1, .long v1), (3, .long v3), (9, .int v9)]) rfl ?_
    refine x_iinc (pc := 68) dC_tellsApart_68 (q := 6) rfl (v := v9 + 1) rfl (by decide) (L' := [(9, .int (v9 + 1)), (7, .long (v7 ||| (if ((lushr v3 v9) &&& 1) = 1 then ((1 : Int64) <<< (((v9 &&& v0)).toInt64 &&& 63)) else 0 : Int64))), (5, .long (v5 ||| (if ((lushr v1 v9) &&& 1) = 1 then ((1 : Int64) <<< (((v9 &&& v0)).toInt64 &&& 63)) else 0 : Int64))), (10, .long ((1 : Int64) <<< (((v9 &&& v0)).toInt64 &&& 63))), (0, .int v0), (1, .long v1), (3, .long v3)]) rfl ?_
    refine x_goto (pc := 71) dC_tellsApart_71 (t := 9) rfl ?_
    exact x_loc [4, 5, 6, 2, 1, 0] rfl h

theorem dC_sheet_0 : decode (mB mC_sheet) 0 = .ok (.iload_n 1, 1) := op27 (by decide +kernel)
theorem dC_sheet_1 : decode (mB mC_sheet) 1 = .ok (.invokestatic 323, 3) := op184 1 67 (by decide +kernel)
theorem dC_sheet_4 : decode (mB mC_sheet) 4 = .ok (.ifCond .eq 16, 3) := op153 0 16 (by decide +kernel)
theorem dC_sheet_7 : decode (mB mC_sheet) 7 = .ok (.iload_n 2, 1) := op28 (by decide +kernel)
theorem dC_sheet_8 : decode (mB mC_sheet) 8 = .ok (.invokestatic 326, 3) := op184 1 70 (by decide +kernel)
theorem dC_sheet_11 : decode (mB mC_sheet) 11 = .ok (.ifCond .eq 9, 3) := op153 0 9 (by decide +kernel)
theorem dC_sheet_14 : decode (mB mC_sheet) 14 = .ok (.iload_n 3, 1) := op29 (by decide +kernel)
theorem dC_sheet_15 : decode (mB mC_sheet) 15 = .ok (.bipush 40, 2) := op16 40 (by decide +kernel)
theorem dC_sheet_17 : decode (mB mC_sheet) 17 = .ok (.if_icmp .le 5, 3) := op164 0 5 (by decide +kernel)
theorem dC_sheet_20 : decode (mB mC_sheet) 20 = .ok (.iconst (-1), 1) := op2 (by decide +kernel)
theorem dC_sheet_21 : decode (mB mC_sheet) 21 = .ok (.ireturn, 1) := op172 (by decide +kernel)
theorem dC_sheet_22 : decode (mB mC_sheet) 22 = .ok (.iload_n 3, 1) := op29 (by decide +kernel)
theorem dC_sheet_23 : decode (mB mC_sheet) 23 = .ok (.ifCond .ge 6, 3) := op156 0 6 (by decide +kernel)
theorem dC_sheet_26 : decode (mB mC_sheet) 26 = .ok (.bipush (-14), 2) := op16 242 (by decide +kernel)
theorem dC_sheet_28 : decode (mB mC_sheet) 28 = .ok (.ireturn, 1) := op172 (by decide +kernel)
theorem dC_sheet_29 : decode (mB mC_sheet) 29 = .ok (.aload_n 0, 1) := op42 (by decide +kernel)
theorem dC_sheet_30 : decode (mB mC_sheet) 30 = .ok (.getfield 88, 3) := op180 0 88 (by decide +kernel)
theorem dC_sheet_33 : decode (mB mC_sheet) 33 = .ok (.iload_n 1, 1) := op27 (by decide +kernel)
theorem dC_sheet_34 : decode (mB mC_sheet) 34 = .ok (.aaload, 1) := op50 (by decide +kernel)
theorem dC_sheet_35 : decode (mB mC_sheet) 35 = .ok (.iload_n 2, 1) := op28 (by decide +kernel)
theorem dC_sheet_36 : decode (mB mC_sheet) 36 = .ok (.iload_n 3, 1) := op29 (by decide +kernel)
theorem dC_sheet_37 : decode (mB mC_sheet) 37 = .ok (.invokevirtual 329, 3) := op182 1 73 (by decide +kernel)
theorem dC_sheet_40 : decode (mB mC_sheet) 40 = .ok (.iconst 1, 1) := op4 (by decide +kernel)
theorem dC_sheet_41 : decode (mB mC_sheet) 41 = .ok (.ireturn, 1) := op172 (by decide +kernel)

theorem vC_sheet_0 {M : Mm} {b : Nat × Nat} {K : Int32 → Mm → Prop} {v0 : Nat} {v1 : Int32} {v2 : Int32} {v3 : Int32}  
    (h : CI mC_isSheet [.int v1] M (fun rv N => X mC_sheet 4 [(0, .ref v0), (1, .int v1), (2, .int v2), (3, .int v3)] [.int rv] N b (QI K))) : X mC_sheet 0 [(0, .ref v0), (1, .int v1), (2, .int v2), (3, .int v3)] [] M b (QI K) := by
  refine x_wf (fun hw => ?_)
  refine x_iload_n (pc := 0) dC_sheet_0 rfl (q := 1) rfl ?_
  exact x_invS (pc := 1) dC_sheet_1 (S := []) (As := [.int v1]) mlC_323 hC_isSheet rfl ⟨by decide, by decide⟩ ⟨Nat.zero_le _, Nat.zero_le _⟩ rfl (Nat.le_of_ble_eq_true rfl) (aftI (b' := b) ⟨Nat.le_refl _, Nat.le_refl _⟩ (fun rv N h => h) h)

theorem vC_sheet_4 {M : Mm} {b : Nat × Nat} {K : Int32 → Mm → Prop} {v0 : Nat} {v1 : Int32} {v2 : Int32} {v3 : Int32} {w0 : Int32}  
    (h : (w0 = 0 → (K (-1) M)) ∧ (¬ w0 = 0 → (CI mC_isLane [.int v2] M (fun rv N => X mC_sheet 11 [(0, .ref v0), (1, .int v1), (2, .int v2), (3, .int v3)] [.int rv] N b (QI K))))) : X mC_sheet 4 [(0, .ref v0), (1, .int v1), (2, .int v2), (3, .int v3)] [.int w0] M b (QI K) := by
  refine x_wf (fun hw => ?_)
  obtain ⟨g1_0, g1_1⟩ := h
  refine x_if_eq (pc := 4) dC_sheet_4 (t := 20) rfl (fun q1 => ?_) (fun q1 => ?_)
  · have h := g1_0 q1
    refine x_iconst (pc := 20) dC_sheet_20 (v := (-1)) rfl ?_
    exact x_retQI (pc := 21) dC_sheet_21 rfl rfl h
  · refine x_iload_n (pc := 7) dC_sheet_7 rfl (q := 2) rfl ?_
    have h := g1_1 q1
    exact x_invS (pc := 8) dC_sheet_8 (S := []) (As := [.int v2]) mlC_326 hC_isLane rfl ⟨by decide, by decide⟩ ⟨Nat.zero_le _, Nat.zero_le _⟩ rfl (Nat.le_of_ble_eq_true rfl) (aftI (b' := b) ⟨Nat.le_refl _, Nat.le_refl _⟩ (fun rv N h => h) h)

theorem vC_sheet_11 {M : Mm} {b : Nat × Nat} {K : Int32 → Mm → Prop} {v0 : Nat} {v1 : Int32} {v2 : Int32} {v3 : Int32} {w0 : Int32} {r1 : Nat} (kv0 : v0 % 64 = 10) (e1 : gr M v0 13 = some r1)
    (h : (((w0 = 0) ∨ (¬ w0 = 0 ∧ ¬ v3 ≤ 40)) → (K (-1) M)) ∧ ((¬ w0 = 0 ∧ v3 ≤ 40 ∧ 0 ≤ v3) → (vp_in v1 4 ∧ (∃ r2 : Nat, gr M r1 (v1).toNatClampNeg = some r2 ∧ (CV mSh_renew [.ref r2, .int v2, .int v3] M (fun N => X mC_sheet 40 [] [] N b (QI K)))))) ∧ ((¬ w0 = 0 ∧ v3 ≤ 40 ∧ ¬ 0 ≤ v3) → (K (-14) M))) : X mC_sheet 11 [(0, .ref v0), (1, .int v1), (2, .int v2), (3, .int v3)] [.int w0] M b (QI K) := by
  refine x_wf (fun hw => ?_)
  obtain ⟨g1_0, g1_1, g1_2⟩ := h
  have g1_k0 : (w0 = 0) ∨ (¬ w0 = 0 ∧ ¬ v3 ≤ 40) → X mC_sheet 20 [(0, .ref v0), (1, .int v1), (2, .int v2), (3, .int v3)] [] M b (QI K) := fun q => by
    have h := g1_0 q
    refine x_iconst (pc := 20) dC_sheet_20 (v := (-1)) rfl ?_
    exact x_retQI (pc := 21) dC_sheet_21 rfl rfl h
  refine x_if_eq (pc := 11) dC_sheet_11 (t := 20) rfl (fun q1 => ?_) (fun q1 => ?_)
  · exact g1_k0 (Or.inl q1)
  · refine x_iload_n (pc := 14) dC_sheet_14 rfl (q := 3) rfl ?_
    refine x_bipush (pc := 15) dC_sheet_15 (v := 40) rfl ?_
    refine x_icmp_le (pc := 17) dC_sheet_17 (t := 22) rfl (fun q2 => ?_) (fun q2 => ?_)
    · refine x_iload_n (pc := 22) dC_sheet_22 rfl (q := 3) rfl ?_
      refine x_if_ge (pc := 23) dC_sheet_23 (t := 29) rfl (fun q3 => ?_) (fun q3 => ?_)
      · refine x_aload_n (pc := 29) dC_sheet_29 rfl (q := 0) rfl ?_
        refine x_getR (pc := 30) dC_sheet_30 kv0 flC_88 rfl e1 ?_
        refine x_iload_n (pc := 33) dC_sheet_33 rfl (q := 1) rfl ?_
        have h := g1_1 ⟨q1, q2, q3⟩
        obtain ⟨s501, h⟩ := h
        obtain ⟨r2, s502, h⟩ := h
        refine x_aldR (pc := 34) (Or.inr rfl) dC_sheet_34 (wfk hw e1 kv0) ak_19 s501 s502 ?_
        refine x_iload_n (pc := 35) dC_sheet_35 rfl (q := 2) rfl ?_
        refine x_iload_n (pc := 36) dC_sheet_36 rfl (q := 3) rfl ?_
        exact x_invV (pc := 37) dC_sheet_37 (c := 5) (S := []) (As := [.int v2, .int v3]) mlC_329 hSh_renew rfl (by decide) rfl (wfk hw s502 (wfk hw e1 kv0)) ⟨by decide, by decide⟩ ⟨Nat.zero_le _, Nat.zero_le _⟩ rfl (Nat.le_of_ble_eq_true rfl) (aftV (b' := b) ⟨Nat.le_refl _, Nat.le_refl _⟩ (fun N h => x_loc [] rfl h) h)
      · refine x_bipush (pc := 26) dC_sheet_26 (v := (-14)) rfl ?_
        have h := g1_2 ⟨q1, q2, q3⟩
        exact x_retQI (pc := 28) dC_sheet_28 rfl rfl h
    · exact g1_k0 (Or.inr ⟨q1, q2⟩)

theorem vC_sheet_40 {M : Mm} {b : Nat × Nat} {K : Int32 → Mm → Prop}   
    (h : K 1 M) : X mC_sheet 40 [] [] M b (QI K) := by
  refine x_wf (fun hw => ?_)
  refine x_iconst (pc := 40) dC_sheet_40 (v := 1) rfl ?_
  exact x_retQI (pc := 41) dC_sheet_41 rfl rfl h

theorem dC_isSheet_0 : decode (mB mC_isSheet) 0 = .ok (.iload_n 0, 1) := op26 (by decide +kernel)
theorem dC_isSheet_1 : decode (mB mC_isSheet) 1 = .ok (.ifCond .lt 12, 3) := op155 0 12 (by decide +kernel)
theorem dC_isSheet_4 : decode (mB mC_isSheet) 4 = .ok (.iload_n 0, 1) := op26 (by decide +kernel)
theorem dC_isSheet_5 : decode (mB mC_isSheet) 5 = .ok (.iconst 4, 1) := op7 (by decide +kernel)
theorem dC_isSheet_6 : decode (mB mC_isSheet) 6 = .ok (.if_icmp .ge 7, 3) := op162 0 7 (by decide +kernel)
theorem dC_isSheet_9 : decode (mB mC_isSheet) 9 = .ok (.iconst 1, 1) := op4 (by decide +kernel)
theorem dC_isSheet_10 : decode (mB mC_isSheet) 10 = .ok (.goto 4, 3) := op167 0 4 (by decide +kernel)
theorem dC_isSheet_13 : decode (mB mC_isSheet) 13 = .ok (.iconst 0, 1) := op3 (by decide +kernel)
theorem dC_isSheet_14 : decode (mB mC_isSheet) 14 = .ok (.ireturn, 1) := op172 (by decide +kernel)

theorem vC_isSheet_0 {M : Mm} {b : Nat × Nat} {K : Int32 → Mm → Prop} {v0 : Int32}  
    (h : (((v0 < 0) ∨ (¬ v0 < 0 ∧ 4 ≤ v0)) → (K 0 M)) ∧ ((¬ v0 < 0 ∧ ¬ 4 ≤ v0) → (K 1 M))) : X mC_isSheet 0 [(0, .int v0)] [] M b (QI K) := by
  refine x_wf (fun hw => ?_)
  refine x_iload_n (pc := 0) dC_isSheet_0 rfl (q := 0) rfl ?_
  obtain ⟨g1_0, g1_1⟩ := h
  have g1_k0 : (v0 < 0) ∨ (¬ v0 < 0 ∧ 4 ≤ v0) → X mC_isSheet 13 [(0, .int v0)] [] M b (QI K) := fun q => by
    have h := g1_0 q
    refine x_iconst (pc := 13) dC_isSheet_13 (v := 0) rfl ?_
    exact x_retQI (pc := 14) dC_isSheet_14 rfl (by (repeat' split) <;> rfl) h
  refine x_if_lt (pc := 1) dC_isSheet_1 (t := 13) rfl (fun q1 => ?_) (fun q1 => ?_)
  · exact g1_k0 (Or.inl q1)
  · refine x_iload_n (pc := 4) dC_isSheet_4 rfl (q := 0) rfl ?_
    refine x_iconst (pc := 5) dC_isSheet_5 (v := 4) rfl ?_
    refine x_icmp_ge (pc := 6) dC_isSheet_6 (t := 13) rfl (fun q2 => ?_) (fun q2 => ?_)
    · exact g1_k0 (Or.inr ⟨q1, q2⟩)
    · refine x_iconst (pc := 9) dC_isSheet_9 (v := 1) rfl ?_
      refine x_goto (pc := 10) dC_isSheet_10 (t := 14) rfl ?_
      have h := g1_1 ⟨q1, q2⟩
      exact x_retQI (pc := 14) dC_isSheet_14 rfl (by (repeat' split) <;> rfl) h

theorem dC_isLane_0 : decode (mB mC_isLane) 0 = .ok (.iload_n 0, 1) := op26 (by decide +kernel)
theorem dC_isLane_1 : decode (mB mC_isLane) 1 = .ok (.ifCond .lt 12, 3) := op155 0 12 (by decide +kernel)
theorem dC_isLane_4 : decode (mB mC_isLane) 4 = .ok (.iload_n 0, 1) := op26 (by decide +kernel)
theorem dC_isLane_5 : decode (mB mC_isLane) 5 = .ok (.iconst 2, 1) := op5 (by decide +kernel)
theorem dC_isLane_6 : decode (mB mC_isLane) 6 = .ok (.if_icmp .gt 7, 3) := op163 0 7 (by decide +kernel)
theorem dC_isLane_9 : decode (mB mC_isLane) 9 = .ok (.iconst 1, 1) := op4 (by decide +kernel)
theorem dC_isLane_10 : decode (mB mC_isLane) 10 = .ok (.goto 4, 3) := op167 0 4 (by decide +kernel)
theorem dC_isLane_13 : decode (mB mC_isLane) 13 = .ok (.iconst 0, 1) := op3 (by decide +kernel)
theorem dC_isLane_14 : decode (mB mC_isLane) 14 = .ok (.ireturn, 1) := op172 (by decide +kernel)

theorem vC_isLane_0 {M : Mm} {b : Nat × Nat} {K : Int32 → Mm → Prop} {v0 : Int32}  
    (h : (((v0 < 0) ∨ (¬ v0 < 0 ∧ 2 < v0)) → (K 0 M)) ∧ ((¬ v0 < 0 ∧ ¬ 2 < v0) → (K 1 M))) : X mC_isLane 0 [(0, .int v0)] [] M b (QI K) := by
  refine x_wf (fun hw => ?_)
  refine x_iload_n (pc := 0) dC_isLane_0 rfl (q := 0) rfl ?_
  obtain ⟨g1_0, g1_1⟩ := h
  have g1_k0 : (v0 < 0) ∨ (¬ v0 < 0 ∧ 2 < v0) → X mC_isLane 13 [(0, .int v0)] [] M b (QI K) := fun q => by
    have h := g1_0 q
    refine x_iconst (pc := 13) dC_isLane_13 (v := 0) rfl ?_
    exact x_retQI (pc := 14) dC_isLane_14 rfl (by (repeat' split) <;> rfl) h
  refine x_if_lt (pc := 1) dC_isLane_1 (t := 13) rfl (fun q1 => ?_) (fun q1 => ?_)
  · exact g1_k0 (Or.inl q1)
  · refine x_iload_n (pc := 4) dC_isLane_4 rfl (q := 0) rfl ?_
    refine x_iconst (pc := 5) dC_isLane_5 (v := 2) rfl ?_
    refine x_icmp_gt (pc := 6) dC_isLane_6 (t := 13) rfl (fun q2 => ?_) (fun q2 => ?_)
    · exact g1_k0 (Or.inr ⟨q1, q2⟩)
    · refine x_iconst (pc := 9) dC_isLane_9 (v := 1) rfl ?_
      refine x_goto (pc := 10) dC_isLane_10 (t := 14) rfl ?_
      have h := g1_1 ⟨q1, q2⟩
      exact x_retQI (pc := 14) dC_isLane_14 rfl (by (repeat' split) <;> rfl) h

theorem dC_lay_0 : decode (mB mC_lay) 0 = .ok (.iload_n 1, 1) := op27 (by decide +kernel)
theorem dC_lay_1 : decode (mB mC_lay) 1 = .ok (.invokestatic 323, 3) := op184 1 67 (by decide +kernel)
theorem dC_lay_4 : decode (mB mC_lay) 4 = .ok (.ifCond .ne 5, 3) := op154 0 5 (by decide +kernel)
theorem dC_lay_7 : decode (mB mC_lay) 7 = .ok (.iconst (-1), 1) := op2 (by decide +kernel)
theorem dC_lay_8 : decode (mB mC_lay) 8 = .ok (.ireturn, 1) := op172 (by decide +kernel)
theorem dC_lay_9 : decode (mB mC_lay) 9 = .ok (.aload_n 0, 1) := op42 (by decide +kernel)
theorem dC_lay_10 : decode (mB mC_lay) 10 = .ok (.getfield 88, 3) := op180 0 88 (by decide +kernel)
theorem dC_lay_13 : decode (mB mC_lay) 13 = .ok (.iload_n 1, 1) := op27 (by decide +kernel)
theorem dC_lay_14 : decode (mB mC_lay) 14 = .ok (.aaload, 1) := op50 (by decide +kernel)
theorem dC_lay_15 : decode (mB mC_lay) 15 = .ok (.astore 4, 2) := op58 4 (by decide +kernel)
theorem dC_lay_17 : decode (mB mC_lay) 17 = .ok (.aload 4, 2) := op25 4 (by decide +kernel)
theorem dC_lay_19 : decode (mB mC_lay) 19 = .ok (.invokevirtual 333, 3) := op182 1 77 (by decide +kernel)
theorem dC_lay_22 : decode (mB mC_lay) 22 = .ok (.ifCond .eq 6, 3) := op153 0 6 (by decide +kernel)
theorem dC_lay_25 : decode (mB mC_lay) 25 = .ok (.bipush (-11), 2) := op16 245 (by decide +kernel)
theorem dC_lay_27 : decode (mB mC_lay) 27 = .ok (.ireturn, 1) := op172 (by decide +kernel)
theorem dC_lay_28 : decode (mB mC_lay) 28 = .ok (.aload 4, 2) := op25 4 (by decide +kernel)
theorem dC_lay_30 : decode (mB mC_lay) 30 = .ok (.iload_n 2, 1) := op28 (by decide +kernel)
theorem dC_lay_31 : decode (mB mC_lay) 31 = .ok (.invokevirtual 337, 3) := op182 1 81 (by decide +kernel)
theorem dC_lay_34 : decode (mB mC_lay) 34 = .ok (.ifCond .ne 6, 3) := op154 0 6 (by decide +kernel)
theorem dC_lay_37 : decode (mB mC_lay) 37 = .ok (.bipush (-12), 2) := op16 244 (by decide +kernel)
theorem dC_lay_39 : decode (mB mC_lay) 39 = .ok (.ireturn, 1) := op172 (by decide +kernel)
theorem dC_lay_40 : decode (mB mC_lay) 40 = .ok (.aload 4, 2) := op25 4 (by decide +kernel)
theorem dC_lay_42 : decode (mB mC_lay) 42 = .ok (.iload_n 2, 1) := op28 (by decide +kernel)
theorem dC_lay_43 : decode (mB mC_lay) 43 = .ok (.iload_n 3, 1) := op29 (by decide +kernel)
theorem dC_lay_44 : decode (mB mC_lay) 44 = .ok (.invokevirtual 340, 3) := op182 1 84 (by decide +kernel)
theorem dC_lay_47 : decode (mB mC_lay) 47 = .ok (.iconst 1, 1) := op4 (by decide +kernel)
theorem dC_lay_48 : decode (mB mC_lay) 48 = .ok (.ireturn, 1) := op172 (by decide +kernel)

theorem vC_lay_0 {M : Mm} {b : Nat × Nat} {K : Int32 → Mm → Prop} {v0 : Nat} {v1 : Int32} {v2 : Int32} {v3 : Int32}  
    (h : CI mC_isSheet [.int v1] M (fun rv N => X mC_lay 4 [(0, .ref v0), (1, .int v1), (2, .int v2), (3, .int v3)] [.int rv] N b (QI K))) : X mC_lay 0 [(0, .ref v0), (1, .int v1), (2, .int v2), (3, .int v3)] [] M b (QI K) := by
  refine x_wf (fun hw => ?_)
  refine x_iload_n (pc := 0) dC_lay_0 rfl (q := 1) rfl ?_
  exact x_invS (pc := 1) dC_lay_1 (S := []) (As := [.int v1]) mlC_323 hC_isSheet rfl ⟨by decide, by decide⟩ ⟨Nat.zero_le _, Nat.zero_le _⟩ rfl (Nat.le_of_ble_eq_true rfl) (aftI (b' := b) ⟨Nat.le_refl _, Nat.le_refl _⟩ (fun rv N h => h) h)

theorem vC_lay_4 {M : Mm} {b : Nat × Nat} {K : Int32 → Mm → Prop} {v0 : Nat} {v1 : Int32} {v2 : Int32} {v3 : Int32} {w0 : Int32} {r1 : Nat} (kv0 : v0 % 64 = 10) (e1 : gr M v0 13 = some r1)
    (h : (¬ w0 = 0 → (vp_in v1 4 ∧ (∃ r2 : Nat, gr M r1 (v1).toNatClampNeg = some r2 ∧ (CI mSh_isNothing [.ref r2] M (fun rv N => X mC_lay 22 [(2, .int v2), (3, .int v3), (4, .ref r2)] [.int rv] N b (QI K)))))) ∧ (w0 = 0 → (K (-1) M))) : X mC_lay 4 [(0, .ref v0), (1, .int v1), (2, .int v2), (3, .int v3)] [.int w0] M b (QI K) := by
  refine x_wf (fun hw => ?_)
  obtain ⟨g1_0, g1_1⟩ := h
  refine x_if_ne (pc := 4) dC_lay_4 (t := 9) rfl (fun q1 => ?_) (fun q1 => ?_)
  · refine x_aload_n (pc := 9) dC_lay_9 rfl (q := 0) rfl ?_
    refine x_getR (pc := 10) dC_lay_10 kv0 flC_88 rfl e1 ?_
    refine x_iload_n (pc := 13) dC_lay_13 rfl (q := 1) rfl ?_
    have h := g1_0 q1
    obtain ⟨s501, h⟩ := h
    obtain ⟨r2, s502, h⟩ := h
    refine x_aldR (pc := 14) (Or.inr rfl) dC_lay_14 (wfk hw e1 kv0) ak_19 s501 s502 ?_
    refine x_astore (pc := 15) dC_lay_15 (by decide) (L' := [(4, .ref r2), (0, .ref v0), (1, .int v1), (2, .int v2), (3, .int v3)]) rfl ?_
    refine x_aload (pc := 17) dC_lay_17 (q := 0) rfl ?_
    exact x_invV (pc := 19) dC_lay_19 (c := 5) (S := []) (As := []) mlC_333 hSh_isNothing rfl (by decide) rfl (wfk hw s502 (wfk hw e1 kv0)) ⟨by decide, by decide⟩ ⟨Nat.zero_le _, Nat.zero_le _⟩ rfl (Nat.le_of_ble_eq_true rfl) (aftI (b' := b) ⟨Nat.le_refl _, Nat.le_refl _⟩ (fun rv N h => x_loc [3, 4, 0] rfl h) h)
  · refine x_iconst (pc := 7) dC_lay_7 (v := (-1)) rfl ?_
    have h := g1_1 q1
    exact x_retQI (pc := 8) dC_lay_8 rfl rfl h

theorem vC_lay_22 {M : Mm} {b : Nat × Nat} {K : Int32 → Mm → Prop} {v2 : Int32} {v3 : Int32} {v4 : Nat} {w0 : Int32} (kv4 : v4 % 64 = 5) 
    (h : (w0 = 0 → (CI mSh_hasCell [.ref v4, .int v2] M (fun rv N => X mC_lay 34 [(2, .int v2), (3, .int v3), (4, .ref v4)] [.int rv] N b (QI K)))) ∧ (¬ w0 = 0 → (K (-11) M))) : X mC_lay 22 [(2, .int v2), (3, .int v3), (4, .ref v4)] [.int w0] M b (QI K) := by
  refine x_wf (fun hw => ?_)
  obtain ⟨g1_0, g1_1⟩ := h
  refine x_if_eq (pc := 22) dC_lay_22 (t := 28) rfl (fun q1 => ?_) (fun q1 => ?_)
  · refine x_aload (pc := 28) dC_lay_28 (q := 2) rfl ?_
    refine x_iload_n (pc := 30) dC_lay_30 rfl (q := 0) rfl ?_
    have h := g1_0 q1
    exact x_invV (pc := 31) dC_lay_31 (c := 5) (S := []) (As := [.int v2]) mlC_337 hSh_hasCell rfl (by decide) rfl kv4 ⟨by decide, by decide⟩ ⟨Nat.zero_le _, Nat.zero_le _⟩ rfl (Nat.le_of_ble_eq_true rfl) (aftI (b' := b) ⟨Nat.le_refl _, Nat.le_refl _⟩ (fun rv N h => h) h)
  · refine x_bipush (pc := 25) dC_lay_25 (v := (-11)) rfl ?_
    have h := g1_1 q1
    exact x_retQI (pc := 27) dC_lay_27 rfl rfl h

theorem vC_lay_34 {M : Mm} {b : Nat × Nat} {K : Int32 → Mm → Prop} {v2 : Int32} {v3 : Int32} {v4 : Nat} {w0 : Int32} (kv4 : v4 % 64 = 5) 
    (h : (¬ w0 = 0 → (CV mSh_put [.ref v4, .int v2, .int v3] M (fun N => X mC_lay 47 [] [] N b (QI K)))) ∧ (w0 = 0 → (K (-12) M))) : X mC_lay 34 [(2, .int v2), (3, .int v3), (4, .ref v4)] [.int w0] M b (QI K) := by
  refine x_wf (fun hw => ?_)
  obtain ⟨g1_0, g1_1⟩ := h
  refine x_if_ne (pc := 34) dC_lay_34 (t := 40) rfl (fun q1 => ?_) (fun q1 => ?_)
  · refine x_aload (pc := 40) dC_lay_40 (q := 2) rfl ?_
    refine x_iload_n (pc := 42) dC_lay_42 rfl (q := 0) rfl ?_
    refine x_iload_n (pc := 43) dC_lay_43 rfl (q := 1) rfl ?_
    have h := g1_0 q1
    exact x_invV (pc := 44) dC_lay_44 (c := 5) (S := []) (As := [.int v2, .int v3]) mlC_340 hSh_put rfl (by decide) rfl kv4 ⟨by decide, by decide⟩ ⟨Nat.zero_le _, Nat.zero_le _⟩ rfl (Nat.le_of_ble_eq_true rfl) (aftV (b' := b) ⟨Nat.le_refl _, Nat.le_refl _⟩ (fun N h => x_loc [] rfl h) h)
  · refine x_bipush (pc := 37) dC_lay_37 (v := (-12)) rfl ?_
    have h := g1_1 q1
    exact x_retQI (pc := 39) dC_lay_39 rfl rfl h

theorem vC_lay_47 {M : Mm} {b : Nat × Nat} {K : Int32 → Mm → Prop}   
    (h : K 1 M) : X mC_lay 47 [] [] M b (QI K) := by
  refine x_wf (fun hw => ?_)
  refine x_iconst (pc := 47) dC_lay_47 (v := 1) rfl ?_
  exact x_retQI (pc := 48) dC_lay_48 rfl rfl h

theorem dC_read_0 : decode (mB mC_read) 0 = .ok (.iload_n 1, 1) := op27 (by decide +kernel)
theorem dC_read_1 : decode (mB mC_read) 1 = .ok (.invokestatic 323, 3) := op184 1 67 (by decide +kernel)
theorem dC_read_4 : decode (mB mC_read) 4 = .ok (.ifCond .eq 33, 3) := op153 0 33 (by decide +kernel)
theorem dC_read_7 : decode (mB mC_read) 7 = .ok (.iload_n 2, 1) := op28 (by decide +kernel)
theorem dC_read_8 : decode (mB mC_read) 8 = .ok (.invokestatic 326, 3) := op184 1 70 (by decide +kernel)
theorem dC_read_11 : decode (mB mC_read) 11 = .ok (.ifCond .eq 26, 3) := op153 0 26 (by decide +kernel)
theorem dC_read_14 : decode (mB mC_read) 14 = .ok (.iload 4, 2) := op21 4 (by decide +kernel)
theorem dC_read_16 : decode (mB mC_read) 16 = .ok (.ifCond .lt 21, 3) := op155 0 21 (by decide +kernel)
theorem dC_read_19 : decode (mB mC_read) 19 = .ok (.iload 4, 2) := op21 4 (by decide +kernel)
theorem dC_read_21 : decode (mB mC_read) 21 = .ok (.bipush 40, 2) := op16 40 (by decide +kernel)
theorem dC_read_23 : decode (mB mC_read) 23 = .ok (.if_icmp .gt 14, 3) := op163 0 14 (by decide +kernel)
theorem dC_read_26 : decode (mB mC_read) 26 = .ok (.iload 5, 2) := op21 5 (by decide +kernel)
theorem dC_read_28 : decode (mB mC_read) 28 = .ok (.ifCond .lt 9, 3) := op155 0 9 (by decide +kernel)
theorem dC_read_31 : decode (mB mC_read) 31 = .ok (.iload 5, 2) := op21 5 (by decide +kernel)
theorem dC_read_33 : decode (mB mC_read) 33 = .ok (.iconst 2, 1) := op5 (by decide +kernel)
theorem dC_read_34 : decode (mB mC_read) 34 = .ok (.if_icmp .le 5, 3) := op164 0 5 (by decide +kernel)
theorem dC_read_37 : decode (mB mC_read) 37 = .ok (.iconst (-1), 1) := op2 (by decide +kernel)
theorem dC_read_38 : decode (mB mC_read) 38 = .ok (.ireturn, 1) := op172 (by decide +kernel)
theorem dC_read_39 : decode (mB mC_read) 39 = .ok (.aload_n 0, 1) := op42 (by decide +kernel)
theorem dC_read_40 : decode (mB mC_read) 40 = .ok (.getfield 88, 3) := op180 0 88 (by decide +kernel)
theorem dC_read_43 : decode (mB mC_read) 43 = .ok (.iload_n 1, 1) := op27 (by decide +kernel)
theorem dC_read_44 : decode (mB mC_read) 44 = .ok (.aaload, 1) := op50 (by decide +kernel)
theorem dC_read_45 : decode (mB mC_read) 45 = .ok (.astore 6, 2) := op58 6 (by decide +kernel)
theorem dC_read_47 : decode (mB mC_read) 47 = .ok (.aload 6, 2) := op25 6 (by decide +kernel)
theorem dC_read_49 : decode (mB mC_read) 49 = .ok (.invokevirtual 333, 3) := op182 1 77 (by decide +kernel)
theorem dC_read_52 : decode (mB mC_read) 52 = .ok (.ifCond .eq 6, 3) := op153 0 6 (by decide +kernel)
theorem dC_read_55 : decode (mB mC_read) 55 = .ok (.bipush (-11), 2) := op16 245 (by decide +kernel)
theorem dC_read_57 : decode (mB mC_read) 57 = .ok (.ireturn, 1) := op172 (by decide +kernel)
theorem dC_read_58 : decode (mB mC_read) 58 = .ok (.aload 6, 2) := op25 6 (by decide +kernel)
theorem dC_read_60 : decode (mB mC_read) 60 = .ok (.getfield 343, 3) := op180 1 87 (by decide +kernel)
theorem dC_read_63 : decode (mB mC_read) 63 = .ok (.iload_n 2, 1) := op28 (by decide +kernel)
theorem dC_read_64 : decode (mB mC_read) 64 = .ok (.if_icmp .eq 6, 3) := op159 0 6 (by decide +kernel)
theorem dC_read_67 : decode (mB mC_read) 67 = .ok (.bipush (-13), 2) := op16 243 (by decide +kernel)
theorem dC_read_69 : decode (mB mC_read) 69 = .ok (.ireturn, 1) := op172 (by decide +kernel)
theorem dC_read_70 : decode (mB mC_read) 70 = .ok (.aload_n 0, 1) := op42 (by decide +kernel)
theorem dC_read_71 : decode (mB mC_read) 71 = .ok (.aload 6, 2) := op25 6 (by decide +kernel)
theorem dC_read_73 : decode (mB mC_read) 73 = .ok (.iload_n 3, 1) := op29 (by decide +kernel)
theorem dC_read_74 : decode (mB mC_read) 74 = .ok (.iload 4, 2) := op21 4 (by decide +kernel)
theorem dC_read_76 : decode (mB mC_read) 76 = .ok (.iload 5, 2) := op21 5 (by decide +kernel)
theorem dC_read_78 : decode (mB mC_read) 78 = .ok (.ifCond .ne 7, 3) := op154 0 7 (by decide +kernel)
theorem dC_read_81 : decode (mB mC_read) 81 = .ok (.iconst 1, 1) := op4 (by decide +kernel)
theorem dC_read_82 : decode (mB mC_read) 82 = .ok (.goto 15, 3) := op167 0 15 (by decide +kernel)
theorem dC_read_85 : decode (mB mC_read) 85 = .ok (.iload 5, 2) := op21 5 (by decide +kernel)
theorem dC_read_87 : decode (mB mC_read) 87 = .ok (.iconst 1, 1) := op4 (by decide +kernel)
theorem dC_read_88 : decode (mB mC_read) 88 = .ok (.if_icmp .ne 7, 3) := op160 0 7 (by decide +kernel)
theorem dC_read_91 : decode (mB mC_read) 91 = .ok (.iconst 0, 1) := op3 (by decide +kernel)
theorem dC_read_92 : decode (mB mC_read) 92 = .ok (.goto 5, 3) := op167 0 5 (by decide +kernel)
theorem dC_read_95 : decode (mB mC_read) 95 = .ok (.bipush (-4), 2) := op16 252 (by decide +kernel)
theorem dC_read_97 : decode (mB mC_read) 97 = .ok (.invokevirtual 346, 3) := op182 1 90 (by decide +kernel)
theorem dC_read_100 : decode (mB mC_read) 100 = .ok (.ireturn, 1) := op172 (by decide +kernel)

theorem vC_read_0 {M : Mm} {b : Nat × Nat} {K : Int32 → Mm → Prop} {v0 : Nat} {v1 : Int32} {v2 : Int32} {v3 : Int32} {v4 : Int32} {v5 : Int32}  
    (h : CI mC_isSheet [.int v1] M (fun rv N => X mC_read 4 [(0, .ref v0), (1, .int v1), (2, .int v2), (3, .int v3), (4, .int v4), (5, .int v5)] [.int rv] N b (QI K))) : X mC_read 0 [(0, .ref v0), (1, .int v1), (2, .int v2), (3, .int v3), (4, .int v4), (5, .int v5)] [] M b (QI K) := by
  refine x_wf (fun hw => ?_)
  refine x_iload_n (pc := 0) dC_read_0 rfl (q := 1) rfl ?_
  exact x_invS (pc := 1) dC_read_1 (S := []) (As := [.int v1]) mlC_323 hC_isSheet rfl ⟨by decide, by decide⟩ ⟨Nat.zero_le _, Nat.zero_le _⟩ rfl (Nat.le_of_ble_eq_true rfl) (aftI (b' := b) ⟨Nat.le_refl _, Nat.le_refl _⟩ (fun rv N h => h) h)

theorem vC_read_4 {M : Mm} {b : Nat × Nat} {K : Int32 → Mm → Prop} {v0 : Nat} {v1 : Int32} {v2 : Int32} {v3 : Int32} {v4 : Int32} {v5 : Int32} {w0 : Int32}  
    (h : (w0 = 0 → (K (-1) M)) ∧ (¬ w0 = 0 → (CI mC_isLane [.int v2] M (fun rv N => X mC_read 11 [(0, .ref v0), (1, .int v1), (2, .int v2), (3, .int v3), (4, .int v4), (5, .int v5)] [.int rv] N b (QI K))))) : X mC_read 4 [(0, .ref v0), (1, .int v1), (2, .int v2), (3, .int v3), (4, .int v4), (5, .int v5)] [.int w0] M b (QI K) := by
  refine x_wf (fun hw => ?_)
  obtain ⟨g1_0, g1_1⟩ := h
  refine x_if_eq (pc := 4) dC_read_4 (t := 37) rfl (fun q1 => ?_) (fun q1 => ?_)
  · have h := g1_0 q1
    refine x_iconst (pc := 37) dC_read_37 (v := (-1)) rfl ?_
    exact x_retQI (pc := 38) dC_read_38 rfl rfl h
  · refine x_iload_n (pc := 7) dC_read_7 rfl (q := 2) rfl ?_
    have h := g1_1 q1
    exact x_invS (pc := 8) dC_read_8 (S := []) (As := [.int v2]) mlC_326 hC_isLane rfl ⟨by decide, by decide⟩ ⟨Nat.zero_le _, Nat.zero_le _⟩ rfl (Nat.le_of_ble_eq_true rfl) (aftI (b' := b) ⟨Nat.le_refl _, Nat.le_refl _⟩ (fun rv N h => h) h)

theorem vC_read_11 {M : Mm} {b : Nat × Nat} {K : Int32 → Mm → Prop} {v0 : Nat} {v1 : Int32} {v2 : Int32} {v3 : Int32} {v4 : Int32} {v5 : Int32} {w0 : Int32} {r1 : Nat} (kv0 : v0 % 64 = 10) (e1 : gr M v0 13 = some r1)
    (h : (((w0 = 0) ∨ (¬ w0 = 0 ∧ v4 < 0) ∨ (¬ w0 = 0 ∧ ¬ v4 < 0 ∧ 40 < v4) ∨ (¬ w0 = 0 ∧ ¬ v4 < 0 ∧ ¬ 40 < v4 ∧ v5 < 0) ∨ (¬ w0 = 0 ∧ ¬ v4 < 0 ∧ ¬ 40 < v4 ∧ ¬ v5 < 0 ∧ ¬ v5 ≤ 2)) → (K (-1) M)) ∧ ((¬ w0 = 0 ∧ ¬ v4 < 0 ∧ ¬ 40 < v4 ∧ ¬ v5 < 0 ∧ v5 ≤ 2) → (vp_in v1 4 ∧ (∃ r2 : Nat, gr M r1 (v1).toNatClampNeg = some r2 ∧ (CI mSh_isNothing [.ref r2] M (fun rv N => X mC_read 52 [(0, .ref v0), (2, .int v2), (3, .int v3), (4, .int v4), (5, .int v5), (6, .ref r2)] [.int rv] N b (QI K))))))) : X mC_read 11 [(0, .ref v0), (1, .int v1), (2, .int v2), (3, .int v3), (4, .int v4), (5, .int v5)] [.int w0] M b (QI K) := by
  refine x_wf (fun hw => ?_)
  obtain ⟨g1_0, g1_1⟩ := h
  have g1_k0 : (w0 = 0) ∨ (¬ w0 = 0 ∧ v4 < 0) ∨ (¬ w0 = 0 ∧ ¬ v4 < 0 ∧ 40 < v4) ∨ (¬ w0 = 0 ∧ ¬ v4 < 0 ∧ ¬ 40 < v4 ∧ v5 < 0) ∨ (¬ w0 = 0 ∧ ¬ v4 < 0 ∧ ¬ 40 < v4 ∧ ¬ v5 < 0 ∧ ¬ v5 ≤ 2) → X mC_read 37 [(0, .ref v0), (1, .int v1), (2, .int v2), (3, .int v3), (4, .int v4), (5, .int v5)] [] M b (QI K) := fun q => by
    have h := g1_0 q
    refine x_iconst (pc := 37) dC_read_37 (v := (-1)) rfl ?_
    exact x_retQI (pc := 38) dC_read_38 rfl rfl h
  refine x_if_eq (pc := 11) dC_read_11 (t := 37) rfl (fun q1 => ?_) (fun q1 => ?_)
  · exact g1_k0 (Or.inl q1)
  · refine x_iload (pc := 14) dC_read_14 (q := 4) rfl ?_
    refine x_if_lt (pc := 16) dC_read_16 (t := 37) rfl (fun q2 => ?_) (fun q2 => ?_)
    · exact g1_k0 (Or.inr (Or.inl ⟨q1, q2⟩))
    · refine x_iload (pc := 19) dC_read_19 (q := 4) rfl ?_
      refine x_bipush (pc := 21) dC_read_21 (v := 40) rfl ?_
      refine x_icmp_gt (pc := 23) dC_read_23 (t := 37) rfl (fun q3 => ?_) (fun q3 => ?_)
      · exact g1_k0 (Or.inr (Or.inr (Or.inl ⟨q1, q2, q3⟩)))
      · refine x_iload (pc := 26) dC_read_26 (q := 5) rfl ?_
        refine x_if_lt (pc := 28) dC_read_28 (t := 37) rfl (fun q4 => ?_) (fun q4 => ?_)
        · exact g1_k0 (Or.inr (Or.inr (Or.inr (Or.inl ⟨q1, q2, q3, q4⟩))))
        · refine x_iload (pc := 31) dC_read_31 (q := 5) rfl ?_
          refine x_iconst (pc := 33) dC_read_33 (v := 2) rfl ?_
          refine x_icmp_le (pc := 34) dC_read_34 (t := 39) rfl (fun q5 => ?_) (fun q5 => ?_)
          · refine x_aload_n (pc := 39) dC_read_39 rfl (q := 0) rfl ?_
            refine x_getR (pc := 40) dC_read_40 kv0 flC_88 rfl e1 ?_
            refine x_iload_n (pc := 43) dC_read_43 rfl (q := 1) rfl ?_
            have h := g1_1 ⟨q1, q2, q3, q4, q5⟩
            obtain ⟨s501, h⟩ := h
            obtain ⟨r2, s502, h⟩ := h
            refine x_aldR (pc := 44) (Or.inr rfl) dC_read_44 (wfk hw e1 kv0) ak_19 s501 s502 ?_
            refine x_astore (pc := 45) dC_read_45 (by decide) (L' := [(6, .ref r2), (0, .ref v0), (1, .int v1), (2, .int v2), (3, .int v3), (4, .int v4), (5, .int v5)]) rfl ?_
            refine x_aload (pc := 47) dC_read_47 (q := 0) rfl ?_
            exact x_invV (pc := 49) dC_read_49 (c := 5) (S := []) (As := []) mlC_333 hSh_isNothing rfl (by decide) rfl (wfk hw s502 (wfk hw e1 kv0)) ⟨by decide, by decide⟩ ⟨Nat.zero_le _, Nat.zero_le _⟩ rfl (Nat.le_of_ble_eq_true rfl) (aftI (b' := b) ⟨Nat.le_refl _, Nat.le_refl _⟩ (fun rv N h => x_loc [1, 3, 4, 5, 6, 0] rfl h) h)
          · exact g1_k0 (Or.inr (Or.inr (Or.inr (Or.inr ⟨q1, q2, q3, q4, q5⟩))))

theorem vC_read_52 {M : Mm} {b : Nat × Nat} {K : Int32 → Mm → Prop} {v0 : Nat} {v2 : Int32} {v3 : Int32} {v4 : Int32} {v5 : Int32} {v6 : Nat} {w0 : Int32} (kv6 : v6 % 64 = 5) 
    (h : ((w0 = 0 ∧ (gi M v6 1) = v2 ∧ ¬ v5 = 0 ∧ ¬ v5 = 1) → (X mC_read 97 [] [.int (-4), .int v4, .int v3, .ref v6, .ref v0] M b (QI K))) ∧ ((w0 = 0 ∧ (gi M v6 1) = v2 ∧ ¬ v5 = 0 ∧ v5 = 1) → (X mC_read 97 [] [.int 0, .int v4, .int v3, .ref v6, .ref v0] M b (QI K))) ∧ ((w0 = 0 ∧ (gi M v6 1) = v2 ∧ v5 = 0) → (X mC_read 97 [] [.int 1, .int v4, .int v3, .ref v6, .ref v0] M b (QI K))) ∧ ((w0 = 0 ∧ ¬ (gi M v6 1) = v2) → (K (-13) M)) ∧ (¬ w0 = 0 → (K (-11) M))) : X mC_read 52 [(0, .ref v0), (2, .int v2), (3, .int v3), (4, .int v4), (5, .int v5), (6, .ref v6)] [.int w0] M b (QI K) := by
  refine x_wf (fun hw => ?_)
  obtain ⟨g1_0, g1_1, g1_2, g1_3, g1_4⟩ := h
  refine x_if_eq (pc := 52) dC_read_52 (t := 58) rfl (fun q1 => ?_) (fun q1 => ?_)
  · refine x_aload (pc := 58) dC_read_58 (q := 5) rfl ?_
    refine x_getI (pc := 60) dC_read_60 kv6 flC_343 rfl ?_
    refine x_iload_n (pc := 63) dC_read_63 rfl (q := 1) rfl ?_
    refine x_icmp_eq (pc := 64) dC_read_64 (t := 70) rfl (fun q2 => ?_) (fun q2 => ?_)
    · refine x_aload_n (pc := 70) dC_read_70 rfl (q := 0) rfl ?_
      refine x_aload (pc := 71) dC_read_71 (q := 5) rfl ?_
      refine x_iload_n (pc := 73) dC_read_73 rfl (q := 2) rfl ?_
      refine x_iload (pc := 74) dC_read_74 (q := 3) rfl ?_
      refine x_iload (pc := 76) dC_read_76 (q := 4) rfl ?_
      refine x_if_ne (pc := 78) dC_read_78 (t := 85) rfl (fun q3 => ?_) (fun q3 => ?_)
      · refine x_iload (pc := 85) dC_read_85 (q := 4) rfl ?_
        refine x_iconst (pc := 87) dC_read_87 (v := 1) rfl ?_
        refine x_icmp_ne (pc := 88) dC_read_88 (t := 95) rfl (fun q4 => ?_) (fun q4 => ?_)
        · refine x_bipush (pc := 95) dC_read_95 (v := (-4)) rfl ?_
          have h := g1_0 ⟨q1, q2, q3, q4⟩
          exact x_loc [] rfl h
        · refine x_iconst (pc := 91) dC_read_91 (v := 0) rfl ?_
          refine x_goto (pc := 92) dC_read_92 (t := 97) rfl ?_
          have h := g1_1 ⟨q1, q2, q3, q4⟩
          exact x_loc [] rfl h
      · refine x_iconst (pc := 81) dC_read_81 (v := 1) rfl ?_
        refine x_goto (pc := 82) dC_read_82 (t := 97) rfl ?_
        have h := g1_2 ⟨q1, q2, q3⟩
        exact x_loc [] rfl h
    · refine x_bipush (pc := 67) dC_read_67 (v := (-13)) rfl ?_
      have h := g1_3 ⟨q1, q2⟩
      exact x_retQI (pc := 69) dC_read_69 rfl rfl h
  · refine x_bipush (pc := 55) dC_read_55 (v := (-11)) rfl ?_
    have h := g1_4 q1
    exact x_retQI (pc := 57) dC_read_57 rfl rfl h

theorem vC_read_97 {M : Mm} {b : Nat × Nat} {K : Int32 → Mm → Prop} {w0 : Int32} {w1 : Int32} {w2 : Int32} {w3 : Nat} {w4 : Nat} (kw4 : w4 % 64 = 10) 
    (h : CI mC_readCells [.ref w4, .ref w3, .int w2, .int w1, .int w0] M (fun rv N => X mC_read 100 [] [.int rv] N b (QI K))) : X mC_read 97 [] [.int w0, .int w1, .int w2, .ref w3, .ref w4] M b (QI K) := by
  refine x_wf (fun hw => ?_)
  exact x_invV (pc := 97) dC_read_97 (c := 10) (S := []) (As := [.ref w3, .int w2, .int w1, .int w0]) mlC_346 hC_readCells rfl (by decide) rfl kw4 ⟨by decide, by decide⟩ ⟨Nat.zero_le _, Nat.zero_le _⟩ rfl (Nat.le_of_ble_eq_true rfl) (aftI (b' := b) ⟨Nat.le_refl _, Nat.le_refl _⟩ (fun rv N h => h) h)

theorem vC_read_100 {M : Mm} {b : Nat × Nat} {K : Int32 → Mm → Prop} {w0 : Int32}  
    (h : K w0 M) : X mC_read 100 [] [.int w0] M b (QI K) := by
  refine x_wf (fun hw => ?_)
  exact x_retQI (pc := 100) dC_read_100 rfl rfl h

theorem dC_readCells_0 : decode (mB mC_readCells) 0 = .ok (.aload_n 0, 1) := op42 (by decide +kernel)
theorem dC_readCells_1 : decode (mB mC_readCells) 1 = .ok (.invokevirtual 212, 3) := op182 0 212 (by decide +kernel)
theorem dC_readCells_4 : decode (mB mC_readCells) 4 = .ok (.iconst 0, 1) := op3 (by decide +kernel)
theorem dC_readCells_5 : decode (mB mC_readCells) 5 = .ok (.istore 5, 2) := op54 5 (by decide +kernel)
theorem dC_readCells_7 : decode (mB mC_readCells) 7 = .ok (.iconst 0, 1) := op3 (by decide +kernel)
theorem dC_readCells_8 : decode (mB mC_readCells) 8 = .ok (.istore 6, 2) := op54 6 (by decide +kernel)
theorem dC_readCells_10 : decode (mB mC_readCells) 10 = .ok (.iload 6, 2) := op21 6 (by decide +kernel)
theorem dC_readCells_12 : decode (mB mC_readCells) 12 = .ok (.iload_n 3, 1) := op29 (by decide +kernel)
theorem dC_readCells_13 : decode (mB mC_readCells) 13 = .ok (.if_icmp .ge 80, 3) := op162 0 80 (by decide +kernel)
theorem dC_readCells_16 : decode (mB mC_readCells) 16 = .ok (.aload_n 1, 1) := op43 (by decide +kernel)
theorem dC_readCells_17 : decode (mB mC_readCells) 17 = .ok (.iload_n 2, 1) := op28 (by decide +kernel)
theorem dC_readCells_18 : decode (mB mC_readCells) 18 = .ok (.invokevirtual 337, 3) := op182 1 81 (by decide +kernel)
theorem dC_readCells_21 : decode (mB mC_readCells) 21 = .ok (.ifCond .eq 14, 3) := op153 0 14 (by decide +kernel)
theorem dC_readCells_24 : decode (mB mC_readCells) 24 = .ok (.aload_n 1, 1) := op43 (by decide +kernel)
theorem dC_readCells_25 : decode (mB mC_readCells) 25 = .ok (.iload_n 2, 1) := op28 (by decide +kernel)
theorem dC_readCells_26 : decode (mB mC_readCells) 26 = .ok (.iload 6, 2) := op21 6 (by decide +kernel)
theorem dC_readCells_28 : decode (mB mC_readCells) 28 = .ok (.iadd, 1) := op96 (by decide +kernel)
theorem dC_readCells_29 : decode (mB mC_readCells) 29 = .ok (.invokevirtual 337, 3) := op182 1 81 (by decide +kernel)
theorem dC_readCells_32 : decode (mB mC_readCells) 32 = .ok (.ifCond .ne 6, 3) := op154 0 6 (by decide +kernel)
theorem dC_readCells_35 : decode (mB mC_readCells) 35 = .ok (.bipush (-12), 2) := op16 244 (by decide +kernel)
theorem dC_readCells_37 : decode (mB mC_readCells) 37 = .ok (.ireturn, 1) := op172 (by decide +kernel)
theorem dC_readCells_38 : decode (mB mC_readCells) 38 = .ok (.aload_n 1, 1) := op43 (by decide +kernel)
theorem dC_readCells_39 : decode (mB mC_readCells) 39 = .ok (.getfield 350, 3) := op180 1 94 (by decide +kernel)
theorem dC_readCells_42 : decode (mB mC_readCells) 42 = .ok (.iload_n 2, 1) := op28 (by decide +kernel)
theorem dC_readCells_43 : decode (mB mC_readCells) 43 = .ok (.iload 6, 2) := op21 6 (by decide +kernel)
theorem dC_readCells_45 : decode (mB mC_readCells) 45 = .ok (.iadd, 1) := op96 (by decide +kernel)
theorem dC_readCells_46 : decode (mB mC_readCells) 46 = .ok (.iaload, 1) := op46 (by decide +kernel)
theorem dC_readCells_47 : decode (mB mC_readCells) 47 = .ok (.istore 7, 2) := op54 7 (by decide +kernel)
theorem dC_readCells_49 : decode (mB mC_readCells) 49 = .ok (.iload 7, 2) := op21 7 (by decide +kernel)
theorem dC_readCells_51 : decode (mB mC_readCells) 51 = .ok (.invokestatic 182, 3) := op184 0 182 (by decide +kernel)
theorem dC_readCells_54 : decode (mB mC_readCells) 54 = .ok (.ifCond .ne 9, 3) := op154 0 9 (by decide +kernel)
theorem dC_readCells_57 : decode (mB mC_readCells) 57 = .ok (.bipush (-20), 2) := op16 236 (by decide +kernel)
theorem dC_readCells_59 : decode (mB mC_readCells) 59 = .ok (.iload 6, 2) := op21 6 (by decide +kernel)
theorem dC_readCells_61 : decode (mB mC_readCells) 61 = .ok (.isub, 1) := op100 (by decide +kernel)
theorem dC_readCells_62 : decode (mB mC_readCells) 62 = .ok (.ireturn, 1) := op172 (by decide +kernel)
theorem dC_readCells_63 : decode (mB mC_readCells) 63 = .ok (.iload 5, 2) := op21 5 (by decide +kernel)
theorem dC_readCells_65 : decode (mB mC_readCells) 65 = .ok (.aload_n 0, 1) := op42 (by decide +kernel)
theorem dC_readCells_66 : decode (mB mC_readCells) 66 = .ok (.getfield 73, 3) := op180 0 73 (by decide +kernel)
theorem dC_readCells_69 : decode (mB mC_readCells) 69 = .ok (.iload 7, 2) := op21 7 (by decide +kernel)
theorem dC_readCells_71 : decode (mB mC_readCells) 71 = .ok (.invokevirtual 273, 3) := op182 1 17 (by decide +kernel)
theorem dC_readCells_74 : decode (mB mC_readCells) 74 = .ok (.iload 4, 2) := op21 4 (by decide +kernel)
theorem dC_readCells_76 : decode (mB mC_readCells) 76 = .ok (.if_icmp .ne 7, 3) := op160 0 7 (by decide +kernel)
theorem dC_readCells_79 : decode (mB mC_readCells) 79 = .ok (.iconst 1, 1) := op4 (by decide +kernel)
theorem dC_readCells_80 : decode (mB mC_readCells) 80 = .ok (.goto 4, 3) := op167 0 4 (by decide +kernel)
theorem dC_readCells_83 : decode (mB mC_readCells) 83 = .ok (.iconst 0, 1) := op3 (by decide +kernel)
theorem dC_readCells_84 : decode (mB mC_readCells) 84 = .ok (.iadd, 1) := op96 (by decide +kernel)
theorem dC_readCells_85 : decode (mB mC_readCells) 85 = .ok (.istore 5, 2) := op54 5 (by decide +kernel)
theorem dC_readCells_87 : decode (mB mC_readCells) 87 = .ok (.iinc 6 1, 3) := op132 6 1 (by decide +kernel)
theorem dC_readCells_90 : decode (mB mC_readCells) 90 = .ok (.goto (-80), 3) := op167 255 176 (by decide +kernel)
theorem dC_readCells_93 : decode (mB mC_readCells) 93 = .ok (.iload 5, 2) := op21 5 (by decide +kernel)
theorem dC_readCells_95 : decode (mB mC_readCells) 95 = .ok (.ireturn, 1) := op172 (by decide +kernel)

theorem vC_readCells_0 {M : Mm} {b : Nat × Nat} {K : Int32 → Mm → Prop} {v0 : Nat} {v1 : Nat} {v2 : Int32} {v3 : Int32} {v4 : Int32} (kv0 : v0 % 64 = 10) 
    (h : CV mC_weighNow [.ref v0] M (fun N => X mC_readCells 4 [(0, .ref v0), (1, .ref v1), (2, .int v2), (3, .int v3), (4, .int v4)] [] N b (QI K))) : X mC_readCells 0 [(0, .ref v0), (1, .ref v1), (2, .int v2), (3, .int v3), (4, .int v4)] [] M b (QI K) := by
  refine x_wf (fun hw => ?_)
  refine x_aload_n (pc := 0) dC_readCells_0 rfl (q := 0) rfl ?_
  exact x_invV (pc := 1) dC_readCells_1 (c := 10) (S := []) (As := []) mlC_212 hC_weighNow rfl (by decide) rfl kv0 ⟨by decide, by decide⟩ ⟨Nat.zero_le _, Nat.zero_le _⟩ rfl (Nat.le_of_ble_eq_true rfl) (aftV (b' := b) ⟨Nat.le_refl _, Nat.le_refl _⟩ (fun N h => h) h)

theorem vC_readCells_4 {M : Mm} {b : Nat × Nat} {K : Int32 → Mm → Prop} {v0 : Nat} {v1 : Nat} {v2 : Int32} {v3 : Int32} {v4 : Int32}  
    (h : X mC_readCells 10 [(0, .ref v0), (1, .ref v1), (2, .int v2), (3, .int v3), (4, .int v4), (5, .int 0), (6, .int 0)] [] M b (QI K)) : X mC_readCells 4 [(0, .ref v0), (1, .ref v1), (2, .int v2), (3, .int v3), (4, .int v4)] [] M b (QI K) := by
  refine x_wf (fun hw => ?_)
  refine x_iconst (pc := 4) dC_readCells_4 (v := 0) rfl ?_
  refine x_istore (pc := 5) dC_readCells_5 (by decide) (L' := [(5, .int 0), (0, .ref v0), (1, .ref v1), (2, .int v2), (3, .int v3), (4, .int v4)]) rfl ?_
  refine x_iconst (pc := 7) dC_readCells_7 (v := 0) rfl ?_
  refine x_istore (pc := 8) dC_readCells_8 (by decide) (L' := [(6, .int 0), (5, .int 0), (0, .ref v0), (1, .ref v1), (2, .int v2), (3, .int v3), (4, .int v4)]) rfl ?_
  exact x_loc [2, 3, 4, 5, 6, 1, 0] rfl h

theorem vC_readCells_10 {M : Mm} {b : Nat × Nat} {K : Int32 → Mm → Prop} {v0 : Nat} {v1 : Nat} {v2 : Int32} {v3 : Int32} {v4 : Int32} {v5 : Int32} {v6 : Int32} (kv1 : v1 % 64 = 5) 
    (h : (v3 ≤ v6 → (K v5 M)) ∧ (¬ v3 ≤ v6 → (CI mSh_hasCell [.ref v1, .int v2] M (fun rv N => X mC_readCells 21 [(0, .ref v0), (1, .ref v1), (2, .int v2), (3, .int v3), (4, .int v4), (5, .int v5), (6, .int v6)] [.int rv] N b (QI K))))) : X mC_readCells 10 [(0, .ref v0), (1, .ref v1), (2, .int v2), (3, .int v3), (4, .int v4), (5, .int v5), (6, .int v6)] [] M b (QI K) := by
  refine x_wf (fun hw => ?_)
  refine x_iload (pc := 10) dC_readCells_10 (q := 6) rfl ?_
  refine x_iload_n (pc := 12) dC_readCells_12 rfl (q := 3) rfl ?_
  obtain ⟨g1_0, g1_1⟩ := h
  refine x_icmp_ge (pc := 13) dC_readCells_13 (t := 93) rfl (fun q1 => ?_) (fun q1 => ?_)
  · refine x_iload (pc := 93) dC_readCells_93 (q := 5) rfl ?_
    have h := g1_0 q1
    exact x_retQI (pc := 95) dC_readCells_95 rfl rfl h
  · refine x_aload_n (pc := 16) dC_readCells_16 rfl (q := 1) rfl ?_
    refine x_iload_n (pc := 17) dC_readCells_17 rfl (q := 2) rfl ?_
    have h := g1_1 q1
    exact x_invV (pc := 18) dC_readCells_18 (c := 5) (S := []) (As := [.int v2]) mlC_337 hSh_hasCell rfl (by decide) rfl kv1 ⟨by decide, by decide⟩ ⟨Nat.zero_le _, Nat.zero_le _⟩ rfl (Nat.le_of_ble_eq_true rfl) (aftI (b' := b) ⟨Nat.le_refl _, Nat.le_refl _⟩ (fun rv N h => h) h)

theorem vC_readCells_21 {M : Mm} {b : Nat × Nat} {K : Int32 → Mm → Prop} {v0 : Nat} {v1 : Nat} {v2 : Int32} {v3 : Int32} {v4 : Int32} {v5 : Int32} {v6 : Int32} {w0 : Int32} (kv1 : v1 % 64 = 5) 
    (h : (w0 = 0 → (K (-12) M)) ∧ (¬ w0 = 0 → (CI mSh_hasCell [.ref v1, .int (v2 + v6)] M (fun rv N => X mC_readCells 32 [(0, .ref v0), (1, .ref v1), (2, .int v2), (3, .int v3), (4, .int v4), (5, .int v5), (6, .int v6)] [.int rv] N b (QI K))))) : X mC_readCells 21 [(0, .ref v0), (1, .ref v1), (2, .int v2), (3, .int v3), (4, .int v4), (5, .int v5), (6, .int v6)] [.int w0] M b (QI K) := by
  refine x_wf (fun hw => ?_)
  obtain ⟨g1_0, g1_1⟩ := h
  refine x_if_eq (pc := 21) dC_readCells_21 (t := 35) rfl (fun q1 => ?_) (fun q1 => ?_)
  · have h := g1_0 q1
    refine x_bipush (pc := 35) dC_readCells_35 (v := (-12)) rfl ?_
    exact x_retQI (pc := 37) dC_readCells_37 rfl rfl h
  · refine x_aload_n (pc := 24) dC_readCells_24 rfl (q := 1) rfl ?_
    refine x_iload_n (pc := 25) dC_readCells_25 rfl (q := 2) rfl ?_
    refine x_iload (pc := 26) dC_readCells_26 (q := 6) rfl ?_
    refine x_iadd (pc := 28) dC_readCells_28 ?_
    have h := g1_1 q1
    exact x_invV (pc := 29) dC_readCells_29 (c := 5) (S := []) (As := [.int (v2 + v6)]) mlC_337 hSh_hasCell rfl (by decide) rfl kv1 ⟨by decide, by decide⟩ ⟨Nat.zero_le _, Nat.zero_le _⟩ rfl (Nat.le_of_ble_eq_true rfl) (aftI (b' := b) ⟨Nat.le_refl _, Nat.le_refl _⟩ (fun rv N h => h) h)

theorem vC_readCells_32 {M : Mm} {b : Nat × Nat} {K : Int32 → Mm → Prop} {v0 : Nat} {v1 : Nat} {v2 : Int32} {v3 : Int32} {v4 : Int32} {v5 : Int32} {v6 : Int32} {w0 : Int32} {r1 : Nat} (kv1 : v1 % 64 = 5) (e1 : gr M v1 0 = some r1)
    (h : (¬ w0 = 0 → vp_in (v2 + v6) 40) ∧ (¬ w0 = 0 → (CI mC_isCase [.int (gi M r1 (v2 + v6).toNatClampNeg)] M (fun rv N => X mC_readCells 54 [(0, .ref v0), (1, .ref v1), (2, .int v2), (3, .int v3), (4, .int v4), (5, .int v5), (6, .int v6), (7, .int (gi M r1 (v2 + v6).toNatClampNeg))] [.int rv] N b (QI K)))) ∧ (w0 = 0 → (K (-12) M))) : X mC_readCells 32 [(0, .ref v0), (1, .ref v1), (2, .int v2), (3, .int v3), (4, .int v4), (5, .int v5), (6, .int v6)] [.int w0] M b (QI K) := by
  refine x_wf (fun hw => ?_)
  obtain ⟨s1, g1_0, g1_1⟩ := h
  refine x_if_ne (pc := 32) dC_readCells_32 (t := 38) rfl (fun q1 => ?_) (fun q1 => ?_)
  · refine x_aload_n (pc := 38) dC_readCells_38 rfl (q := 1) rfl ?_
    refine x_getR (pc := 39) dC_readCells_39 kv1 flC_350 rfl e1 ?_
    refine x_iload_n (pc := 42) dC_readCells_42 rfl (q := 2) rfl ?_
    refine x_iload (pc := 43) dC_readCells_43 (q := 6) rfl ?_
    refine x_iadd (pc := 45) dC_readCells_45 ?_
    refine x_aldIj (pc := 46) (j := (v2 + v6).toNatClampNeg) (Or.inl ⟨rfl, rfl⟩) dC_readCells_46 (wfk hw e1 kv1) ak_20 rfl (s1 q1) ?_
    have h := g1_0 q1
    refine x_istore (pc := 47) dC_readCells_47 (by decide) (L' := [(7, .int (gi M r1 (v2 + v6).toNatClampNeg)), (0, .ref v0), (1, .ref v1), (2, .int v2), (3, .int v3), (4, .int v4), (5, .int v5), (6, .int v6)]) rfl ?_
    refine x_iload (pc := 49) dC_readCells_49 (q := 0) rfl ?_
    exact x_invS (pc := 51) dC_readCells_51 (S := []) (As := [.int (gi M r1 (v2 + v6).toNatClampNeg)]) mlC_182 hC_isCase rfl ⟨by decide, by decide⟩ ⟨Nat.zero_le _, Nat.zero_le _⟩ rfl (Nat.le_of_ble_eq_true rfl) (aftI (b' := b) ⟨Nat.le_refl _, Nat.le_refl _⟩ (fun rv N h => x_loc [1, 2, 3, 4, 5, 6, 7, 0] rfl h) h)
  · have h := g1_1 q1
    refine x_bipush (pc := 35) dC_readCells_35 (v := (-12)) rfl ?_
    exact x_retQI (pc := 37) dC_readCells_37 rfl rfl h

theorem vC_readCells_54 {M : Mm} {b : Nat × Nat} {K : Int32 → Mm → Prop} {v0 : Nat} {v1 : Nat} {v2 : Int32} {v3 : Int32} {v4 : Int32} {v5 : Int32} {v6 : Int32} {v7 : Int32} {w0 : Int32} {r1 : Nat} (kv0 : v0 % 64 = 10) (e1 : gr M v0 11 = some r1)
    (h : (¬ w0 = 0 → (CI mWe_heldIn [.ref r1, .int v7] M (fun rv N => X mC_readCells 74 [(0, .ref v0), (1, .ref v1), (2, .int v2), (3, .int v3), (4, .int v4), (6, .int v6)] [.int rv, .int v5] N b (QI K)))) ∧ (w0 = 0 → (K ((-20) - v6) M))) : X mC_readCells 54 [(0, .ref v0), (1, .ref v1), (2, .int v2), (3, .int v3), (4, .int v4), (5, .int v5), (6, .int v6), (7, .int v7)] [.int w0] M b (QI K) := by
  refine x_wf (fun hw => ?_)
  obtain ⟨g1_0, g1_1⟩ := h
  refine x_if_ne (pc := 54) dC_readCells_54 (t := 63) rfl (fun q1 => ?_) (fun q1 => ?_)
  · refine x_iload (pc := 63) dC_readCells_63 (q := 5) rfl ?_
    refine x_aload_n (pc := 65) dC_readCells_65 rfl (q := 0) rfl ?_
    refine x_getR (pc := 66) dC_readCells_66 kv0 flC_73 rfl e1 ?_
    refine x_iload (pc := 69) dC_readCells_69 (q := 7) rfl ?_
    have h := g1_0 q1
    exact x_invV (pc := 71) dC_readCells_71 (c := 8) (S := [.int v5]) (As := [.int v7]) mlC_273 hWe_heldIn rfl (by decide) rfl (wfk hw e1 kv0) ⟨by decide, by decide⟩ ⟨Nat.zero_le _, Nat.zero_le _⟩ rfl (Nat.le_of_ble_eq_true rfl) (aftI (b' := b) ⟨Nat.le_refl _, Nat.le_refl _⟩ (fun rv N h => x_loc [0, 1, 2, 3, 4, 6] rfl h) h)
  · refine x_bipush (pc := 57) dC_readCells_57 (v := (-20)) rfl ?_
    refine x_iload (pc := 59) dC_readCells_59 (q := 6) rfl ?_
    refine x_isub (pc := 61) dC_readCells_61 ?_
    have h := g1_1 q1
    exact x_retQI (pc := 62) dC_readCells_62 rfl rfl h

theorem vC_readCells_74 {M : Mm} {b : Nat × Nat} {K : Int32 → Mm → Prop} {v0 : Nat} {v1 : Nat} {v2 : Int32} {v3 : Int32} {v4 : Int32} {v6 : Int32} {w0 : Int32} {w1 : Int32}  
    (h : X mC_readCells 10 [(0, .ref v0), (1, .ref v1), (2, .int v2), (3, .int v3), (4, .int v4), (5, .int (w1 + (if w0 = v4 then 1 else 0 : Int32))), (6, .int (v6 + 1))] [] M b (QI K)) : X mC_readCells 74 [(0, .ref v0), (1, .ref v1), (2, .int v2), (3, .int v3), (4, .int v4), (6, .int v6)] [.int w0, .int w1] M b (QI K) := by
  refine x_wf (fun hw => ?_)
  refine x_iload (pc := 74) dC_readCells_74 (q := 4) rfl ?_
  suffices hJ : X mC_readCells 84 [(0, .ref v0), (1, .ref v1), (2, .int v2), (3, .int v3), (4, .int v4), (6, .int v6)] [.int (if w0 = v4 then 1 else 0 : Int32), .int w1] M b (QI K) by
    refine x_icmp_ne (pc := 76) dC_readCells_76 (t := 83) rfl (fun q1 => ?_) (fun q1 => ?_)
    · refine x_iconst (pc := 83) dC_readCells_83 (v := 0) rfl ?_
      first | (rw [if_neg q1] at hJ; exact hJ) | (simp only [if_neg q1] at hJ ⊢; exact hJ)
    · refine x_iconst (pc := 79) dC_readCells_79 (v := 1) rfl ?_
      refine x_goto (pc := 80) dC_readCells_80 (t := 84) rfl ?_
      first | (rw [if_pos q1] at hJ; exact hJ) | (simp only [if_pos q1] at hJ ⊢; exact hJ)
  refine x_iadd (pc := 84) dC_readCells_84 ?_
  refine x_istore (pc := 85) dC_readCells_85 (by decide) (L' := [(5, .int (w1 + (if w0 = v4 then 1 else 0 : Int32))), (0, .ref v0), (1, .ref v1), (2, .int v2), (3, .int v3), (4, .int v4), (6, .int v6)]) rfl ?_
  refine x_iinc (pc := 87) dC_readCells_87 (q := 6) rfl (v := v6 + 1) rfl (by decide) (L' := [(6, .int (v6 + 1)), (5, .int (w1 + (if w0 = v4 then 1 else 0 : Int32))), (0, .ref v0), (1, .ref v1), (2, .int v2), (3, .int v3), (4, .int v4)]) rfl ?_
  refine x_goto (pc := 90) dC_readCells_90 (t := 10) rfl ?_
  exact x_loc [2, 3, 4, 5, 6, 1, 0] rfl h

theorem dC_count_0 : decode (mB mC_count) 0 = .ok (.iload_n 1, 1) := op27 (by decide +kernel)
theorem dC_count_1 : decode (mB mC_count) 1 = .ok (.tableswitch 97 0 4 #[35, 43, 54, 62, 70], 35) := by decide +kernel
theorem dC_count_36 : decode (mB mC_count) 36 = .ok (.aload_n 0, 1) := op42 (by decide +kernel)
theorem dC_count_37 : decode (mB mC_count) 37 = .ok (.getfield 44, 3) := op180 0 44 (by decide +kernel)
theorem dC_count_40 : decode (mB mC_count) 40 = .ok (.getfield 353, 3) := op180 1 97 (by decide +kernel)
theorem dC_count_43 : decode (mB mC_count) 43 = .ok (.ireturn, 1) := op172 (by decide +kernel)
theorem dC_count_44 : decode (mB mC_count) 44 = .ok (.aload_n 0, 1) := op42 (by decide +kernel)
theorem dC_count_45 : decode (mB mC_count) 45 = .ok (.getfield 44, 3) := op180 0 44 (by decide +kernel)
theorem dC_count_48 : decode (mB mC_count) 48 = .ok (.getfield 356, 3) := op180 1 100 (by decide +kernel)
theorem dC_count_51 : decode (mB mC_count) 51 = .ok (.invokestatic 269, 3) := op184 1 13 (by decide +kernel)
theorem dC_count_54 : decode (mB mC_count) 54 = .ok (.ireturn, 1) := op172 (by decide +kernel)
theorem dC_count_55 : decode (mB mC_count) 55 = .ok (.aload_n 0, 1) := op42 (by decide +kernel)
theorem dC_count_56 : decode (mB mC_count) 56 = .ok (.getfield 64, 3) := op180 0 64 (by decide +kernel)
theorem dC_count_59 : decode (mB mC_count) 59 = .ok (.invokestatic 269, 3) := op184 1 13 (by decide +kernel)
theorem dC_count_62 : decode (mB mC_count) 62 = .ok (.ireturn, 1) := op172 (by decide +kernel)
theorem dC_count_63 : decode (mB mC_count) 63 = .ok (.aload_n 0, 1) := op42 (by decide +kernel)
theorem dC_count_64 : decode (mB mC_count) 64 = .ok (.getfield 12, 3) := op180 0 12 (by decide +kernel)
theorem dC_count_67 : decode (mB mC_count) 67 = .ok (.getfield 97, 3) := op180 0 97 (by decide +kernel)
theorem dC_count_70 : decode (mB mC_count) 70 = .ok (.ireturn, 1) := op172 (by decide +kernel)
theorem dC_count_71 : decode (mB mC_count) 71 = .ok (.aload_n 0, 1) := op42 (by decide +kernel)
theorem dC_count_72 : decode (mB mC_count) 72 = .ok (.getfield 88, 3) := op180 0 88 (by decide +kernel)
theorem dC_count_75 : decode (mB mC_count) 75 = .ok (.iconst 0, 1) := op3 (by decide +kernel)
theorem dC_count_76 : decode (mB mC_count) 76 = .ok (.aaload, 1) := op50 (by decide +kernel)
theorem dC_count_77 : decode (mB mC_count) 77 = .ok (.invokevirtual 333, 3) := op182 1 77 (by decide +kernel)
theorem dC_count_80 : decode (mB mC_count) 80 = .ok (.ifCond .eq 8, 3) := op153 0 8 (by decide +kernel)
theorem dC_count_83 : decode (mB mC_count) 83 = .ok (.bipush (-4), 2) := op16 252 (by decide +kernel)
theorem dC_count_85 : decode (mB mC_count) 85 = .ok (.goto 12, 3) := op167 0 12 (by decide +kernel)
theorem dC_count_88 : decode (mB mC_count) 88 = .ok (.aload_n 0, 1) := op42 (by decide +kernel)
theorem dC_count_89 : decode (mB mC_count) 89 = .ok (.getfield 88, 3) := op180 0 88 (by decide +kernel)
theorem dC_count_92 : decode (mB mC_count) 92 = .ok (.iconst 0, 1) := op3 (by decide +kernel)
theorem dC_count_93 : decode (mB mC_count) 93 = .ok (.aaload, 1) := op50 (by decide +kernel)
theorem dC_count_94 : decode (mB mC_count) 94 = .ok (.getfield 359, 3) := op180 1 103 (by decide +kernel)
theorem dC_count_97 : decode (mB mC_count) 97 = .ok (.ireturn, 1) := op172 (by decide +kernel)
theorem dC_count_98 : decode (mB mC_count) 98 = .ok (.iload_n 1, 1) := op27 (by decide +kernel)
theorem dC_count_99 : decode (mB mC_count) 99 = .ok (.bipush 10, 2) := op16 10 (by decide +kernel)
theorem dC_count_101 : decode (mB mC_count) 101 = .ok (.if_icmp .lt 24, 3) := op161 0 24 (by decide +kernel)
theorem dC_count_104 : decode (mB mC_count) 104 = .ok (.iload_n 1, 1) := op27 (by decide +kernel)
theorem dC_count_105 : decode (mB mC_count) 105 = .ok (.bipush 18, 2) := op16 18 (by decide +kernel)
theorem dC_count_107 : decode (mB mC_count) 107 = .ok (.if_icmp .ge 18, 3) := op162 0 18 (by decide +kernel)
theorem dC_count_110 : decode (mB mC_count) 110 = .ok (.aload_n 0, 1) := op42 (by decide +kernel)
theorem dC_count_111 : decode (mB mC_count) 111 = .ok (.getfield 44, 3) := op180 0 44 (by decide +kernel)
theorem dC_count_114 : decode (mB mC_count) 114 = .ok (.getfield 276, 3) := op180 1 20 (by decide +kernel)
theorem dC_count_117 : decode (mB mC_count) 117 = .ok (.iload_n 1, 1) := op27 (by decide +kernel)
theorem dC_count_118 : decode (mB mC_count) 118 = .ok (.bipush 10, 2) := op16 10 (by decide +kernel)
theorem dC_count_120 : decode (mB mC_count) 120 = .ok (.isub, 1) := op100 (by decide +kernel)
theorem dC_count_121 : decode (mB mC_count) 121 = .ok (.iaload, 1) := op46 (by decide +kernel)
theorem dC_count_122 : decode (mB mC_count) 122 = .ok (.goto 4, 3) := op167 0 4 (by decide +kernel)
theorem dC_count_125 : decode (mB mC_count) 125 = .ok (.iconst (-1), 1) := op2 (by decide +kernel)
theorem dC_count_126 : decode (mB mC_count) 126 = .ok (.ireturn, 1) := op172 (by decide +kernel)

theorem vC_count_0 {M : Mm} {b : Nat × Nat} {K : Int32 → Mm → Prop} {v0 : Nat} {v1 : Int32} {r1 : Nat} {r2 : Nat} {r3 : Nat} {r5 : Nat} (kv0 : v0 % 64 = 10) (e1 : gr M v0 4 = some r1) (e2 : gr M v0 0 = some r2) (e3 : gr M v0 13 = some r3) (e5 : gr M r1 2 = some r5)
    (h : (v1 = 0 → (K (gi M r1 1) M)) ∧ (v1 = 1 → (CI mJi_bitCount [.int (gi M r1 10)] M (fun rv N => X mC_count 54 [] [.int rv] N b (QI K)))) ∧ (v1 = 2 → (CI mJi_bitCount [.int (gi M v0 9)] M (fun rv N => X mC_count 62 [] [.int rv] N b (QI K)))) ∧ (v1 = 3 → (K (gi M r2 1) M)) ∧ (v1 = 4 → (∃ r4 : Nat, gr M r3 (0 : Int32).toNatClampNeg = some r4 ∧ (CI mSh_isNothing [.ref r4] M (fun rv N => X mC_count 80 [(0, .ref v0)] [.int rv] N b (QI K))))) ∧ (¬ v1 = 0 ∧ ¬ v1 = 1 ∧ ¬ v1 = 2 ∧ ¬ v1 = 3 ∧ ¬ v1 = 4 → ((¬ v1 < 10 ∧ ¬ 18 ≤ v1 → vp_in (v1 - 10) 8) ∧ (((v1 < 10) ∨ (¬ v1 < 10 ∧ 18 ≤ v1)) → (K (-1) M)) ∧ ((¬ v1 < 10 ∧ ¬ 18 ≤ v1) → (K (gi M r5 (v1 - 10).toNatClampNeg) M))))) : X mC_count 0 [(0, .ref v0), (1, .int v1)] [] M b (QI K) := by
  refine x_wf (fun hw => ?_)
  refine x_iload_n (pc := 0) dC_count_0 rfl (q := 1) rfl ?_
  obtain ⟨g1_0, g1_1, g1_2, g1_3, g1_4, g1_5⟩ := h
  by_cases q1 : v1 = 0
  · refine x_tblIn (pc := 1) dC_count_1 (by rw [q1]; decide) (by rw [q1]; decide) (off := 35) (by rw [q1]; rfl) (t := 36) rfl ?_
    have h := g1_0 q1
    refine x_aload_n (pc := 36) dC_count_36 rfl (q := 0) rfl ?_
    refine x_getR (pc := 37) dC_count_37 kv0 flC_44 rfl e1 ?_
    refine x_getI (pc := 40) dC_count_40 (wfk hw e1 kv0) flC_353 rfl ?_
    exact x_retQI (pc := 43) dC_count_43 rfl rfl h
  by_cases q2 : v1 = 1
  · refine x_tblIn (pc := 1) dC_count_1 (by rw [q2]; decide) (by rw [q2]; decide) (off := 43) (by rw [q2]; rfl) (t := 44) rfl ?_
    have h := g1_1 q2
    refine x_aload_n (pc := 44) dC_count_44 rfl (q := 0) rfl ?_
    refine x_getR (pc := 45) dC_count_45 kv0 flC_44 rfl e1 ?_
    refine x_getI (pc := 48) dC_count_48 (wfk hw e1 kv0) flC_356 rfl ?_
    exact x_invS (pc := 51) dC_count_51 (S := []) (As := [.int (gi M r1 10)]) mlC_269 hJi_bitCount rfl ⟨by decide, by decide⟩ ⟨Nat.zero_le _, Nat.zero_le _⟩ rfl (Nat.le_of_ble_eq_true rfl) (aftI (b' := b) ⟨Nat.le_refl _, Nat.le_refl _⟩ (fun rv N h => x_loc [] rfl h) h)
  by_cases q3 : v1 = 2
  · refine x_tblIn (pc := 1) dC_count_1 (by rw [q3]; decide) (by rw [q3]; decide) (off := 54) (by rw [q3]; rfl) (t := 55) rfl ?_
    have h := g1_2 q3
    refine x_aload_n (pc := 55) dC_count_55 rfl (q := 0) rfl ?_
    refine x_getI (pc := 56) dC_count_56 kv0 flC_64 rfl ?_
    exact x_invS (pc := 59) dC_count_59 (S := []) (As := [.int (gi M v0 9)]) mlC_269 hJi_bitCount rfl ⟨by decide, by decide⟩ ⟨Nat.zero_le _, Nat.zero_le _⟩ rfl (Nat.le_of_ble_eq_true rfl) (aftI (b' := b) ⟨Nat.le_refl _, Nat.le_refl _⟩ (fun rv N h => x_loc [] rfl h) h)
  by_cases q4 : v1 = 3
  · refine x_tblIn (pc := 1) dC_count_1 (by rw [q4]; decide) (by rw [q4]; decide) (off := 62) (by rw [q4]; rfl) (t := 63) rfl ?_
    have h := g1_3 q4
    refine x_aload_n (pc := 63) dC_count_63 rfl (q := 0) rfl ?_
    refine x_getR (pc := 64) dC_count_64 kv0 flC_12 rfl e2 ?_
    refine x_getI (pc := 67) dC_count_67 (wfk hw e2 kv0) flC_97 rfl ?_
    exact x_retQI (pc := 70) dC_count_70 rfl rfl h
  by_cases q5 : v1 = 4
  · refine x_tblIn (pc := 1) dC_count_1 (by rw [q5]; decide) (by rw [q5]; decide) (off := 70) (by rw [q5]; rfl) (t := 71) rfl ?_
    have h := g1_4 q5
    refine x_aload_n (pc := 71) dC_count_71 rfl (q := 0) rfl ?_
    refine x_getR (pc := 72) dC_count_72 kv0 flC_88 rfl e3 ?_
    refine x_iconst (pc := 75) dC_count_75 (v := 0) rfl ?_
    obtain ⟨r4, s501, h⟩ := h
    refine x_aldR (pc := 76) (Or.inr rfl) dC_count_76 (wfk hw e3 kv0) ak_19 (by unfold vp_in; decide) s501 ?_
    exact x_invV (pc := 77) dC_count_77 (c := 5) (S := []) (As := []) mlC_333 hSh_isNothing rfl (by decide) rfl (wfk hw s501 (wfk hw e3 kv0)) ⟨by decide, by decide⟩ ⟨Nat.zero_le _, Nat.zero_le _⟩ rfl (Nat.le_of_ble_eq_true rfl) (aftI (b' := b) ⟨Nat.le_refl _, Nat.le_refl _⟩ (fun rv N h => x_loc [0] rfl h) h)
  have h := g1_5 ⟨q1, q2, q3, q4, q5⟩
  have hout : (v1).toInt < 0 ∨ 4 < (v1).toInt := tblout (fun (k : Int) h1 h2 => by
    rcases (show k = 0 ∨ k = 1 ∨ k = 2 ∨ k = 3 ∨ k = 4 by omega) with rfl | rfl | rfl | rfl | rfl
    · exact q1
    · exact q2
    · exact q3
    · exact q4
    · exact q5)
  refine x_tblOut (pc := 1) dC_count_1 hout (t := 98) rfl ?_
  refine x_iload_n (pc := 98) dC_count_98 rfl (q := 1) rfl ?_
  refine x_bipush (pc := 99) dC_count_99 (v := 10) rfl ?_
  obtain ⟨s2, g2_0, g2_1⟩ := h
  have g2_k0 : (v1 < 10) ∨ (¬ v1 < 10 ∧ 18 ≤ v1) → X mC_count 125 [(0, .ref v0), (1, .int v1)] [] M b (QI K) := fun q => by
    have h := g2_0 q
    refine x_iconst (pc := 125) dC_count_125 (v := (-1)) rfl ?_
    exact x_retQI (pc := 126) dC_count_126 rfl rfl h
  refine x_icmp_lt (pc := 101) dC_count_101 (t := 125) rfl (fun q6 => ?_) (fun q6 => ?_)
  · exact g2_k0 (Or.inl q6)
  · refine x_iload_n (pc := 104) dC_count_104 rfl (q := 1) rfl ?_
    refine x_bipush (pc := 105) dC_count_105 (v := 18) rfl ?_
    refine x_icmp_ge (pc := 107) dC_count_107 (t := 125) rfl (fun q7 => ?_) (fun q7 => ?_)
    · exact g2_k0 (Or.inr ⟨q6, q7⟩)
    · refine x_aload_n (pc := 110) dC_count_110 rfl (q := 0) rfl ?_
      refine x_getR (pc := 111) dC_count_111 kv0 flC_44 rfl e1 ?_
      refine x_getR (pc := 114) dC_count_114 (wfk hw e1 kv0) flC_276 rfl e5 ?_
      refine x_iload_n (pc := 117) dC_count_117 rfl (q := 1) rfl ?_
      refine x_bipush (pc := 118) dC_count_118 (v := 10) rfl ?_
      refine x_isub (pc := 120) dC_count_120 ?_
      refine x_aldIj (pc := 121) (j := (v1 - 10).toNatClampNeg) (Or.inl ⟨rfl, rfl⟩) dC_count_121 (wfk hw e5 (wfk hw e1 kv0)) ak_13 rfl (s2 ⟨q6, q7⟩) ?_
      refine x_goto (pc := 122) dC_count_122 (t := 126) rfl ?_
      have h := g2_1 ⟨q6, q7⟩
      exact x_retQI (pc := 126) dC_count_126 rfl rfl h

theorem vC_count_54 {M : Mm} {b : Nat × Nat} {K : Int32 → Mm → Prop} {w0 : Int32}  
    (h : K w0 M) : X mC_count 54 [] [.int w0] M b (QI K) := by
  refine x_wf (fun hw => ?_)
  exact x_retQI (pc := 54) dC_count_54 rfl rfl h

theorem vC_count_62 {M : Mm} {b : Nat × Nat} {K : Int32 → Mm → Prop} {w0 : Int32}  
    (h : K w0 M) : X mC_count 62 [] [.int w0] M b (QI K) := by
  refine x_wf (fun hw => ?_)
  exact x_retQI (pc := 62) dC_count_62 rfl rfl h

theorem vC_count_80 {M : Mm} {b : Nat × Nat} {K : Int32 → Mm → Prop} {v0 : Nat} {w0 : Int32} {r1 : Nat} (kv0 : v0 % 64 = 10) (e1 : gr M v0 13 = some r1)
    (h : (w0 = 0 → (∃ r2 : Nat, gr M r1 (0 : Int32).toNatClampNeg = some r2 ∧ (K (gi M r2 2) M))) ∧ (¬ w0 = 0 → (K (-4) M))) : X mC_count 80 [(0, .ref v0)] [.int w0] M b (QI K) := by
  refine x_wf (fun hw => ?_)
  obtain ⟨g1_0, g1_1⟩ := h
  refine x_if_eq (pc := 80) dC_count_80 (t := 88) rfl (fun q1 => ?_) (fun q1 => ?_)
  · refine x_aload_n (pc := 88) dC_count_88 rfl (q := 0) rfl ?_
    refine x_getR (pc := 89) dC_count_89 kv0 flC_88 rfl e1 ?_
    refine x_iconst (pc := 92) dC_count_92 (v := 0) rfl ?_
    have h := g1_0 q1
    obtain ⟨r2, s501, h⟩ := h
    refine x_aldR (pc := 93) (Or.inr rfl) dC_count_93 (wfk hw e1 kv0) ak_19 (by unfold vp_in; decide) s501 ?_
    refine x_getI (pc := 94) dC_count_94 (wfk hw s501 (wfk hw e1 kv0)) flC_359 rfl ?_
    exact x_retQI (pc := 97) dC_count_97 rfl rfl h
  · refine x_bipush (pc := 83) dC_count_83 (v := (-4)) rfl ?_
    refine x_goto (pc := 85) dC_count_85 (t := 97) rfl ?_
    have h := g1_1 q1
    exact x_retQI (pc := 97) dC_count_97 rfl rfl h

