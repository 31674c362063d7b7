theorem dLi_init_0 : decode (mB mLi_init) 0 = .ok (.aload_n 0, 1) := op42 (by decide +kernel)
theorem dLi_init_1 : decode (mB mLi_init) 1 = .ok (.invokespecial 3, 3) := op183 0 3 (by decide +kernel)
theorem dLi_init_4 : decode (mB mLi_init) 4 = .ok (.aload_n 0, 1) := op42 (by decide +kernel)
theorem dLi_init_5 : decode (mB mLi_init) 5 = .ok (.bipush 24, 2) := op16 24 (by decide +kernel)
theorem dLi_init_7 : decode (mB mLi_init) 7 = .ok (.anewarray 9, 3) := op189 0 9 (by decide +kernel)
theorem dLi_init_10 : decode (mB mLi_init) 10 = .ok (.putfield 11, 3) := op181 0 11 (by decide +kernel)
theorem dLi_init_13 : decode (mB mLi_init) 13 = .ok (.aload_n 0, 1) := op42 (by decide +kernel)
theorem dLi_init_14 : decode (mB mLi_init) 14 = .ok (.bipush 8, 2) := op16 8 (by decide +kernel)
theorem dLi_init_16 : decode (mB mLi_init) 16 = .ok (.newarray .int, 2) := by decide +kernel
theorem dLi_init_18 : decode (mB mLi_init) 18 = .ok (.putfield 17, 3) := op181 0 17 (by decide +kernel)
theorem dLi_init_21 : decode (mB mLi_init) 21 = .ok (.aload_n 0, 1) := op42 (by decide +kernel)
theorem dLi_init_22 : decode (mB mLi_init) 22 = .ok (.bipush 64, 2) := op16 64 (by decide +kernel)
theorem dLi_init_24 : decode (mB mLi_init) 24 = .ok (.newarray .int, 2) := by decide +kernel
theorem dLi_init_26 : decode (mB mLi_init) 26 = .ok (.putfield 21, 3) := op181 0 21 (by decide +kernel)
theorem dLi_init_29 : decode (mB mLi_init) 29 = .ok (.aload_n 0, 1) := op42 (by decide +kernel)
theorem dLi_init_30 : decode (mB mLi_init) 30 = .ok (.bipush 64, 2) := op16 64 (by decide +kernel)
theorem dLi_init_32 : decode (mB mLi_init) 32 = .ok (.newarray .int, 2) := by decide +kernel
theorem dLi_init_34 : decode (mB mLi_init) 34 = .ok (.putfield 24, 3) := op181 0 24 (by decide +kernel)
theorem dLi_init_37 : decode (mB mLi_init) 37 = .ok (.aload_n 0, 1) := op42 (by decide +kernel)
theorem dLi_init_38 : decode (mB mLi_init) 38 = .ok (.bipush 64, 2) := op16 64 (by decide +kernel)
theorem dLi_init_40 : decode (mB mLi_init) 40 = .ok (.newarray .int, 2) := by decide +kernel
theorem dLi_init_42 : decode (mB mLi_init) 42 = .ok (.putfield 27, 3) := op181 0 27 (by decide +kernel)
theorem dLi_init_45 : decode (mB mLi_init) 45 = .ok (.aload_n 0, 1) := op42 (by decide +kernel)
theorem dLi_init_46 : decode (mB mLi_init) 46 = .ok (.bipush 64, 2) := op16 64 (by decide +kernel)
theorem dLi_init_48 : decode (mB mLi_init) 48 = .ok (.newarray .int, 2) := by decide +kernel
theorem dLi_init_50 : decode (mB mLi_init) 50 = .ok (.putfield 30, 3) := op181 0 30 (by decide +kernel)
theorem dLi_init_53 : decode (mB mLi_init) 53 = .ok (.aload_n 0, 1) := op42 (by decide +kernel)
theorem dLi_init_54 : decode (mB mLi_init) 54 = .ok (.bipush 8, 2) := op16 8 (by decide +kernel)
theorem dLi_init_56 : decode (mB mLi_init) 56 = .ok (.newarray .int, 2) := by decide +kernel
theorem dLi_init_58 : decode (mB mLi_init) 58 = .ok (.putfield 33, 3) := op181 0 33 (by decide +kernel)
theorem dLi_init_61 : decode (mB mLi_init) 61 = .ok (.aload_n 0, 1) := op42 (by decide +kernel)
theorem dLi_init_62 : decode (mB mLi_init) 62 = .ok (.bipush 8, 2) := op16 8 (by decide +kernel)
theorem dLi_init_64 : decode (mB mLi_init) 64 = .ok (.newarray .int, 2) := by decide +kernel
theorem dLi_init_66 : decode (mB mLi_init) 66 = .ok (.putfield 36, 3) := op181 0 36 (by decide +kernel)
theorem dLi_init_69 : decode (mB mLi_init) 69 = .ok (.aload_n 0, 1) := op42 (by decide +kernel)
theorem dLi_init_70 : decode (mB mLi_init) 70 = .ok (.bipush 7, 2) := op16 7 (by decide +kernel)
theorem dLi_init_72 : decode (mB mLi_init) 72 = .ok (.newarray .int, 2) := by decide +kernel
theorem dLi_init_74 : decode (mB mLi_init) 74 = .ok (.putfield 39, 3) := op181 0 39 (by decide +kernel)
theorem dLi_init_77 : decode (mB mLi_init) 77 = .ok (.aload_n 0, 1) := op42 (by decide +kernel)
theorem dLi_init_78 : decode (mB mLi_init) 78 = .ok (.bipush 24, 2) := op16 24 (by decide +kernel)
theorem dLi_init_80 : decode (mB mLi_init) 80 = .ok (.newarray .int, 2) := by decide +kernel
theorem dLi_init_82 : decode (mB mLi_init) 82 = .ok (.putfield 42, 3) := op181 0 42 (by decide +kernel)
theorem dLi_init_85 : decode (mB mLi_init) 85 = .ok (.aload_n 0, 1) := op42 (by decide +kernel)
theorem dLi_init_86 : decode (mB mLi_init) 86 = .ok (.bipush 24, 2) := op16 24 (by decide +kernel)
theorem dLi_init_88 : decode (mB mLi_init) 88 = .ok (.newarray .int, 2) := by decide +kernel
theorem dLi_init_90 : decode (mB mLi_init) 90 = .ok (.putfield 45, 3) := op181 0 45 (by decide +kernel)
theorem dLi_init_93 : decode (mB mLi_init) 93 = .ok (.iconst 0, 1) := op3 (by decide +kernel)
theorem dLi_init_94 : decode (mB mLi_init) 94 = .ok (.istore_n 1, 1) := op60 (by decide +kernel)
theorem dLi_init_95 : decode (mB mLi_init) 95 = .ok (.iload_n 1, 1) := op27 (by decide +kernel)
theorem dLi_init_96 : decode (mB mLi_init) 96 = .ok (.bipush 24, 2) := op16 24 (by decide +kernel)
theorem dLi_init_98 : decode (mB mLi_init) 98 = .ok (.if_icmp .ge 22, 3) := op162 0 22 (by decide +kernel)
theorem dLi_init_101 : decode (mB mLi_init) 101 = .ok (.aload_n 0, 1) := op42 (by decide +kernel)
theorem dLi_init_102 : decode (mB mLi_init) 102 = .ok (.getfield 11, 3) := op180 0 11 (by decide +kernel)
theorem dLi_init_105 : decode (mB mLi_init) 105 = .ok (.iload_n 1, 1) := op27 (by decide +kernel)
theorem dLi_init_106 : decode (mB mLi_init) 106 = .ok (.new 9, 3) := op187 0 9 (by decide +kernel)
theorem dLi_init_109 : decode (mB mLi_init) 109 = .ok (.dup, 1) := op89 (by decide +kernel)
theorem dLi_init_110 : decode (mB mLi_init) 110 = .ok (.invokespecial 48, 3) := op183 0 48 (by decide +kernel)
theorem dLi_init_113 : decode (mB mLi_init) 113 = .ok (.aastore, 1) := op83 (by decide +kernel)
theorem dLi_init_114 : decode (mB mLi_init) 114 = .ok (.iinc 1 1, 3) := op132 1 1 (by decide +kernel)
theorem dLi_init_117 : decode (mB mLi_init) 117 = .ok (.goto (-22), 3) := op167 255 234 (by decide +kernel)
theorem dLi_init_120 : decode (mB mLi_init) 120 = .ok (.aload_n 0, 1) := op42 (by decide +kernel)
theorem dLi_init_121 : decode (mB mLi_init) 121 = .ok (.invokevirtual 49, 3) := op182 0 49 (by decide +kernel)
theorem dLi_init_124 : decode (mB mLi_init) 124 = .ok (.aload_n 0, 1) := op42 (by decide +kernel)
theorem dLi_init_125 : decode (mB mLi_init) 125 = .ok (.invokevirtual 52, 3) := op182 0 52 (by decide +kernel)
theorem dLi_init_128 : decode (mB mLi_init) 128 = .ok (.return_, 1) := op177 (by decide +kernel)

theorem vLi_init_0 {M : Mm} {b : Nat × Nat} {K : Mm → Prop} {v0 : Nat}  
    (h : X mLi_init 4 [(0, .ref v0)] [] M b (QV K)) : X mLi_init 0 [(0, .ref v0)] [] M b (QV K) := by
  refine x_wf (fun hw => ?_)
  refine x_aload_n (pc := 0) dLi_init_0 rfl (q := 0) rfl ?_
  refine x_obj (pc := 1) dLi_init_1 mlLi_3 h_obj.1 h_obj.2 (by decide) (Nat.le_of_ble_eq_true rfl) ?_
  exact h

theorem vLi_init_4 {M : Mm} {b b' : Nat × Nat} (hb : b'.1 + 1 ≤ b.1 ∧ b'.2 + 24 ≤ b.2) {K : Mm → Prop} {v0 : Nat} (kv0 : v0 % 64 = 1) 
    (h : X mLi_init 13 [(0, .ref v0)] [] (sr (nw M 18) v0 0 (some (64 * M.1.1.length + 18))) b' (QV K)) : X mLi_init 4 [(0, .ref v0)] [] M b (QV K) := by
  refine x_wf (fun hw => ?_)
  refine x_aload_n (pc := 4) dLi_init_4 rfl (q := 0) rfl ?_
  refine x_bipush (pc := 5) dLi_init_5 (v := 24) rfl ?_
  refine x_anewB (pc := 7) dLi_init_7 ak_18 (Or.inl ⟨rfl, rfl⟩) (by decide) (by decide) (by decide) clLi_9 (b' := b') (by have := hb; (try dsimp only); omega) ?_
  refine x_putR (pc := 10) dLi_init_10 kv0 flLi_11 (Or.inr ⟨rfl, rfl, rfl⟩) (Or.inr ⟨_, rfl⟩) (by first | exact (nwk M.1.1.length 18 (by decide)) | (rw [(nwk M.1.1.length 18 (by decide))]; rfl)) (by decide) ?_
  exact h

theorem vLi_init_13 {M : Mm} {b b' : Nat × Nat} (hb : b'.1 + 1 ≤ b.1 ∧ b'.2 + 8 ≤ b.2) {K : Mm → Prop} {v0 : Nat} (kv0 : v0 % 64 = 1) 
    (h : X mLi_init 21 [(0, .ref v0)] [] (sr (nw M 13) v0 2 (some (64 * M.1.1.length + 13))) b' (QV K)) : X mLi_init 13 [(0, .ref v0)] [] M b (QV K) := by
  refine x_wf (fun hw => ?_)
  refine x_aload_n (pc := 13) dLi_init_13 rfl (q := 0) rfl ?_
  refine x_bipush (pc := 14) dLi_init_14 (v := 8) rfl ?_
  refine x_newaB (pc := 16) dLi_init_16 ak_13 (Or.inl ⟨rfl, rfl⟩) (by decide) (by decide) (by decide) ac_int (b' := b') (by have := hb; (try dsimp only); omega) ?_
  refine x_putR (pc := 18) dLi_init_18 kv0 flLi_17 (Or.inr ⟨rfl, rfl, rfl⟩) (Or.inr ⟨_, rfl⟩) (by first | exact (nwk M.1.1.length 13 (by decide)) | (rw [(nwk M.1.1.length 13 (by decide))]; rfl)) (by decide) ?_
  exact h

theorem vLi_init_21 {M : Mm} {b b' : Nat × Nat} (hb : b'.1 + 1 ≤ b.1 ∧ b'.2 + 64 ≤ b.2) {K : Mm → Prop} {v0 : Nat} (kv0 : v0 % 64 = 1) 
    (h : X mLi_init 29 [(0, .ref v0)] [] (sr (nw M 14) v0 3 (some (64 * M.1.1.length + 14))) b' (QV K)) : X mLi_init 21 [(0, .ref v0)] [] M b (QV K) := by
  refine x_wf (fun hw => ?_)
  refine x_aload_n (pc := 21) dLi_init_21 rfl (q := 0) rfl ?_
  refine x_bipush (pc := 22) dLi_init_22 (v := 64) rfl ?_
  refine x_newaB (pc := 24) dLi_init_24 ak_14 (Or.inl ⟨rfl, rfl⟩) (by decide) (by decide) (by decide) ac_int (b' := b') (by have := hb; (try dsimp only); omega) ?_
  refine x_putR (pc := 26) dLi_init_26 kv0 flLi_21 (Or.inr ⟨rfl, rfl, rfl⟩) (Or.inr ⟨_, rfl⟩) (by first | exact (nwk M.1.1.length 14 (by decide)) | (rw [(nwk M.1.1.length 14 (by decide))]; rfl)) (by decide) ?_
  exact h

theorem vLi_init_29 {M : Mm} {b b' : Nat × Nat} (hb : b'.1 + 1 ≤ b.1 ∧ b'.2 + 64 ≤ b.2) {K : Mm → Prop} {v0 : Nat} (kv0 : v0 % 64 = 1) 
    (h : X mLi_init 37 [(0, .ref v0)] [] (sr (nw M 14) v0 4 (some (64 * M.1.1.length + 14))) b' (QV K)) : X mLi_init 29 [(0, .ref v0)] [] M b (QV K) := by
  refine x_wf (fun hw => ?_)
  refine x_aload_n (pc := 29) dLi_init_29 rfl (q := 0) rfl ?_
  refine x_bipush (pc := 30) dLi_init_30 (v := 64) rfl ?_
  refine x_newaB (pc := 32) dLi_init_32 ak_14 (Or.inl ⟨rfl, rfl⟩) (by decide) (by decide) (by decide) ac_int (b' := b') (by have := hb; (try dsimp only); omega) ?_
  refine x_putR (pc := 34) dLi_init_34 kv0 flLi_24 (Or.inr ⟨rfl, rfl, rfl⟩) (Or.inr ⟨_, rfl⟩) (by first | exact (nwk M.1.1.length 14 (by decide)) | (rw [(nwk M.1.1.length 14 (by decide))]; rfl)) (by decide) ?_
  exact h

theorem vLi_init_37 {M : Mm} {b b' : Nat × Nat} (hb : b'.1 + 1 ≤ b.1 ∧ b'.2 + 64 ≤ b.2) {K : Mm → Prop} {v0 : Nat} (kv0 : v0 % 64 = 1) 
    (h : X mLi_init 45 [(0, .ref v0)] [] (sr (nw M 14) v0 5 (some (64 * M.1.1.length + 14))) b' (QV K)) : X mLi_init 37 [(0, .ref v0)] [] M b (QV K) := by
  refine x_wf (fun hw => ?_)
  refine x_aload_n (pc := 37) dLi_init_37 rfl (q := 0) rfl ?_
  refine x_bipush (pc := 38) dLi_init_38 (v := 64) rfl ?_
  refine x_newaB (pc := 40) dLi_init_40 ak_14 (Or.inl ⟨rfl, rfl⟩) (by decide) (by decide) (by decide) ac_int (b' := b') (by have := hb; (try dsimp only); omega) ?_
  refine x_putR (pc := 42) dLi_init_42 kv0 flLi_27 (Or.inr ⟨rfl, rfl, rfl⟩) (Or.inr ⟨_, rfl⟩) (by first | exact (nwk M.1.1.length 14 (by decide)) | (rw [(nwk M.1.1.length 14 (by decide))]; rfl)) (by decide) ?_
  exact h

theorem vLi_init_45 {M : Mm} {b b' : Nat × Nat} (hb : b'.1 + 1 ≤ b.1 ∧ b'.2 + 64 ≤ b.2) {K : Mm → Prop} {v0 : Nat} (kv0 : v0 % 64 = 1) 
    (h : X mLi_init 53 [(0, .ref v0)] [] (sr (nw M 14) v0 6 (some (64 * M.1.1.length + 14))) b' (QV K)) : X mLi_init 45 [(0, .ref v0)] [] M b (QV K) := by
  refine x_wf (fun hw => ?_)
  refine x_aload_n (pc := 45) dLi_init_45 rfl (q := 0) rfl ?_
  refine x_bipush (pc := 46) dLi_init_46 (v := 64) rfl ?_
  refine x_newaB (pc := 48) dLi_init_48 ak_14 (Or.inl ⟨rfl, rfl⟩) (by decide) (by decide) (by decide) ac_int (b' := b') (by have := hb; (try dsimp only); omega) ?_
  refine x_putR (pc := 50) dLi_init_50 kv0 flLi_30 (Or.inr ⟨rfl, rfl, rfl⟩) (Or.inr ⟨_, rfl⟩) (by first | exact (nwk M.1.1.length 14 (by decide)) | (rw [(nwk M.1.1.length 14 (by decide))]; rfl)) (by decide) ?_
  exact h

theorem vLi_init_53 {M : Mm} {b b' : Nat × Nat} (hb : b'.1 + 1 ≤ b.1 ∧ b'.2 + 8 ≤ b.2) {K : Mm → Prop} {v0 : Nat} (kv0 : v0 % 64 = 1) 
    (h : X mLi_init 61 [(0, .ref v0)] [] (sr (nw M 13) v0 7 (some (64 * M.1.1.length + 13))) b' (QV K)) : X mLi_init 53 [(0, .ref v0)] [] M b (QV K) := by
  refine x_wf (fun hw => ?_)
  refine x_aload_n (pc := 53) dLi_init_53 rfl (q := 0) rfl ?_
  refine x_bipush (pc := 54) dLi_init_54 (v := 8) rfl ?_
  refine x_newaB (pc := 56) dLi_init_56 ak_13 (Or.inl ⟨rfl, rfl⟩) (by decide) (by decide) (by decide) ac_int (b' := b') (by have := hb; (try dsimp only); omega) ?_
  refine x_putR (pc := 58) dLi_init_58 kv0 flLi_33 (Or.inr ⟨rfl, rfl, rfl⟩) (Or.inr ⟨_, rfl⟩) (by first | exact (nwk M.1.1.length 13 (by decide)) | (rw [(nwk M.1.1.length 13 (by decide))]; rfl)) (by decide) ?_
  exact h

theorem vLi_init_61 {M : Mm} {b b' : Nat × Nat} (hb : b'.1 + 1 ≤ b.1 ∧ b'.2 + 8 ≤ b.2) {K : Mm → Prop} {v0 : Nat} (kv0 : v0 % 64 = 1) 
    (h : X mLi_init 69 [(0, .ref v0)] [] (sr (nw M 13) v0 8 (some (64 * M.1.1.length + 13))) b' (QV K)) : X mLi_init 61 [(0, .ref v0)] [] M b (QV K) := by
  refine x_wf (fun hw => ?_)
  refine x_aload_n (pc := 61) dLi_init_61 rfl (q := 0) rfl ?_
  refine x_bipush (pc := 62) dLi_init_62 (v := 8) rfl ?_
  refine x_newaB (pc := 64) dLi_init_64 ak_13 (Or.inl ⟨rfl, rfl⟩) (by decide) (by decide) (by decide) ac_int (b' := b') (by have := hb; (try dsimp only); omega) ?_
  refine x_putR (pc := 66) dLi_init_66 kv0 flLi_36 (Or.inr ⟨rfl, rfl, rfl⟩) (Or.inr ⟨_, rfl⟩) (by first | exact (nwk M.1.1.length 13 (by decide)) | (rw [(nwk M.1.1.length 13 (by decide))]; rfl)) (by decide) ?_
  exact h

theorem vLi_init_69 {M : Mm} {b b' : Nat × Nat} (hb : b'.1 + 1 ≤ b.1 ∧ b'.2 + 7 ≤ b.2) {K : Mm → Prop} {v0 : Nat} (kv0 : v0 % 64 = 1) 
    (h : X mLi_init 77 [(0, .ref v0)] [] (sr (nw M 15) v0 9 (some (64 * M.1.1.length + 15))) b' (QV K)) : X mLi_init 69 [(0, .ref v0)] [] M b (QV K) := by
  refine x_wf (fun hw => ?_)
  refine x_aload_n (pc := 69) dLi_init_69 rfl (q := 0) rfl ?_
  refine x_bipush (pc := 70) dLi_init_70 (v := 7) rfl ?_
  refine x_newaB (pc := 72) dLi_init_72 ak_15 (Or.inl ⟨rfl, rfl⟩) (by decide) (by decide) (by decide) ac_int (b' := b') (by have := hb; (try dsimp only); omega) ?_
  refine x_putR (pc := 74) dLi_init_74 kv0 flLi_39 (Or.inr ⟨rfl, rfl, rfl⟩) (Or.inr ⟨_, rfl⟩) (by first | exact (nwk M.1.1.length 15 (by decide)) | (rw [(nwk M.1.1.length 15 (by decide))]; rfl)) (by decide) ?_
  exact h

theorem vLi_init_77 {M : Mm} {b b' : Nat × Nat} (hb : b'.1 + 1 ≤ b.1 ∧ b'.2 + 24 ≤ b.2) {K : Mm → Prop} {v0 : Nat} (kv0 : v0 % 64 = 1) 
    (h : X mLi_init 85 [(0, .ref v0)] [] (sr (nw M 12) v0 14 (some (64 * M.1.1.length + 12))) b' (QV K)) : X mLi_init 77 [(0, .ref v0)] [] M b (QV K) := by
  refine x_wf (fun hw => ?_)
  refine x_aload_n (pc := 77) dLi_init_77 rfl (q := 0) rfl ?_
  refine x_bipush (pc := 78) dLi_init_78 (v := 24) rfl ?_
  refine x_newaB (pc := 80) dLi_init_80 ak_12 (Or.inl ⟨rfl, rfl⟩) (by decide) (by decide) (by decide) ac_int (b' := b') (by have := hb; (try dsimp only); omega) ?_
  refine x_putR (pc := 82) dLi_init_82 kv0 flLi_42 (Or.inr ⟨rfl, rfl, rfl⟩) (Or.inr ⟨_, rfl⟩) (by first | exact (nwk M.1.1.length 12 (by decide)) | (rw [(nwk M.1.1.length 12 (by decide))]; rfl)) (by decide) ?_
  exact h

theorem vLi_init_85 {M : Mm} {b b' : Nat × Nat} (hb : b'.1 + 1 ≤ b.1 ∧ b'.2 + 24 ≤ b.2) {K : Mm → Prop} {v0 : Nat} (kv0 : v0 % 64 = 1) 
    (h : X mLi_init 93 [(0, .ref v0)] [] (sr (nw M 12) v0 15 (some (64 * M.1.1.length + 12))) b' (QV K)) : X mLi_init 85 [(0, .ref v0)] [] M b (QV K) := by
  refine x_wf (fun hw => ?_)
  refine x_aload_n (pc := 85) dLi_init_85 rfl (q := 0) rfl ?_
  refine x_bipush (pc := 86) dLi_init_86 (v := 24) rfl ?_
  refine x_newaB (pc := 88) dLi_init_88 ak_12 (Or.inl ⟨rfl, rfl⟩) (by decide) (by decide) (by decide) ac_int (b' := b') (by have := hb; (try dsimp only); omega) ?_
  refine x_putR (pc := 90) dLi_init_90 kv0 flLi_45 (Or.inr ⟨rfl, rfl, rfl⟩) (Or.inr ⟨_, rfl⟩) (by first | exact (nwk M.1.1.length 12 (by decide)) | (rw [(nwk M.1.1.length 12 (by decide))]; rfl)) (by decide) ?_
  exact h

theorem vLi_init_93 {M : Mm} {b : Nat × Nat} {K : Mm → Prop} {v0 : Nat}  
    (h : X mLi_init 95 [(0, .ref v0), (1, .int 0)] [] M b (QV K)) : X mLi_init 93 [(0, .ref v0)] [] M b (QV K) := by
  refine x_wf (fun hw => ?_)
  refine x_iconst (pc := 93) dLi_init_93 (v := 0) rfl ?_
  refine x_istore_n (pc := 94) dLi_init_94 rfl (by decide) (L' := [(1, .int 0), (0, .ref v0)]) rfl ?_
  exact x_loc [1, 0] rfl h

theorem vLi_init_95 {M : Mm} {b b' : Nat × Nat} (hb : b'.1 + 1 ≤ b.1 ∧ b'.2 + 11 ≤ b.2) {K : Mm → Prop} {v0 : Nat} {v1 : Int32} {r1 : Nat} (kv0 : v0 % 64 = 1) (e1 : gr M v0 0 = some r1)
    (h : (24 ≤ v1 → (CV mLi_clear [.ref v0] M (fun N => X mLi_init 124 [(0, .ref v0)] [] N b (QV K)))) ∧ (¬ 24 ≤ v1 → (CV mWo_init [.ref (64 * M.1.1.length + 9)] (nw M 9) (fun N => X mLi_init 113 [(0, .ref v0), (1, .int v1)] [.ref (64 * M.1.1.length + 9), .int v1, .ref r1] N b' (QV K))))) : X mLi_init 95 [(0, .ref v0), (1, .int v1)] [] M b (QV K) := by
  refine x_wf (fun hw => ?_)
  refine x_iload_n (pc := 95) dLi_init_95 rfl (q := 1) rfl ?_
  refine x_bipush (pc := 96) dLi_init_96 (v := 24) rfl ?_
  obtain ⟨g1_0, g1_1⟩ := h
  refine x_icmp_ge (pc := 98) dLi_init_98 (t := 120) rfl (fun q1 => ?_) (fun q1 => ?_)
  · refine x_aload_n (pc := 120) dLi_init_120 rfl (q := 0) rfl ?_
    have h := g1_0 q1
    exact x_invV (pc := 121) dLi_init_121 (c := 1) (S := []) (As := []) mlLi_49 hLi_clear rfl (by decide) rfl kv0 ⟨by decide, by decide⟩ ⟨Nat.zero_le _, Nat.zero_le _⟩ rfl (Nat.le_of_ble_eq_true rfl) (aftV (b' := b) ⟨Nat.le_refl _, Nat.le_refl _⟩ (fun N h => x_loc [0] rfl h) h)
  · refine x_aload_n (pc := 101) dLi_init_101 rfl (q := 0) rfl ?_
    refine x_getR (pc := 102) dLi_init_102 kv0 flLi_11 rfl e1 ?_
    refine x_iload_n (pc := 105) dLi_init_105 rfl (q := 1) rfl ?_
    have h := g1_1 q1
    refine x_newB (pc := 106) dLi_init_106 (c := 9) (by decide) clLi_9 (b' := b') (by have := hb; simp only [show kN 9 = 11 from rfl]; omega) ?_
    refine x_dup (pc := 109) dLi_init_109 rfl ?_
    exact x_invI (pc := 110) dLi_init_110 (S := [.ref (64 * M.1.1.length + 9), .int v1, .ref r1]) (As := []) mlLi_48 hWo_init rfl (by rw [(nwk M.1.1.length 9 (by decide))]; decide) ⟨by decide, by decide⟩ ⟨Nat.zero_le _, Nat.zero_le _⟩ rfl (Nat.le_of_ble_eq_true rfl) (aftV (b' := b') ⟨Nat.le_refl _, Nat.le_refl _⟩ (fun N h => h) h)

theorem vLi_init_113 {M : Mm} {b : Nat × Nat} {K : Mm → Prop} {v0 : Nat} {v1 : Int32} {w0 : Nat} {w1 : Int32} {w2 : Nat} (kw2 : w2 % 64 = 18) (kw0 : w0 % 64 = 9) 
    (h : vp_in w1 24 ∧ (X mLi_init 95 [(0, .ref v0), (1, .int (v1 + 1))] [] (sr M w2 (w1).toNatClampNeg (some w0)) b (QV K))) : X mLi_init 113 [(0, .ref v0), (1, .int v1)] [.ref w0, .int w1, .ref w2] M b (QV K) := by
  refine x_wf (fun hw => ?_)
  obtain ⟨s501, h⟩ := h
  refine x_astR (pc := 113) (Or.inl ⟨rfl, rfl⟩) dLi_init_113 kw2 ak_18 kw0 rfl s501 ?_
  refine x_iinc (pc := 114) dLi_init_114 (q := 1) rfl (v := v1 + 1) rfl (by decide) (L' := [(1, .int (v1 + 1)), (0, .ref v0)]) rfl ?_
  refine x_goto (pc := 117) dLi_init_117 (t := 95) rfl ?_
  exact x_loc [1, 0] rfl h

theorem vLi_init_124 {M : Mm} {b : Nat × Nat} {K : Mm → Prop} {v0 : Nat} (kv0 : v0 % 64 = 1) 
    (h : CV mLi_settle [.ref v0] M (fun N => X mLi_init 128 [] [] N b (QV K))) : X mLi_init 124 [(0, .ref v0)] [] M b (QV K) := by
  refine x_wf (fun hw => ?_)
  refine x_aload_n (pc := 124) dLi_init_124 rfl (q := 0) rfl ?_
  exact x_invV (pc := 125) dLi_init_125 (c := 1) (S := []) (As := []) mlLi_52 hLi_settle rfl (by decide) rfl kv0 ⟨by decide, by decide⟩ ⟨Nat.zero_le _, Nat.zero_le _⟩ rfl (Nat.le_of_ble_eq_true rfl) (aftV (b' := b) ⟨Nat.le_refl _, Nat.le_refl _⟩ (fun N h => x_loc [] rfl h) h)

theorem vLi_init_128 {M : Mm} {b : Nat × Nat} {K : Mm → Prop}   
    (h : K M) : X mLi_init 128 [] [] M b (QV K) := by
  refine x_wf (fun hw => ?_)
  exact x_retQV (pc := 128) dLi_init_128 rfl h

theorem dLi_clear_0 : decode (mB mLi_clear) 0 = .ok (.aload_n 0, 1) := op42 (by decide +kernel)
theorem dLi_clear_1 : decode (mB mLi_clear) 1 = .ok (.iconst 0, 1) := op3 (by decide +kernel)
theorem dLi_clear_2 : decode (mB mLi_clear) 2 = .ok (.putfield 55, 3) := op181 0 55 (by decide +kernel)
theorem dLi_clear_5 : decode (mB mLi_clear) 5 = .ok (.aload_n 0, 1) := op42 (by decide +kernel)
theorem dLi_clear_6 : decode (mB mLi_clear) 6 = .ok (.getfield 17, 3) := op180 0 17 (by decide +kernel)
theorem dLi_clear_9 : decode (mB mLi_clear) 9 = .ok (.iconst 2, 1) := op5 (by decide +kernel)
theorem dLi_clear_10 : decode (mB mLi_clear) 10 = .ok (.invokestatic 59, 3) := op184 0 59 (by decide +kernel)
theorem dLi_clear_13 : decode (mB mLi_clear) 13 = .ok (.return_, 1) := op177 (by decide +kernel)

theorem vLi_clear_0 {M : Mm} {b : Nat × Nat} {K : Mm → Prop} {v0 : Nat} {r1 : Nat} (kv0 : v0 % 64 = 1) (e1 : gr M v0 2 = some r1)
    (h : CV mJr_fill [.ref r1, .int 2] (si M v0 1 0) (fun N => X mLi_clear 13 [] [] N b (QV K))) : X mLi_clear 0 [(0, .ref v0)] [] M b (QV K) := by
  refine x_wf (fun hw => ?_)
  refine x_aload_n (pc := 0) dLi_clear_0 rfl (q := 0) rfl ?_
  refine x_iconst (pc := 1) dLi_clear_1 (v := 0) rfl ?_
  refine x_putI (pc := 2) dLi_clear_2 kv0 flLi_55 rfl rfl ?_
  refine x_aload_n (pc := 5) dLi_clear_5 rfl (q := 0) rfl ?_
  refine x_getR (pc := 6) dLi_clear_6 kv0 flLi_17 rfl e1 ?_
  refine x_iconst (pc := 9) dLi_clear_9 (v := 2) rfl ?_
  exact x_invS (pc := 10) dLi_clear_10 (S := []) (As := [.ref r1, .int 2]) mlLi_59 hJr_fill rfl ⟨by decide, by decide⟩ ⟨Nat.zero_le _, Nat.zero_le _⟩ rfl (Nat.le_of_ble_eq_true rfl) (aftV (b' := b) ⟨Nat.le_refl _, Nat.le_refl _⟩ (fun N h => x_loc [] rfl h) h)

theorem vLi_clear_13 {M : Mm} {b : Nat × Nat} {K : Mm → Prop}   
    (h : K M) : X mLi_clear 13 [] [] M b (QV K) := by
  refine x_wf (fun hw => ?_)
  exact x_retQV (pc := 13) dLi_clear_13 rfl h

theorem dLi_settle_0 : decode (mB mLi_settle) 0 = .ok (.aload_n 0, 1) := op42 (by decide +kernel)
theorem dLi_settle_1 : decode (mB mLi_settle) 1 = .ok (.invokevirtual 65, 3) := op182 0 65 (by decide +kernel)
theorem dLi_settle_4 : decode (mB mLi_settle) 4 = .ok (.aload_n 0, 1) := op42 (by decide +kernel)
theorem dLi_settle_5 : decode (mB mLi_settle) 5 = .ok (.invokevirtual 68, 3) := op182 0 68 (by decide +kernel)
theorem dLi_settle_8 : decode (mB mLi_settle) 8 = .ok (.aload_n 0, 1) := op42 (by decide +kernel)
theorem dLi_settle_9 : decode (mB mLi_settle) 9 = .ok (.invokevirtual 71, 3) := op182 0 71 (by decide +kernel)
theorem dLi_settle_12 : decode (mB mLi_settle) 12 = .ok (.aload_n 0, 1) := op42 (by decide +kernel)
theorem dLi_settle_13 : decode (mB mLi_settle) 13 = .ok (.invokevirtual 74, 3) := op182 0 74 (by decide +kernel)
theorem dLi_settle_16 : decode (mB mLi_settle) 16 = .ok (.aload_n 0, 1) := op42 (by decide +kernel)
theorem dLi_settle_17 : decode (mB mLi_settle) 17 = .ok (.invokevirtual 77, 3) := op182 0 77 (by decide +kernel)
theorem dLi_settle_20 : decode (mB mLi_settle) 20 = .ok (.aload_n 0, 1) := op42 (by decide +kernel)
theorem dLi_settle_21 : decode (mB mLi_settle) 21 = .ok (.invokevirtual 80, 3) := op182 0 80 (by decide +kernel)
theorem dLi_settle_24 : decode (mB mLi_settle) 24 = .ok (.return_, 1) := op177 (by decide +kernel)

theorem vLi_settle_0 {M : Mm} {b : Nat × Nat} {K : Mm → Prop} {v0 : Nat} (kv0 : v0 % 64 = 1) 
    (h : CV mLi_sortWords [.ref v0] M (fun N => X mLi_settle 4 [(0, .ref v0)] [] N b (QV K))) : X mLi_settle 0 [(0, .ref v0)] [] M b (QV K) := by
  refine x_wf (fun hw => ?_)
  refine x_aload_n (pc := 0) dLi_settle_0 rfl (q := 0) rfl ?_
  exact x_invV (pc := 1) dLi_settle_1 (c := 1) (S := []) (As := []) mlLi_65 hLi_sortWords rfl (by decide) rfl kv0 ⟨by decide, by decide⟩ ⟨Nat.zero_le _, Nat.zero_le _⟩ rfl (Nat.le_of_ble_eq_true rfl) (aftV (b' := b) ⟨Nat.le_refl _, Nat.le_refl _⟩ (fun N h => h) h)

theorem vLi_settle_4 {M : Mm} {b : Nat × Nat} {K : Mm → Prop} {v0 : Nat} (kv0 : v0 % 64 = 1) 
    (h : CV mLi_findFollowed [.ref v0] M (fun N => X mLi_settle 8 [(0, .ref v0)] [] N b (QV K))) : X mLi_settle 4 [(0, .ref v0)] [] M b (QV K) := by
  refine x_wf (fun hw => ?_)
  refine x_aload_n (pc := 4) dLi_settle_4 rfl (q := 0) rfl ?_
  exact x_invV (pc := 5) dLi_settle_5 (c := 1) (S := []) (As := []) mlLi_68 hLi_findFollowed rfl (by decide) rfl kv0 ⟨by decide, by decide⟩ ⟨Nat.zero_le _, Nat.zero_le _⟩ rfl (Nat.le_of_ble_eq_true rfl) (aftV (b' := b) ⟨Nat.le_refl _, Nat.le_refl _⟩ (fun N h => h) h)

theorem vLi_settle_8 {M : Mm} {b : Nat × Nat} {K : Mm → Prop} {v0 : Nat} (kv0 : v0 % 64 = 1) 
    (h : CV mLi_findRings [.ref v0] M (fun N => X mLi_settle 12 [(0, .ref v0)] [] N b (QV K))) : X mLi_settle 8 [(0, .ref v0)] [] M b (QV K) := by
  refine x_wf (fun hw => ?_)
  refine x_aload_n (pc := 8) dLi_settle_8 rfl (q := 0) rfl ?_
  exact x_invV (pc := 9) dLi_settle_9 (c := 1) (S := []) (As := []) mlLi_71 hLi_findRings rfl (by decide) rfl kv0 ⟨by decide, by decide⟩ ⟨Nat.zero_le _, Nat.zero_le _⟩ rfl (Nat.le_of_ble_eq_true rfl) (aftV (b' := b) ⟨Nat.le_refl _, Nat.le_refl _⟩ (fun N h => h) h)

theorem vLi_settle_12 {M : Mm} {b : Nat × Nat} {K : Mm → Prop} {v0 : Nat} (kv0 : v0 % 64 = 1) 
    (h : CV mLi_speakInOrder [.ref v0] M (fun N => X mLi_settle 16 [(0, .ref v0)] [] N b (QV K))) : X mLi_settle 12 [(0, .ref v0)] [] M b (QV K) := by
  refine x_wf (fun hw => ?_)
  refine x_aload_n (pc := 12) dLi_settle_12 rfl (q := 0) rfl ?_
  exact x_invV (pc := 13) dLi_settle_13 (c := 1) (S := []) (As := []) mlLi_74 hLi_speakInOrder rfl (by decide) rfl kv0 ⟨by decide, by decide⟩ ⟨Nat.zero_le _, Nat.zero_le _⟩ rfl (Nat.le_of_ble_eq_true rfl) (aftV (b' := b) ⟨Nat.le_refl _, Nat.le_refl _⟩ (fun N h => h) h)

theorem vLi_settle_16 {M : Mm} {b : Nat × Nat} {K : Mm → Prop} {v0 : Nat} (kv0 : v0 % 64 = 1) 
    (h : CV mLi_weighAll [.ref v0] M (fun N => X mLi_settle 20 [(0, .ref v0)] [] N b (QV K))) : X mLi_settle 16 [(0, .ref v0)] [] M b (QV K) := by
  refine x_wf (fun hw => ?_)
  refine x_aload_n (pc := 16) dLi_settle_16 rfl (q := 0) rfl ?_
  exact x_invV (pc := 17) dLi_settle_17 (c := 1) (S := []) (As := []) mlLi_77 hLi_weighAll rfl (by decide) rfl kv0 ⟨by decide, by decide⟩ ⟨Nat.zero_le _, Nat.zero_le _⟩ rfl (Nat.le_of_ble_eq_true rfl) (aftV (b' := b) ⟨Nat.le_refl _, Nat.le_refl _⟩ (fun N h => h) h)

theorem vLi_settle_20 {M : Mm} {b : Nat × Nat} {K : Mm → Prop} {v0 : Nat} (kv0 : v0 % 64 = 1) 
    (h : CV mLi_askLaws [.ref v0] M (fun N => X mLi_settle 24 [] [] N b (QV K))) : X mLi_settle 20 [(0, .ref v0)] [] M b (QV K) := by
  refine x_wf (fun hw => ?_)
  refine x_aload_n (pc := 20) dLi_settle_20 rfl (q := 0) rfl ?_
  exact x_invV (pc := 21) dLi_settle_21 (c := 1) (S := []) (As := []) mlLi_80 hLi_askLaws rfl (by decide) rfl kv0 ⟨by decide, by decide⟩ ⟨Nat.zero_le _, Nat.zero_le _⟩ rfl (Nat.le_of_ble_eq_true rfl) (aftV (b' := b) ⟨Nat.le_refl _, Nat.le_refl _⟩ (fun N h => x_loc [] rfl h) h)

theorem vLi_settle_24 {M : Mm} {b : Nat × Nat} {K : Mm → Prop}   
    (h : K M) : X mLi_settle 24 [] [] M b (QV K) := by
  refine x_wf (fun hw => ?_)
  exact x_retQV (pc := 24) dLi_settle_24 rfl h

theorem dLi_sortWords_0 : decode (mB mLi_sortWords) 0 = .ok (.aload_n 0, 1) := op42 (by decide +kernel)
theorem dLi_sortWords_1 : decode (mB mLi_sortWords) 1 = .ok (.getfield 33, 3) := op180 0 33 (by decide +kernel)
theorem dLi_sortWords_4 : decode (mB mLi_sortWords) 4 = .ok (.iconst 0, 1) := op3 (by decide +kernel)
theorem dLi_sortWords_5 : decode (mB mLi_sortWords) 5 = .ok (.invokestatic 59, 3) := op184 0 59 (by decide +kernel)
theorem dLi_sortWords_8 : decode (mB mLi_sortWords) 8 = .ok (.aload_n 0, 1) := op42 (by decide +kernel)
theorem dLi_sortWords_9 : decode (mB mLi_sortWords) 9 = .ok (.getfield 36, 3) := op180 0 36 (by decide +kernel)
theorem dLi_sortWords_12 : decode (mB mLi_sortWords) 12 = .ok (.iconst 0, 1) := op3 (by decide +kernel)
theorem dLi_sortWords_13 : decode (mB mLi_sortWords) 13 = .ok (.invokestatic 59, 3) := op184 0 59 (by decide +kernel)
theorem dLi_sortWords_16 : decode (mB mLi_sortWords) 16 = .ok (.aload_n 0, 1) := op42 (by decide +kernel)
theorem dLi_sortWords_17 : decode (mB mLi_sortWords) 17 = .ok (.iconst 0, 1) := op3 (by decide +kernel)
theorem dLi_sortWords_18 : decode (mB mLi_sortWords) 18 = .ok (.putfield 83, 3) := op181 0 83 (by decide +kernel)
theorem dLi_sortWords_21 : decode (mB mLi_sortWords) 21 = .ok (.aload_n 0, 1) := op42 (by decide +kernel)
theorem dLi_sortWords_22 : decode (mB mLi_sortWords) 22 = .ok (.iconst 0, 1) := op3 (by decide +kernel)
theorem dLi_sortWords_23 : decode (mB mLi_sortWords) 23 = .ok (.putfield 86, 3) := op181 0 86 (by decide +kernel)
theorem dLi_sortWords_26 : decode (mB mLi_sortWords) 26 = .ok (.iconst 0, 1) := op3 (by decide +kernel)
theorem dLi_sortWords_27 : decode (mB mLi_sortWords) 27 = .ok (.istore_n 1, 1) := op60 (by decide +kernel)
theorem dLi_sortWords_28 : decode (mB mLi_sortWords) 28 = .ok (.iload_n 1, 1) := op27 (by decide +kernel)
theorem dLi_sortWords_29 : decode (mB mLi_sortWords) 29 = .ok (.aload_n 0, 1) := op42 (by decide +kernel)
theorem dLi_sortWords_30 : decode (mB mLi_sortWords) 30 = .ok (.getfield 55, 3) := op180 0 55 (by decide +kernel)
theorem dLi_sortWords_33 : decode (mB mLi_sortWords) 33 = .ok (.if_icmp .ge 101, 3) := op162 0 101 (by decide +kernel)
theorem dLi_sortWords_36 : decode (mB mLi_sortWords) 36 = .ok (.aload_n 0, 1) := op42 (by decide +kernel)
theorem dLi_sortWords_37 : decode (mB mLi_sortWords) 37 = .ok (.getfield 11, 3) := op180 0 11 (by decide +kernel)
theorem dLi_sortWords_40 : decode (mB mLi_sortWords) 40 = .ok (.iload_n 1, 1) := op27 (by decide +kernel)
theorem dLi_sortWords_41 : decode (mB mLi_sortWords) 41 = .ok (.aaload, 1) := op50 (by decide +kernel)
theorem dLi_sortWords_42 : decode (mB mLi_sortWords) 42 = .ok (.astore_n 2, 1) := op77 (by decide +kernel)
theorem dLi_sortWords_43 : decode (mB mLi_sortWords) 43 = .ok (.aload_n 0, 1) := op42 (by decide +kernel)
theorem dLi_sortWords_44 : decode (mB mLi_sortWords) 44 = .ok (.getfield 36, 3) := op180 0 36 (by decide +kernel)
theorem dLi_sortWords_47 : decode (mB mLi_sortWords) 47 = .ok (.aload_n 2, 1) := op44 (by decide +kernel)
theorem dLi_sortWords_48 : decode (mB mLi_sortWords) 48 = .ok (.getfield 89, 3) := op180 0 89 (by decide +kernel)
theorem dLi_sortWords_51 : decode (mB mLi_sortWords) 51 = .ok (.dup2, 1) := op92 (by decide +kernel)
theorem dLi_sortWords_52 : decode (mB mLi_sortWords) 52 = .ok (.iaload, 1) := op46 (by decide +kernel)
theorem dLi_sortWords_53 : decode (mB mLi_sortWords) 53 = .ok (.iconst 1, 1) := op4 (by decide +kernel)
theorem dLi_sortWords_54 : decode (mB mLi_sortWords) 54 = .ok (.iload_n 1, 1) := op27 (by decide +kernel)
theorem dLi_sortWords_55 : decode (mB mLi_sortWords) 55 = .ok (.ishl, 1) := op120 (by decide +kernel)
theorem dLi_sortWords_56 : decode (mB mLi_sortWords) 56 = .ok (.ior, 1) := op128 (by decide +kernel)
theorem dLi_sortWords_57 : decode (mB mLi_sortWords) 57 = .ok (.iastore, 1) := op79 (by decide +kernel)
theorem dLi_sortWords_58 : decode (mB mLi_sortWords) 58 = .ok (.aload_n 2, 1) := op44 (by decide +kernel)
theorem dLi_sortWords_59 : decode (mB mLi_sortWords) 59 = .ok (.getfield 92, 3) := op180 0 92 (by decide +kernel)
theorem dLi_sortWords_62 : decode (mB mLi_sortWords) 62 = .ok (.ifCond .lt 18, 3) := op155 0 18 (by decide +kernel)
theorem dLi_sortWords_65 : decode (mB mLi_sortWords) 65 = .ok (.aload_n 0, 1) := op42 (by decide +kernel)
theorem dLi_sortWords_66 : decode (mB mLi_sortWords) 66 = .ok (.getfield 33, 3) := op180 0 33 (by decide +kernel)
theorem dLi_sortWords_69 : decode (mB mLi_sortWords) 69 = .ok (.aload_n 2, 1) := op44 (by decide +kernel)
theorem dLi_sortWords_70 : decode (mB mLi_sortWords) 70 = .ok (.getfield 92, 3) := op180 0 92 (by decide +kernel)
theorem dLi_sortWords_73 : decode (mB mLi_sortWords) 73 = .ok (.dup2, 1) := op92 (by decide +kernel)
theorem dLi_sortWords_74 : decode (mB mLi_sortWords) 74 = .ok (.iaload, 1) := op46 (by decide +kernel)
theorem dLi_sortWords_75 : decode (mB mLi_sortWords) 75 = .ok (.iconst 1, 1) := op4 (by decide +kernel)
theorem dLi_sortWords_76 : decode (mB mLi_sortWords) 76 = .ok (.iload_n 1, 1) := op27 (by decide +kernel)
theorem dLi_sortWords_77 : decode (mB mLi_sortWords) 77 = .ok (.ishl, 1) := op120 (by decide +kernel)
theorem dLi_sortWords_78 : decode (mB mLi_sortWords) 78 = .ok (.ior, 1) := op128 (by decide +kernel)
theorem dLi_sortWords_79 : decode (mB mLi_sortWords) 79 = .ok (.iastore, 1) := op79 (by decide +kernel)
theorem dLi_sortWords_80 : decode (mB mLi_sortWords) 80 = .ok (.aload_n 0, 1) := op42 (by decide +kernel)
theorem dLi_sortWords_81 : decode (mB mLi_sortWords) 81 = .ok (.dup, 1) := op89 (by decide +kernel)
theorem dLi_sortWords_82 : decode (mB mLi_sortWords) 82 = .ok (.getfield 83, 3) := op180 0 83 (by decide +kernel)
theorem dLi_sortWords_85 : decode (mB mLi_sortWords) 85 = .ok (.aload_n 2, 1) := op44 (by decide +kernel)
theorem dLi_sortWords_86 : decode (mB mLi_sortWords) 86 = .ok (.getfield 95, 3) := op180 0 95 (by decide +kernel)
theorem dLi_sortWords_89 : decode (mB mLi_sortWords) 89 = .ok (.iconst 5, 1) := op8 (by decide +kernel)
theorem dLi_sortWords_90 : decode (mB mLi_sortWords) 90 = .ok (.if_icmp .ne 9, 3) := op160 0 9 (by decide +kernel)
theorem dLi_sortWords_93 : decode (mB mLi_sortWords) 93 = .ok (.iconst 1, 1) := op4 (by decide +kernel)
theorem dLi_sortWords_94 : decode (mB mLi_sortWords) 94 = .ok (.iload_n 1, 1) := op27 (by decide +kernel)
theorem dLi_sortWords_95 : decode (mB mLi_sortWords) 95 = .ok (.ishl, 1) := op120 (by decide +kernel)
theorem dLi_sortWords_96 : decode (mB mLi_sortWords) 96 = .ok (.goto 4, 3) := op167 0 4 (by decide +kernel)
theorem dLi_sortWords_99 : decode (mB mLi_sortWords) 99 = .ok (.iconst 0, 1) := op3 (by decide +kernel)
theorem dLi_sortWords_100 : decode (mB mLi_sortWords) 100 = .ok (.ior, 1) := op128 (by decide +kernel)
theorem dLi_sortWords_101 : decode (mB mLi_sortWords) 101 = .ok (.putfield 83, 3) := op181 0 83 (by decide +kernel)
theorem dLi_sortWords_104 : decode (mB mLi_sortWords) 104 = .ok (.aload_n 0, 1) := op42 (by decide +kernel)
theorem dLi_sortWords_105 : decode (mB mLi_sortWords) 105 = .ok (.dup, 1) := op89 (by decide +kernel)
theorem dLi_sortWords_106 : decode (mB mLi_sortWords) 106 = .ok (.getfield 86, 3) := op180 0 86 (by decide +kernel)
theorem dLi_sortWords_109 : decode (mB mLi_sortWords) 109 = .ok (.aload_n 2, 1) := op44 (by decide +kernel)
theorem dLi_sortWords_110 : decode (mB mLi_sortWords) 110 = .ok (.getfield 95, 3) := op180 0 95 (by decide +kernel)
theorem dLi_sortWords_113 : decode (mB mLi_sortWords) 113 = .ok (.iconst 3, 1) := op6 (by decide +kernel)
theorem dLi_sortWords_114 : decode (mB mLi_sortWords) 114 = .ok (.if_icmp .ne 9, 3) := op160 0 9 (by decide +kernel)
theorem dLi_sortWords_117 : decode (mB mLi_sortWords) 117 = .ok (.iconst 1, 1) := op4 (by decide +kernel)
theorem dLi_sortWords_118 : decode (mB mLi_sortWords) 118 = .ok (.iload_n 1, 1) := op27 (by decide +kernel)
theorem dLi_sortWords_119 : decode (mB mLi_sortWords) 119 = .ok (.ishl, 1) := op120 (by decide +kernel)
theorem dLi_sortWords_120 : decode (mB mLi_sortWords) 120 = .ok (.goto 4, 3) := op167 0 4 (by decide +kernel)
theorem dLi_sortWords_123 : decode (mB mLi_sortWords) 123 = .ok (.iconst 0, 1) := op3 (by decide +kernel)
theorem dLi_sortWords_124 : decode (mB mLi_sortWords) 124 = .ok (.ior, 1) := op128 (by decide +kernel)
theorem dLi_sortWords_125 : decode (mB mLi_sortWords) 125 = .ok (.putfield 86, 3) := op181 0 86 (by decide +kernel)
theorem dLi_sortWords_128 : decode (mB mLi_sortWords) 128 = .ok (.iinc 1 1, 3) := op132 1 1 (by decide +kernel)
theorem dLi_sortWords_131 : decode (mB mLi_sortWords) 131 = .ok (.goto (-103), 3) := op167 255 153 (by decide +kernel)
theorem dLi_sortWords_134 : decode (mB mLi_sortWords) 134 = .ok (.return_, 1) := op177 (by decide +kernel)

theorem vLi_sortWords_0 {M : Mm} {b : Nat × Nat} {K : Mm → Prop} {v0 : Nat} {r1 : Nat} (kv0 : v0 % 64 = 1) (e1 : gr M v0 7 = some r1)
    (h : CV mJr_fill [.ref r1, .int 0] M (fun N => X mLi_sortWords 8 [(0, .ref v0)] [] N b (QV K))) : X mLi_sortWords 0 [(0, .ref v0)] [] M b (QV K) := by
  refine x_wf (fun hw => ?_)
  refine x_aload_n (pc := 0) dLi_sortWords_0 rfl (q := 0) rfl ?_
  refine x_getR (pc := 1) dLi_sortWords_1 kv0 flLi_33 rfl e1 ?_
  refine x_iconst (pc := 4) dLi_sortWords_4 (v := 0) rfl ?_
  exact x_invS (pc := 5) dLi_sortWords_5 (S := []) (As := [.ref r1, .int 0]) mlLi_59 hJr_fill rfl ⟨by decide, by decide⟩ ⟨Nat.zero_le _, Nat.zero_le _⟩ rfl (Nat.le_of_ble_eq_true rfl) (aftV (b' := b) ⟨Nat.le_refl _, Nat.le_refl _⟩ (fun N h => h) h)

theorem vLi_sortWords_8 {M : Mm} {b : Nat × Nat} {K : Mm → Prop} {v0 : Nat} {r1 : Nat} (kv0 : v0 % 64 = 1) (e1 : gr M v0 8 = some r1)
    (h : CV mJr_fill [.ref r1, .int 0] M (fun N => X mLi_sortWords 16 [(0, .ref v0)] [] N b (QV K))) : X mLi_sortWords 8 [(0, .ref v0)] [] M b (QV K) := by
  refine x_wf (fun hw => ?_)
  refine x_aload_n (pc := 8) dLi_sortWords_8 rfl (q := 0) rfl ?_
  refine x_getR (pc := 9) dLi_sortWords_9 kv0 flLi_36 rfl e1 ?_
  refine x_iconst (pc := 12) dLi_sortWords_12 (v := 0) rfl ?_
  exact x_invS (pc := 13) dLi_sortWords_13 (S := []) (As := [.ref r1, .int 0]) mlLi_59 hJr_fill rfl ⟨by decide, by decide⟩ ⟨Nat.zero_le _, Nat.zero_le _⟩ rfl (Nat.le_of_ble_eq_true rfl) (aftV (b' := b) ⟨Nat.le_refl _, Nat.le_refl _⟩ (fun N h => h) h)

theorem vLi_sortWords_16 {M : Mm} {b : Nat × Nat} {K : Mm → Prop} {v0 : Nat} (kv0 : v0 % 64 = 1) 
    (h : X mLi_sortWords 28 [(0, .ref v0), (1, .int 0)] [] (si (si M v0 10 0) v0 11 0) b (QV K)) : X mLi_sortWords 16 [(0, .ref v0)] [] M b (QV K) := by
  refine x_wf (fun hw => ?_)
  refine x_aload_n (pc := 16) dLi_sortWords_16 rfl (q := 0) rfl ?_
  refine x_iconst (pc := 17) dLi_sortWords_17 (v := 0) rfl ?_
  refine x_putI (pc := 18) dLi_sortWords_18 kv0 flLi_83 rfl rfl ?_
  refine x_aload_n (pc := 21) dLi_sortWords_21 rfl (q := 0) rfl ?_
  refine x_iconst (pc := 22) dLi_sortWords_22 (v := 0) rfl ?_
  refine x_putI (pc := 23) dLi_sortWords_23 kv0 flLi_86 rfl rfl ?_
  refine x_iconst (pc := 26) dLi_sortWords_26 (v := 0) rfl ?_
  refine x_istore_n (pc := 27) dLi_sortWords_27 rfl (by decide) (L' := [(1, .int 0), (0, .ref v0)]) rfl ?_
  exact x_loc [1, 0] rfl h

theorem vLi_sortWords_28 {M : Mm} {b : Nat × Nat} {K : Mm → Prop} {v0 : Nat} {v1 : Int32} {r1 : Nat} {r3 : Nat} {r4 : Nat} (kv0 : v0 % 64 = 1) (e1 : gr M v0 0 = some r1) (e3 : gr M v0 8 = some r3) (e4 : gr M v0 7 = some r4)
    (h : ((gi M v0 1) ≤ v1 → (K M)) ∧ (¬ (gi M v0 1) ≤ v1 → (vp_in v1 24 ∧ (∃ r2 : Nat, gr M r1 (v1).toNatClampNeg = some r2 ∧ (vp_in (gi M r2 2) 8 ∧ (vp_in (gi M r2 2) 8 ∧ ((¬ (gi (si M r3 (gi M r2 2).toNatClampNeg ((gi M r3 (gi M r2 2).toNatClampNeg) ||| ((1 : Int32) <<< (v1 &&& 31)))) r2 1) < 0 → vp_in (gi (si M r3 (gi M r2 2).toNatClampNeg ((gi M r3 (gi M r2 2).toNatClampNeg) ||| ((1 : Int32) <<< (v1 &&& 31)))) r2 1) 8) ∧ ((gi (si M r3 (gi M r2 2).toNatClampNeg ((gi M r3 (gi M r2 2).toNatClampNeg) ||| ((1 : Int32) <<< (v1 &&& 31)))) r2 1) < 0 → (X mLi_sortWords 80 [(0, .ref v0), (1, .int v1), (2, .ref r2)] [] (si M r3 (gi M r2 2).toNatClampNeg ((gi M r3 (gi M r2 2).toNatClampNeg) ||| ((1 : Int32) <<< (v1 &&& 31)))) b (QV K))) ∧ (¬ (gi (si M r3 (gi M r2 2).toNatClampNeg ((gi M r3 (gi M r2 2).toNatClampNeg) ||| ((1 : Int32) <<< (v1 &&& 31)))) r2 1) < 0 → (vp_in (gi (si M r3 (gi M r2 2).toNatClampNeg ((gi M r3 (gi M r2 2).toNatClampNeg) ||| ((1 : Int32) <<< (v1 &&& 31)))) r2 1) 8 ∧ (X mLi_sortWords 80 [(0, .ref v0), (1, .int v1), (2, .ref r2)] [] (si (si M r3 (gi M r2 2).toNatClampNeg ((gi M r3 (gi M r2 2).toNatClampNeg) ||| ((1 : Int32) <<< (v1 &&& 31)))) r4 (gi (si M r3 (gi M r2 2).toNatClampNeg ((gi M r3 (gi M r2 2).toNatClampNeg) ||| ((1 : Int32) <<< (v1 &&& 31)))) r2 1).toNatClampNeg ((gi (si M r3 (gi M r2 2).toNatClampNeg ((gi M r3 (gi M r2 2).toNatClampNeg) ||| ((1 : Int32) <<< (v1 &&& 31)))) r4 (gi (si M r3 (gi M r2 2).toNatClampNeg ((gi M r3 (gi M r2 2).toNatClampNeg) ||| ((1 : Int32) <<< (v1 &&& 31)))) r2 1).toNatClampNeg) ||| ((1 : Int32) <<< (v1 &&& 31)))) b (QV K))))))))))) : X mLi_sortWords 28 [(0, .ref v0), (1, .int v1)] [] M b (QV K) := by
  refine x_wf (fun hw => ?_)
  refine x_iload_n (pc := 28) dLi_sortWords_28 rfl (q := 1) rfl ?_
  refine x_aload_n (pc := 29) dLi_sortWords_29 rfl (q := 0) rfl ?_
  refine x_getI (pc := 30) dLi_sortWords_30 kv0 flLi_55 rfl ?_
  obtain ⟨g1_0, g1_1⟩ := h
  refine x_icmp_ge (pc := 33) dLi_sortWords_33 (t := 134) rfl (fun q1 => ?_) (fun q1 => ?_)
  · have h := g1_0 q1
    exact x_retQV (pc := 134) dLi_sortWords_134 rfl h
  · refine x_aload_n (pc := 36) dLi_sortWords_36 rfl (q := 0) rfl ?_
    refine x_getR (pc := 37) dLi_sortWords_37 kv0 flLi_11 rfl e1 ?_
    refine x_iload_n (pc := 40) dLi_sortWords_40 rfl (q := 1) rfl ?_
    have h := g1_1 q1
    obtain ⟨s501, h⟩ := h
    obtain ⟨r2, s502, h⟩ := h
    refine x_aldR (pc := 41) (Or.inl rfl) dLi_sortWords_41 (wfk hw e1 kv0) ak_18 s501 s502 ?_
    refine x_astore_n (pc := 42) dLi_sortWords_42 rfl (by decide) (L' := [(2, .ref r2), (0, .ref v0), (1, .int v1)]) rfl ?_
    refine x_aload_n (pc := 43) dLi_sortWords_43 rfl (q := 1) rfl ?_
    refine x_getR (pc := 44) dLi_sortWords_44 kv0 flLi_36 rfl e3 ?_
    refine x_aload_n (pc := 47) dLi_sortWords_47 rfl (q := 0) rfl ?_
    refine x_getI (pc := 48) dLi_sortWords_48 (wfk hw s502 (wfk hw e1 kv0)) flLi_89 rfl ?_
    refine x_dup2 (pc := 51) dLi_sortWords_51 rfl rfl ?_
    obtain ⟨s503, h⟩ := h
    refine x_aldIj (pc := 52) (j := (gi M r2 2).toNatClampNeg) (Or.inl ⟨rfl, rfl⟩) dLi_sortWords_52 (wfk hw e3 kv0) ak_13 rfl s503 ?_
    refine x_iconst (pc := 53) dLi_sortWords_53 (v := 1) rfl ?_
    refine x_iload_n (pc := 54) dLi_sortWords_54 rfl (q := 2) rfl ?_
    refine x_ishl (pc := 55) dLi_sortWords_55 ?_
    refine x_ior (pc := 56) dLi_sortWords_56 ?_
    obtain ⟨s504, h⟩ := h
    refine x_astIj (pc := 57) (j := (gi M r2 2).toNatClampNeg) (v := (gi M r3 (gi M r2 2).toNatClampNeg) ||| ((1 : Int32) <<< (v1 &&& 31))) (Or.inl ⟨rfl, rfl, rfl⟩) dLi_sortWords_57 (wfk hw e3 kv0) ak_13 rfl s504 ?_
    refine x_aload_n (pc := 58) dLi_sortWords_58 rfl (q := 0) rfl ?_
    refine x_getI (pc := 59) dLi_sortWords_59 (wfk hw s502 (wfk hw e1 kv0)) flLi_92 rfl ?_
    obtain ⟨s5, g2_0, g2_1⟩ := h
    refine x_if_lt (pc := 62) dLi_sortWords_62 (t := 80) rfl (fun q2 => ?_) (fun q2 => ?_)
    · have h := g2_0 q2
      exact x_loc [1, 2, 0] rfl h
    · refine x_aload_n (pc := 65) dLi_sortWords_65 rfl (q := 1) rfl ?_
      refine x_getR (pc := 66) dLi_sortWords_66 kv0 flLi_33 rfl e4 ?_
      refine x_aload_n (pc := 69) dLi_sortWords_69 rfl (q := 0) rfl ?_
      refine x_getI (pc := 70) dLi_sortWords_70 (wfk hw s502 (wfk hw e1 kv0)) flLi_92 rfl ?_
      refine x_dup2 (pc := 73) dLi_sortWords_73 rfl rfl ?_
      refine x_aldIj (pc := 74) (j := (gi (si M r3 (gi M r2 2).toNatClampNeg ((gi M r3 (gi M r2 2).toNatClampNeg) ||| ((1 : Int32) <<< (v1 &&& 31)))) r2 1).toNatClampNeg) (Or.inl ⟨rfl, rfl⟩) dLi_sortWords_74 (wfk hw e4 kv0) ak_13 rfl (s5 q2) ?_
      refine x_iconst (pc := 75) dLi_sortWords_75 (v := 1) rfl ?_
      refine x_iload_n (pc := 76) dLi_sortWords_76 rfl (q := 2) rfl ?_
      refine x_ishl (pc := 77) dLi_sortWords_77 ?_
      refine x_ior (pc := 78) dLi_sortWords_78 ?_
      have h := g2_1 q2
      obtain ⟨s506, h⟩ := h
      refine x_astIj (pc := 79) (j := (gi (si M r3 (gi M r2 2).toNatClampNeg ((gi M r3 (gi M r2 2).toNatClampNeg) ||| ((1 : Int32) <<< (v1 &&& 31)))) r2 1).toNatClampNeg) (v := (gi (si M r3 (gi M r2 2).toNatClampNeg ((gi M r3 (gi M r2 2).toNatClampNeg) ||| ((1 : Int32) <<< (v1 &&& 31)))) r4 (gi (si M r3 (gi M r2 2).toNatClampNeg ((gi M r3 (gi M r2 2).toNatClampNeg) ||| ((1 : Int32) <<< (v1 &&& 31)))) r2 1).toNatClampNeg) ||| ((1 : Int32) <<< (v1 &&& 31))) (Or.inl ⟨rfl, rfl, rfl⟩) dLi_sortWords_79 (wfk hw e4 kv0) ak_13 rfl s506 ?_
      exact x_loc [1, 2, 0] rfl h

theorem vLi_sortWords_80 {M : Mm} {b : Nat × Nat} {K : Mm → Prop} {v0 : Nat} {v1 : Int32} {v2 : Nat} (kv0 : v0 % 64 = 1) (kv2 : v2 % 64 = 9) 
    (h : X mLi_sortWords 28 [(0, .ref v0), (1, .int (v1 + 1))] [] (si (si M v0 10 ((gi M v0 10) ||| (if (gi M v2 0) = 5 then ((1 : Int32) <<< (v1 &&& 31)) else 0 : Int32))) v0 11 ((gi (si M v0 10 ((gi M v0 10) ||| (if (gi M v2 0) = 5 then ((1 : Int32) <<< (v1 &&& 31)) else 0 : Int32))) v0 11) ||| (if (gi (si M v0 10 ((gi M v0 10) ||| (if (gi M v2 0) = 5 then ((1 : Int32) <<< (v1 &&& 31)) else 0 : Int32))) v2 0) = 3 then ((1 : Int32) <<< (v1 &&& 31)) else 0 : Int32))) b (QV K)) : X mLi_sortWords 80 [(0, .ref v0), (1, .int v1), (2, .ref v2)] [] M b (QV K) := by
  refine x_wf (fun hw => ?_)
  refine x_aload_n (pc := 80) dLi_sortWords_80 rfl (q := 0) rfl ?_
  refine x_dup (pc := 81) dLi_sortWords_81 rfl ?_
  refine x_getI (pc := 82) dLi_sortWords_82 kv0 flLi_83 rfl ?_
  refine x_aload_n (pc := 85) dLi_sortWords_85 rfl (q := 2) rfl ?_
  refine x_getI (pc := 86) dLi_sortWords_86 kv2 flLi_95 rfl ?_
  refine x_iconst (pc := 89) dLi_sortWords_89 (v := 5) rfl ?_
  suffices hJ : X mLi_sortWords 100 [(0, .ref v0), (1, .int v1), (2, .ref v2)] [.int (if (gi M v2 0) = 5 then ((1 : Int32) <<< (v1 &&& 31)) else 0 : Int32), .int (gi M v0 10), .ref v0] M b (QV K) by
    refine x_icmp_ne (pc := 90) dLi_sortWords_90 (t := 99) rfl (fun q1 => ?_) (fun q1 => ?_)
    · refine x_iconst (pc := 99) dLi_sortWords_99 (v := 0) rfl ?_
      first | (rw [if_neg q1] at hJ; exact hJ) | (simp only [if_neg q1] at hJ ⊢; exact hJ)
    · refine x_iconst (pc := 93) dLi_sortWords_93 (v := 1) rfl ?_
      refine x_iload_n (pc := 94) dLi_sortWords_94 rfl (q := 1) rfl ?_
      refine x_ishl (pc := 95) dLi_sortWords_95 ?_
      refine x_goto (pc := 96) dLi_sortWords_96 (t := 100) rfl ?_
      first | (rw [if_pos q1] at hJ; exact hJ) | (simp only [if_pos q1] at hJ ⊢; exact hJ)
  refine x_ior (pc := 100) dLi_sortWords_100 ?_
  refine x_putI (pc := 101) dLi_sortWords_101 kv0 flLi_83 rfl rfl ?_
  refine x_aload_n (pc := 104) dLi_sortWords_104 rfl (q := 0) rfl ?_
  refine x_dup (pc := 105) dLi_sortWords_105 rfl ?_
  refine x_getI (pc := 106) dLi_sortWords_106 kv0 flLi_86 rfl ?_
  refine x_aload_n (pc := 109) dLi_sortWords_109 rfl (q := 2) rfl ?_
  refine x_getI (pc := 110) dLi_sortWords_110 kv2 flLi_95 rfl ?_
  refine x_iconst (pc := 113) dLi_sortWords_113 (v := 3) rfl ?_
  suffices hJ : X mLi_sortWords 124 [(0, .ref v0), (1, .int v1), (2, .ref v2)] [.int (if (gi (si M v0 10 ((gi M v0 10) ||| (if (gi M v2 0) = 5 then ((1 : Int32) <<< (v1 &&& 31)) else 0 : Int32))) v2 0) = 3 then ((1 : Int32) <<< (v1 &&& 31)) else 0 : Int32), .int (gi (si M v0 10 ((gi M v0 10) ||| (if (gi M v2 0) = 5 then ((1 : Int32) <<< (v1 &&& 31)) else 0 : Int32))) v0 11), .ref v0] (si M v0 10 ((gi M v0 10) ||| (if (gi M v2 0) = 5 then ((1 : Int32) <<< (v1 &&& 31)) else 0 : Int32))) b (QV K) by
    refine x_icmp_ne (pc := 114) dLi_sortWords_114 (t := 123) rfl (fun q2 => ?_) (fun q2 => ?_)
    · refine x_iconst (pc := 123) dLi_sortWords_123 (v := 0) rfl ?_
      first | (rw [if_neg q2] at hJ; exact hJ) | (simp only [if_neg q2] at hJ ⊢; exact hJ)
    · refine x_iconst (pc := 117) dLi_sortWords_117 (v := 1) rfl ?_
      refine x_iload_n (pc := 118) dLi_sortWords_118 rfl (q := 1) rfl ?_
      refine x_ishl (pc := 119) dLi_sortWords_119 ?_
      refine x_goto (pc := 120) dLi_sortWords_120 (t := 124) rfl ?_
      first | (rw [if_pos q2] at hJ; exact hJ) | (simp only [if_pos q2] at hJ ⊢; exact hJ)
  refine x_ior (pc := 124) dLi_sortWords_124 ?_
  refine x_putI (pc := 125) dLi_sortWords_125 kv0 flLi_86 rfl rfl ?_
  refine x_iinc (pc := 128) dLi_sortWords_128 (q := 1) rfl (v := v1 + 1) rfl (by decide) (L' := [(1, .int (v1 + 1)), (0, .ref v0), (2, .ref v2)]) rfl ?_
  refine x_goto (pc := 131) dLi_sortWords_131 (t := 28) rfl ?_
  exact x_loc [1, 0] rfl h

theorem dLi_findFollowed_0 : decode (mB mLi_findFollowed) 0 = .ok (.iconst 0, 1) := op3 (by decide +kernel)
theorem dLi_findFollowed_1 : decode (mB mLi_findFollowed) 1 = .ok (.istore_n 1, 1) := op60 (by decide +kernel)
theorem dLi_findFollowed_2 : decode (mB mLi_findFollowed) 2 = .ok (.iload_n 1, 1) := op27 (by decide +kernel)
theorem dLi_findFollowed_3 : decode (mB mLi_findFollowed) 3 = .ok (.aload_n 0, 1) := op42 (by decide +kernel)
theorem dLi_findFollowed_4 : decode (mB mLi_findFollowed) 4 = .ok (.getfield 55, 3) := op180 0 55 (by decide +kernel)
theorem dLi_findFollowed_7 : decode (mB mLi_findFollowed) 7 = .ok (.if_icmp .ge 100, 3) := op162 0 100 (by decide +kernel)
theorem dLi_findFollowed_10 : decode (mB mLi_findFollowed) 10 = .ok (.aload_n 0, 1) := op42 (by decide +kernel)
theorem dLi_findFollowed_11 : decode (mB mLi_findFollowed) 11 = .ok (.getfield 11, 3) := op180 0 11 (by decide +kernel)
theorem dLi_findFollowed_14 : decode (mB mLi_findFollowed) 14 = .ok (.iload_n 1, 1) := op27 (by decide +kernel)
theorem dLi_findFollowed_15 : decode (mB mLi_findFollowed) 15 = .ok (.aaload, 1) := op50 (by decide +kernel)
theorem dLi_findFollowed_16 : decode (mB mLi_findFollowed) 16 = .ok (.astore_n 2, 1) := op77 (by decide +kernel)
theorem dLi_findFollowed_17 : decode (mB mLi_findFollowed) 17 = .ok (.aload_n 0, 1) := op42 (by decide +kernel)
theorem dLi_findFollowed_18 : decode (mB mLi_findFollowed) 18 = .ok (.getfield 42, 3) := op180 0 42 (by decide +kernel)
theorem dLi_findFollowed_21 : decode (mB mLi_findFollowed) 21 = .ok (.iload_n 1, 1) := op27 (by decide +kernel)
theorem dLi_findFollowed_22 : decode (mB mLi_findFollowed) 22 = .ok (.iconst 0, 1) := op3 (by decide +kernel)
theorem dLi_findFollowed_23 : decode (mB mLi_findFollowed) 23 = .ok (.iastore, 1) := op79 (by decide +kernel)
theorem dLi_findFollowed_24 : decode (mB mLi_findFollowed) 24 = .ok (.aload_n 2, 1) := op44 (by decide +kernel)
theorem dLi_findFollowed_25 : decode (mB mLi_findFollowed) 25 = .ok (.getfield 98, 3) := op180 0 98 (by decide +kernel)
theorem dLi_findFollowed_28 : decode (mB mLi_findFollowed) 28 = .ok (.ifCond .lt 18, 3) := op155 0 18 (by decide +kernel)
theorem dLi_findFollowed_31 : decode (mB mLi_findFollowed) 31 = .ok (.aload_n 0, 1) := op42 (by decide +kernel)
theorem dLi_findFollowed_32 : decode (mB mLi_findFollowed) 32 = .ok (.getfield 42, 3) := op180 0 42 (by decide +kernel)
theorem dLi_findFollowed_35 : decode (mB mLi_findFollowed) 35 = .ok (.iload_n 1, 1) := op27 (by decide +kernel)
theorem dLi_findFollowed_36 : decode (mB mLi_findFollowed) 36 = .ok (.iconst 1, 1) := op4 (by decide +kernel)
theorem dLi_findFollowed_37 : decode (mB mLi_findFollowed) 37 = .ok (.aload_n 2, 1) := op44 (by decide +kernel)
theorem dLi_findFollowed_38 : decode (mB mLi_findFollowed) 38 = .ok (.getfield 98, 3) := op180 0 98 (by decide +kernel)
theorem dLi_findFollowed_41 : decode (mB mLi_findFollowed) 41 = .ok (.ishl, 1) := op120 (by decide +kernel)
theorem dLi_findFollowed_42 : decode (mB mLi_findFollowed) 42 = .ok (.iastore, 1) := op79 (by decide +kernel)
theorem dLi_findFollowed_43 : decode (mB mLi_findFollowed) 43 = .ok (.goto 46, 3) := op167 0 46 (by decide +kernel)
theorem dLi_findFollowed_46 : decode (mB mLi_findFollowed) 46 = .ok (.aload_n 2, 1) := op44 (by decide +kernel)
theorem dLi_findFollowed_47 : decode (mB mLi_findFollowed) 47 = .ok (.getfield 95, 3) := op180 0 95 (by decide +kernel)
theorem dLi_findFollowed_50 : decode (mB mLi_findFollowed) 50 = .ok (.iconst 4, 1) := op7 (by decide +kernel)
theorem dLi_findFollowed_51 : decode (mB mLi_findFollowed) 51 = .ok (.if_icmp .ne 38, 3) := op160 0 38 (by decide +kernel)
theorem dLi_findFollowed_54 : decode (mB mLi_findFollowed) 54 = .ok (.aload_n 2, 1) := op44 (by decide +kernel)
theorem dLi_findFollowed_55 : decode (mB mLi_findFollowed) 55 = .ok (.getfield 92, 3) := op180 0 92 (by decide +kernel)
theorem dLi_findFollowed_58 : decode (mB mLi_findFollowed) 58 = .ok (.ifCond .lt 31, 3) := op155 0 31 (by decide +kernel)
theorem dLi_findFollowed_61 : decode (mB mLi_findFollowed) 61 = .ok (.aload_n 0, 1) := op42 (by decide +kernel)
theorem dLi_findFollowed_62 : decode (mB mLi_findFollowed) 62 = .ok (.getfield 42, 3) := op180 0 42 (by decide +kernel)
theorem dLi_findFollowed_65 : decode (mB mLi_findFollowed) 65 = .ok (.iload_n 1, 1) := op27 (by decide +kernel)
theorem dLi_findFollowed_66 : decode (mB mLi_findFollowed) 66 = .ok (.aload_n 0, 1) := op42 (by decide +kernel)
theorem dLi_findFollowed_67 : decode (mB mLi_findFollowed) 67 = .ok (.getfield 33, 3) := op180 0 33 (by decide +kernel)
theorem dLi_findFollowed_70 : decode (mB mLi_findFollowed) 70 = .ok (.aload_n 2, 1) := op44 (by decide +kernel)
theorem dLi_findFollowed_71 : decode (mB mLi_findFollowed) 71 = .ok (.getfield 92, 3) := op180 0 92 (by decide +kernel)
theorem dLi_findFollowed_74 : decode (mB mLi_findFollowed) 74 = .ok (.iaload, 1) := op46 (by decide +kernel)
theorem dLi_findFollowed_75 : decode (mB mLi_findFollowed) 75 = .ok (.iconst 1, 1) := op4 (by decide +kernel)
theorem dLi_findFollowed_76 : decode (mB mLi_findFollowed) 76 = .ok (.iload_n 1, 1) := op27 (by decide +kernel)
theorem dLi_findFollowed_77 : decode (mB mLi_findFollowed) 77 = .ok (.ishl, 1) := op120 (by decide +kernel)
theorem dLi_findFollowed_78 : decode (mB mLi_findFollowed) 78 = .ok (.iconst 1, 1) := op4 (by decide +kernel)
theorem dLi_findFollowed_79 : decode (mB mLi_findFollowed) 79 = .ok (.isub, 1) := op100 (by decide +kernel)
theorem dLi_findFollowed_80 : decode (mB mLi_findFollowed) 80 = .ok (.iand, 1) := op126 (by decide +kernel)
theorem dLi_findFollowed_81 : decode (mB mLi_findFollowed) 81 = .ok (.aload_n 0, 1) := op42 (by decide +kernel)
theorem dLi_findFollowed_82 : decode (mB mLi_findFollowed) 82 = .ok (.getfield 86, 3) := op180 0 86 (by decide +kernel)
theorem dLi_findFollowed_85 : decode (mB mLi_findFollowed) 85 = .ok (.iconst (-1), 1) := op2 (by decide +kernel)
theorem dLi_findFollowed_86 : decode (mB mLi_findFollowed) 86 = .ok (.ixor, 1) := op130 (by decide +kernel)
theorem dLi_findFollowed_87 : decode (mB mLi_findFollowed) 87 = .ok (.iand, 1) := op126 (by decide +kernel)
theorem dLi_findFollowed_88 : decode (mB mLi_findFollowed) 88 = .ok (.iastore, 1) := op79 (by decide +kernel)
theorem dLi_findFollowed_89 : decode (mB mLi_findFollowed) 89 = .ok (.aload_n 0, 1) := op42 (by decide +kernel)
theorem dLi_findFollowed_90 : decode (mB mLi_findFollowed) 90 = .ok (.getfield 45, 3) := op180 0 45 (by decide +kernel)
theorem dLi_findFollowed_93 : decode (mB mLi_findFollowed) 93 = .ok (.iload_n 1, 1) := op27 (by decide +kernel)
theorem dLi_findFollowed_94 : decode (mB mLi_findFollowed) 94 = .ok (.aload_n 0, 1) := op42 (by decide +kernel)
theorem dLi_findFollowed_95 : decode (mB mLi_findFollowed) 95 = .ok (.getfield 42, 3) := op180 0 42 (by decide +kernel)
theorem dLi_findFollowed_98 : decode (mB mLi_findFollowed) 98 = .ok (.iload_n 1, 1) := op27 (by decide +kernel)
theorem dLi_findFollowed_99 : decode (mB mLi_findFollowed) 99 = .ok (.iaload, 1) := op46 (by decide +kernel)
theorem dLi_findFollowed_100 : decode (mB mLi_findFollowed) 100 = .ok (.iastore, 1) := op79 (by decide +kernel)
theorem dLi_findFollowed_101 : decode (mB mLi_findFollowed) 101 = .ok (.iinc 1 1, 3) := op132 1 1 (by decide +kernel)
theorem dLi_findFollowed_104 : decode (mB mLi_findFollowed) 104 = .ok (.goto (-102), 3) := op167 255 154 (by decide +kernel)
theorem dLi_findFollowed_107 : decode (mB mLi_findFollowed) 107 = .ok (.return_, 1) := op177 (by decide +kernel)

theorem vLi_findFollowed_0 {M : Mm} {b : Nat × Nat} {K : Mm → Prop} {v0 : Nat}  
    (h : X mLi_findFollowed 2 [(0, .ref v0), (1, .int 0)] [] M b (QV K)) : X mLi_findFollowed 0 [(0, .ref v0)] [] M b (QV K) := by
  refine x_wf (fun hw => ?_)
  refine x_iconst (pc := 0) dLi_findFollowed_0 (v := 0) rfl ?_
  refine x_istore_n (pc := 1) dLi_findFollowed_1 rfl (by decide) (L' := [(1, .int 0), (0, .ref v0)]) rfl ?_
  exact x_loc [1, 0] rfl h

theorem vLi_findFollowed_2 {M : Mm} {b : Nat × Nat} {K : Mm → Prop} {v0 : Nat} {v1 : Int32} {r1 : Nat} {r3 : Nat} {r4 : Nat} (kv0 : v0 % 64 = 1) (e1 : gr M v0 0 = some r1) (e3 : gr M v0 14 = some r3) (e4 : gr M v0 7 = some r4)
    (h : ((gi M v0 1) ≤ v1 → (K M)) ∧ (¬ (gi M v0 1) ≤ v1 → (vp_in v1 24 ∧ (∃ r2 : Nat, gr M r1 (v1).toNatClampNeg = some r2 ∧ (vp_in v1 24 ∧ (((gi (si M r3 (v1).toNatClampNeg 0) r2 6) < 0 ∧ (gi (si M r3 (v1).toNatClampNeg 0) r2 0) = 4 ∧ ¬ (gi (si M r3 (v1).toNatClampNeg 0) r2 1) < 0 → vp_in (gi (si M r3 (v1).toNatClampNeg 0) r2 1) 8) ∧ ((((gi (si M r3 (v1).toNatClampNeg 0) r2 6) < 0 ∧ ¬ (gi (si M r3 (v1).toNatClampNeg 0) r2 0) = 4) ∨ ((gi (si M r3 (v1).toNatClampNeg 0) r2 6) < 0 ∧ (gi (si M r3 (v1).toNatClampNeg 0) r2 0) = 4 ∧ (gi (si M r3 (v1).toNatClampNeg 0) r2 1) < 0)) → (X mLi_findFollowed 89 [(0, .ref v0), (1, .int v1)] [] (si M r3 (v1).toNatClampNeg 0) b (QV K))) ∧ (((gi (si M r3 (v1).toNatClampNeg 0) r2 6) < 0 ∧ (gi (si M r3 (v1).toNatClampNeg 0) r2 0) = 4 ∧ ¬ (gi (si M r3 (v1).toNatClampNeg 0) r2 1) < 0) → (vp_in v1 24 ∧ (X mLi_findFollowed 89 [(0, .ref v0), (1, .int v1)] [] (si (si M r3 (v1).toNatClampNeg 0) r3 (v1).toNatClampNeg (((gi (si M r3 (v1).toNatClampNeg 0) r4 (gi (si M r3 (v1).toNatClampNeg 0) r2 1).toNatClampNeg) &&& (((1 : Int32) <<< (v1 &&& 31)) - 1)) &&& ((gi (si M r3 (v1).toNatClampNeg 0) v0 11) ^^^ (-1)))) b (QV K)))) ∧ (¬ (gi (si M r3 (v1).toNatClampNeg 0) r2 6) < 0 → (vp_in v1 24 ∧ (X mLi_findFollowed 89 [(0, .ref v0), (1, .int v1)] [] (si (si M r3 (v1).toNatClampNeg 0) r3 (v1).toNatClampNeg ((1 : Int32) <<< ((gi (si M r3 (v1).toNatClampNeg 0) r2 6) &&& 31))) b (QV K)))))))))) : X mLi_findFollowed 2 [(0, .ref v0), (1, .int v1)] [] M b (QV K) := by
  refine x_wf (fun hw => ?_)
  refine x_iload_n (pc := 2) dLi_findFollowed_2 rfl (q := 1) rfl ?_
  refine x_aload_n (pc := 3) dLi_findFollowed_3 rfl (q := 0) rfl ?_
  refine x_getI (pc := 4) dLi_findFollowed_4 kv0 flLi_55 rfl ?_
  obtain ⟨g1_0, g1_1⟩ := h
  refine x_icmp_ge (pc := 7) dLi_findFollowed_7 (t := 107) rfl (fun q1 => ?_) (fun q1 => ?_)
  · have h := g1_0 q1
    exact x_retQV (pc := 107) dLi_findFollowed_107 rfl h
  · refine x_aload_n (pc := 10) dLi_findFollowed_10 rfl (q := 0) rfl ?_
    refine x_getR (pc := 11) dLi_findFollowed_11 kv0 flLi_11 rfl e1 ?_
    refine x_iload_n (pc := 14) dLi_findFollowed_14 rfl (q := 1) rfl ?_
    have h := g1_1 q1
    obtain ⟨s501, h⟩ := h
    obtain ⟨r2, s502, h⟩ := h
    refine x_aldR (pc := 15) (Or.inl rfl) dLi_findFollowed_15 (wfk hw e1 kv0) ak_18 s501 s502 ?_
    refine x_astore_n (pc := 16) dLi_findFollowed_16 rfl (by decide) (L' := [(2, .ref r2), (0, .ref v0), (1, .int v1)]) rfl ?_
    refine x_aload_n (pc := 17) dLi_findFollowed_17 rfl (q := 1) rfl ?_
    refine x_getR (pc := 18) dLi_findFollowed_18 kv0 flLi_42 rfl e3 ?_
    refine x_iload_n (pc := 21) dLi_findFollowed_21 rfl (q := 2) rfl ?_
    refine x_iconst (pc := 22) dLi_findFollowed_22 (v := 0) rfl ?_
    obtain ⟨s503, h⟩ := h
    refine x_astIj (pc := 23) (j := (v1).toNatClampNeg) (v := 0) (Or.inl ⟨rfl, rfl, rfl⟩) dLi_findFollowed_23 (wfk hw e3 kv0) ak_12 rfl s503 ?_
    refine x_aload_n (pc := 24) dLi_findFollowed_24 rfl (q := 0) rfl ?_
    refine x_getI (pc := 25) dLi_findFollowed_25 (wfk hw s502 (wfk hw e1 kv0)) flLi_98 rfl ?_
    obtain ⟨s4, g2_0, g2_1, g2_2⟩ := h
    have g2_k0 : ((gi (si M r3 (v1).toNatClampNeg 0) r2 6) < 0 ∧ ¬ (gi (si M r3 (v1).toNatClampNeg 0) r2 0) = 4) ∨ ((gi (si M r3 (v1).toNatClampNeg 0) r2 6) < 0 ∧ (gi (si M r3 (v1).toNatClampNeg 0) r2 0) = 4 ∧ (gi (si M r3 (v1).toNatClampNeg 0) r2 1) < 0) → X mLi_findFollowed 89 [(2, .ref r2), (0, .ref v0), (1, .int v1)] [] (si M r3 (v1).toNatClampNeg 0) b (QV K) := fun q => by
      have h := g2_0 q
      exact x_loc [1, 2] rfl h
    refine x_if_lt (pc := 28) dLi_findFollowed_28 (t := 46) rfl (fun q2 => ?_) (fun q2 => ?_)
    · refine x_aload_n (pc := 46) dLi_findFollowed_46 rfl (q := 0) rfl ?_
      refine x_getI (pc := 47) dLi_findFollowed_47 (wfk hw s502 (wfk hw e1 kv0)) flLi_95 rfl ?_
      refine x_iconst (pc := 50) dLi_findFollowed_50 (v := 4) rfl ?_
      refine x_icmp_ne (pc := 51) dLi_findFollowed_51 (t := 89) rfl (fun q3 => ?_) (fun q3 => ?_)
      · exact g2_k0 (Or.inl ⟨q2, q3⟩)
      · refine x_aload_n (pc := 54) dLi_findFollowed_54 rfl (q := 0) rfl ?_
        refine x_getI (pc := 55) dLi_findFollowed_55 (wfk hw s502 (wfk hw e1 kv0)) flLi_92 rfl ?_
        refine x_if_lt (pc := 58) dLi_findFollowed_58 (t := 89) rfl (fun q4 => ?_) (fun q4 => ?_)
        · exact g2_k0 (Or.inr ⟨q2, q3, q4⟩)
        · refine x_aload_n (pc := 61) dLi_findFollowed_61 rfl (q := 1) rfl ?_
          refine x_getR (pc := 62) dLi_findFollowed_62 kv0 flLi_42 rfl e3 ?_
          refine x_iload_n (pc := 65) dLi_findFollowed_65 rfl (q := 2) rfl ?_
          refine x_aload_n (pc := 66) dLi_findFollowed_66 rfl (q := 1) rfl ?_
          refine x_getR (pc := 67) dLi_findFollowed_67 kv0 flLi_33 rfl e4 ?_
          refine x_aload_n (pc := 70) dLi_findFollowed_70 rfl (q := 0) rfl ?_
          refine x_getI (pc := 71) dLi_findFollowed_71 (wfk hw s502 (wfk hw e1 kv0)) flLi_92 rfl ?_
          refine x_aldIj (pc := 74) (j := (gi (si M r3 (v1).toNatClampNeg 0) r2 1).toNatClampNeg) (Or.inl ⟨rfl, rfl⟩) dLi_findFollowed_74 (wfk hw e4 kv0) ak_13 rfl (s4 ⟨q2, q3, q4⟩) ?_
          refine x_iconst (pc := 75) dLi_findFollowed_75 (v := 1) rfl ?_
          refine x_iload_n (pc := 76) dLi_findFollowed_76 rfl (q := 2) rfl ?_
          refine x_ishl (pc := 77) dLi_findFollowed_77 ?_
          refine x_iconst (pc := 78) dLi_findFollowed_78 (v := 1) rfl ?_
          refine x_isub (pc := 79) dLi_findFollowed_79 ?_
          refine x_iand (pc := 80) dLi_findFollowed_80 ?_
          refine x_aload_n (pc := 81) dLi_findFollowed_81 rfl (q := 1) rfl ?_
          refine x_getI (pc := 82) dLi_findFollowed_82 kv0 flLi_86 rfl ?_
          refine x_iconst (pc := 85) dLi_findFollowed_85 (v := (-1)) rfl ?_
          refine x_ixor (pc := 86) dLi_findFollowed_86 ?_
          refine x_iand (pc := 87) dLi_findFollowed_87 ?_
          have h := g2_1 ⟨q2, q3, q4⟩
          obtain ⟨s505, h⟩ := h
          refine x_astIj (pc := 88) (j := (v1).toNatClampNeg) (v := ((gi (si M r3 (v1).toNatClampNeg 0) r4 (gi (si M r3 (v1).toNatClampNeg 0) r2 1).toNatClampNeg) &&& (((1 : Int32) <<< (v1 &&& 31)) - 1)) &&& ((gi (si M r3 (v1).toNatClampNeg 0) v0 11) ^^^ (-1))) (Or.inl ⟨rfl, rfl, rfl⟩) dLi_findFollowed_88 (wfk hw e3 kv0) ak_12 rfl s505 ?_
          exact x_loc [1, 2] rfl h
    · refine x_aload_n (pc := 31) dLi_findFollowed_31 rfl (q := 1) rfl ?_
      refine x_getR (pc := 32) dLi_findFollowed_32 kv0 flLi_42 rfl e3 ?_
      refine x_iload_n (pc := 35) dLi_findFollowed_35 rfl (q := 2) rfl ?_
      refine x_iconst (pc := 36) dLi_findFollowed_36 (v := 1) rfl ?_
      refine x_aload_n (pc := 37) dLi_findFollowed_37 rfl (q := 0) rfl ?_
      refine x_getI (pc := 38) dLi_findFollowed_38 (wfk hw s502 (wfk hw e1 kv0)) flLi_98 rfl ?_
      refine x_ishl (pc := 41) dLi_findFollowed_41 ?_
      have h := g2_2 q2
      obtain ⟨s506, h⟩ := h
      refine x_astIj (pc := 42) (j := (v1).toNatClampNeg) (v := (1 : Int32) <<< ((gi (si M r3 (v1).toNatClampNeg 0) r2 6) &&& 31)) (Or.inl ⟨rfl, rfl, rfl⟩) dLi_findFollowed_42 (wfk hw e3 kv0) ak_12 rfl s506 ?_
      refine x_goto (pc := 43) dLi_findFollowed_43 (t := 89) rfl ?_
      exact x_loc [1, 2] rfl h

theorem vLi_findFollowed_89 {M : Mm} {b : Nat × Nat} {K : Mm → Prop} {v0 : Nat} {v1 : Int32} {r1 : Nat} {r2 : Nat} (kv0 : v0 % 64 = 1) (e1 : gr M v0 15 = some r1) (e2 : gr M v0 14 = some r2)
    (h : vp_in v1 24 ∧ (vp_in v1 24 ∧ (X mLi_findFollowed 2 [(0, .ref v0), (1, .int (v1 + 1))] [] (si M r1 (v1).toNatClampNeg (gi M r2 (v1).toNatClampNeg)) b (QV K)))) : X mLi_findFollowed 89 [(0, .ref v0), (1, .int v1)] [] M b (QV K) := by
  refine x_wf (fun hw => ?_)
  refine x_aload_n (pc := 89) dLi_findFollowed_89 rfl (q := 0) rfl ?_
  refine x_getR (pc := 90) dLi_findFollowed_90 kv0 flLi_45 rfl e1 ?_
  refine x_iload_n (pc := 93) dLi_findFollowed_93 rfl (q := 1) rfl ?_
  refine x_aload_n (pc := 94) dLi_findFollowed_94 rfl (q := 0) rfl ?_
  refine x_getR (pc := 95) dLi_findFollowed_95 kv0 flLi_42 rfl e2 ?_
  refine x_iload_n (pc := 98) dLi_findFollowed_98 rfl (q := 1) rfl ?_
  obtain ⟨s501, h⟩ := h
  refine x_aldIj (pc := 99) (j := (v1).toNatClampNeg) (Or.inl ⟨rfl, rfl⟩) dLi_findFollowed_99 (wfk hw e2 kv0) ak_12 rfl s501 ?_
  obtain ⟨s502, h⟩ := h
  refine x_astIj (pc := 100) (j := (v1).toNatClampNeg) (v := gi M r2 (v1).toNatClampNeg) (Or.inl ⟨rfl, rfl, rfl⟩) dLi_findFollowed_100 (wfk hw e1 kv0) ak_12 rfl s502 ?_
  refine x_iinc (pc := 101) dLi_findFollowed_101 (q := 1) rfl (v := v1 + 1) rfl (by decide) (L' := [(1, .int (v1 + 1)), (0, .ref v0)]) rfl ?_
  refine x_goto (pc := 104) dLi_findFollowed_104 (t := 2) rfl ?_
  exact x_loc [1, 0] rfl h

theorem dLi_findRings_0 : decode (mB mLi_findRings) 0 = .ok (.iconst 0, 1) := op3 (by decide +kernel)
theorem dLi_findRings_1 : decode (mB mLi_findRings) 1 = .ok (.istore_n 1, 1) := op60 (by decide +kernel)
theorem dLi_findRings_2 : decode (mB mLi_findRings) 2 = .ok (.iload_n 1, 1) := op27 (by decide +kernel)
theorem dLi_findRings_3 : decode (mB mLi_findRings) 3 = .ok (.aload_n 0, 1) := op42 (by decide +kernel)
theorem dLi_findRings_4 : decode (mB mLi_findRings) 4 = .ok (.getfield 55, 3) := op180 0 55 (by decide +kernel)
theorem dLi_findRings_7 : decode (mB mLi_findRings) 7 = .ok (.if_icmp .ge 53, 3) := op162 0 53 (by decide +kernel)
theorem dLi_findRings_10 : decode (mB mLi_findRings) 10 = .ok (.iconst 0, 1) := op3 (by decide +kernel)
theorem dLi_findRings_11 : decode (mB mLi_findRings) 11 = .ok (.istore_n 2, 1) := op61 (by decide +kernel)
theorem dLi_findRings_12 : decode (mB mLi_findRings) 12 = .ok (.iload_n 2, 1) := op28 (by decide +kernel)
theorem dLi_findRings_13 : decode (mB mLi_findRings) 13 = .ok (.aload_n 0, 1) := op42 (by decide +kernel)
theorem dLi_findRings_14 : decode (mB mLi_findRings) 14 = .ok (.getfield 55, 3) := op180 0 55 (by decide +kernel)
theorem dLi_findRings_17 : decode (mB mLi_findRings) 17 = .ok (.if_icmp .ge 37, 3) := op162 0 37 (by decide +kernel)
theorem dLi_findRings_20 : decode (mB mLi_findRings) 20 = .ok (.aload_n 0, 1) := op42 (by decide +kernel)
theorem dLi_findRings_21 : decode (mB mLi_findRings) 21 = .ok (.getfield 45, 3) := op180 0 45 (by decide +kernel)
theorem dLi_findRings_24 : decode (mB mLi_findRings) 24 = .ok (.iload_n 2, 1) := op28 (by decide +kernel)
theorem dLi_findRings_25 : decode (mB mLi_findRings) 25 = .ok (.iaload, 1) := op46 (by decide +kernel)
theorem dLi_findRings_26 : decode (mB mLi_findRings) 26 = .ok (.iload_n 1, 1) := op27 (by decide +kernel)
theorem dLi_findRings_27 : decode (mB mLi_findRings) 27 = .ok (.invokestatic 101, 3) := op184 0 101 (by decide +kernel)
theorem dLi_findRings_30 : decode (mB mLi_findRings) 30 = .ok (.ifCond .eq 18, 3) := op153 0 18 (by decide +kernel)
theorem dLi_findRings_33 : decode (mB mLi_findRings) 33 = .ok (.aload_n 0, 1) := op42 (by decide +kernel)
theorem dLi_findRings_34 : decode (mB mLi_findRings) 34 = .ok (.getfield 45, 3) := op180 0 45 (by decide +kernel)
theorem dLi_findRings_37 : decode (mB mLi_findRings) 37 = .ok (.iload_n 2, 1) := op28 (by decide +kernel)
theorem dLi_findRings_38 : decode (mB mLi_findRings) 38 = .ok (.dup2, 1) := op92 (by decide +kernel)
theorem dLi_findRings_39 : decode (mB mLi_findRings) 39 = .ok (.iaload, 1) := op46 (by decide +kernel)
theorem dLi_findRings_40 : decode (mB mLi_findRings) 40 = .ok (.aload_n 0, 1) := op42 (by decide +kernel)
theorem dLi_findRings_41 : decode (mB mLi_findRings) 41 = .ok (.getfield 45, 3) := op180 0 45 (by decide +kernel)
theorem dLi_findRings_44 : decode (mB mLi_findRings) 44 = .ok (.iload_n 1, 1) := op27 (by decide +kernel)
theorem dLi_findRings_45 : decode (mB mLi_findRings) 45 = .ok (.iaload, 1) := op46 (by decide +kernel)
theorem dLi_findRings_46 : decode (mB mLi_findRings) 46 = .ok (.ior, 1) := op128 (by decide +kernel)
theorem dLi_findRings_47 : decode (mB mLi_findRings) 47 = .ok (.iastore, 1) := op79 (by decide +kernel)
theorem dLi_findRings_48 : decode (mB mLi_findRings) 48 = .ok (.iinc 2 1, 3) := op132 2 1 (by decide +kernel)
theorem dLi_findRings_51 : decode (mB mLi_findRings) 51 = .ok (.goto (-39), 3) := op167 255 217 (by decide +kernel)
theorem dLi_findRings_54 : decode (mB mLi_findRings) 54 = .ok (.iinc 1 1, 3) := op132 1 1 (by decide +kernel)
theorem dLi_findRings_57 : decode (mB mLi_findRings) 57 = .ok (.goto (-55), 3) := op167 255 201 (by decide +kernel)
theorem dLi_findRings_60 : decode (mB mLi_findRings) 60 = .ok (.aload_n 0, 1) := op42 (by decide +kernel)
theorem dLi_findRings_61 : decode (mB mLi_findRings) 61 = .ok (.iconst 0, 1) := op3 (by decide +kernel)
theorem dLi_findRings_62 : decode (mB mLi_findRings) 62 = .ok (.putfield 105, 3) := op181 0 105 (by decide +kernel)
theorem dLi_findRings_65 : decode (mB mLi_findRings) 65 = .ok (.iconst 0, 1) := op3 (by decide +kernel)
theorem dLi_findRings_66 : decode (mB mLi_findRings) 66 = .ok (.istore_n 1, 1) := op60 (by decide +kernel)
theorem dLi_findRings_67 : decode (mB mLi_findRings) 67 = .ok (.iload_n 1, 1) := op27 (by decide +kernel)
theorem dLi_findRings_68 : decode (mB mLi_findRings) 68 = .ok (.aload_n 0, 1) := op42 (by decide +kernel)
theorem dLi_findRings_69 : decode (mB mLi_findRings) 69 = .ok (.getfield 55, 3) := op180 0 55 (by decide +kernel)
theorem dLi_findRings_72 : decode (mB mLi_findRings) 72 = .ok (.if_icmp .ge 28, 3) := op162 0 28 (by decide +kernel)
theorem dLi_findRings_75 : decode (mB mLi_findRings) 75 = .ok (.aload_n 0, 1) := op42 (by decide +kernel)
theorem dLi_findRings_76 : decode (mB mLi_findRings) 76 = .ok (.dup, 1) := op89 (by decide +kernel)
theorem dLi_findRings_77 : decode (mB mLi_findRings) 77 = .ok (.getfield 105, 3) := op180 0 105 (by decide +kernel)
theorem dLi_findRings_80 : decode (mB mLi_findRings) 80 = .ok (.aload_n 0, 1) := op42 (by decide +kernel)
theorem dLi_findRings_81 : decode (mB mLi_findRings) 81 = .ok (.getfield 45, 3) := op180 0 45 (by decide +kernel)
theorem dLi_findRings_84 : decode (mB mLi_findRings) 84 = .ok (.iload_n 1, 1) := op27 (by decide +kernel)
theorem dLi_findRings_85 : decode (mB mLi_findRings) 85 = .ok (.iaload, 1) := op46 (by decide +kernel)
theorem dLi_findRings_86 : decode (mB mLi_findRings) 86 = .ok (.iconst 1, 1) := op4 (by decide +kernel)
theorem dLi_findRings_87 : decode (mB mLi_findRings) 87 = .ok (.iload_n 1, 1) := op27 (by decide +kernel)
theorem dLi_findRings_88 : decode (mB mLi_findRings) 88 = .ok (.ishl, 1) := op120 (by decide +kernel)
theorem dLi_findRings_89 : decode (mB mLi_findRings) 89 = .ok (.iand, 1) := op126 (by decide +kernel)
theorem dLi_findRings_90 : decode (mB mLi_findRings) 90 = .ok (.ior, 1) := op128 (by decide +kernel)
theorem dLi_findRings_91 : decode (mB mLi_findRings) 91 = .ok (.putfield 105, 3) := op181 0 105 (by decide +kernel)
theorem dLi_findRings_94 : decode (mB mLi_findRings) 94 = .ok (.iinc 1 1, 3) := op132 1 1 (by decide +kernel)
theorem dLi_findRings_97 : decode (mB mLi_findRings) 97 = .ok (.goto (-30), 3) := op167 255 226 (by decide +kernel)
theorem dLi_findRings_100 : decode (mB mLi_findRings) 100 = .ok (.aload_n 0, 1) := op42 (by decide +kernel)
theorem dLi_findRings_101 : decode (mB mLi_findRings) 101 = .ok (.aload_n 0, 1) := op42 (by decide +kernel)
theorem dLi_findRings_102 : decode (mB mLi_findRings) 102 = .ok (.getfield 105, 3) := op180 0 105 (by decide +kernel)
theorem dLi_findRings_105 : decode (mB mLi_findRings) 105 = .ok (.putfield 108, 3) := op181 0 108 (by decide +kernel)
theorem dLi_findRings_108 : decode (mB mLi_findRings) 108 = .ok (.iconst 0, 1) := op3 (by decide +kernel)
theorem dLi_findRings_109 : decode (mB mLi_findRings) 109 = .ok (.istore_n 1, 1) := op60 (by decide +kernel)
theorem dLi_findRings_110 : decode (mB mLi_findRings) 110 = .ok (.iload_n 1, 1) := op27 (by decide +kernel)
theorem dLi_findRings_111 : decode (mB mLi_findRings) 111 = .ok (.aload_n 0, 1) := op42 (by decide +kernel)
theorem dLi_findRings_112 : decode (mB mLi_findRings) 112 = .ok (.getfield 55, 3) := op180 0 55 (by decide +kernel)
theorem dLi_findRings_115 : decode (mB mLi_findRings) 115 = .ok (.if_icmp .ge 39, 3) := op162 0 39 (by decide +kernel)
theorem dLi_findRings_118 : decode (mB mLi_findRings) 118 = .ok (.aload_n 0, 1) := op42 (by decide +kernel)
theorem dLi_findRings_119 : decode (mB mLi_findRings) 119 = .ok (.dup, 1) := op89 (by decide +kernel)
theorem dLi_findRings_120 : decode (mB mLi_findRings) 120 = .ok (.getfield 108, 3) := op180 0 108 (by decide +kernel)
theorem dLi_findRings_123 : decode (mB mLi_findRings) 123 = .ok (.aload_n 0, 1) := op42 (by decide +kernel)
theorem dLi_findRings_124 : decode (mB mLi_findRings) 124 = .ok (.getfield 45, 3) := op180 0 45 (by decide +kernel)
theorem dLi_findRings_127 : decode (mB mLi_findRings) 127 = .ok (.iload_n 1, 1) := op27 (by decide +kernel)
theorem dLi_findRings_128 : decode (mB mLi_findRings) 128 = .ok (.iaload, 1) := op46 (by decide +kernel)
theorem dLi_findRings_129 : decode (mB mLi_findRings) 129 = .ok (.aload_n 0, 1) := op42 (by decide +kernel)
theorem dLi_findRings_130 : decode (mB mLi_findRings) 130 = .ok (.getfield 105, 3) := op180 0 105 (by decide +kernel)
theorem dLi_findRings_133 : decode (mB mLi_findRings) 133 = .ok (.iand, 1) := op126 (by decide +kernel)
theorem dLi_findRings_134 : decode (mB mLi_findRings) 134 = .ok (.ifCond .eq 9, 3) := op153 0 9 (by decide +kernel)
theorem dLi_findRings_137 : decode (mB mLi_findRings) 137 = .ok (.iconst 1, 1) := op4 (by decide +kernel)
theorem dLi_findRings_138 : decode (mB mLi_findRings) 138 = .ok (.iload_n 1, 1) := op27 (by decide +kernel)
theorem dLi_findRings_139 : decode (mB mLi_findRings) 139 = .ok (.ishl, 1) := op120 (by decide +kernel)
theorem dLi_findRings_140 : decode (mB mLi_findRings) 140 = .ok (.goto 4, 3) := op167 0 4 (by decide +kernel)
theorem dLi_findRings_143 : decode (mB mLi_findRings) 143 = .ok (.iconst 0, 1) := op3 (by decide +kernel)
theorem dLi_findRings_144 : decode (mB mLi_findRings) 144 = .ok (.ior, 1) := op128 (by decide +kernel)
theorem dLi_findRings_145 : decode (mB mLi_findRings) 145 = .ok (.putfield 108, 3) := op181 0 108 (by decide +kernel)
theorem dLi_findRings_148 : decode (mB mLi_findRings) 148 = .ok (.iinc 1 1, 3) := op132 1 1 (by decide +kernel)
theorem dLi_findRings_151 : decode (mB mLi_findRings) 151 = .ok (.goto (-41), 3) := op167 255 215 (by decide +kernel)
theorem dLi_findRings_154 : decode (mB mLi_findRings) 154 = .ok (.return_, 1) := op177 (by decide +kernel)

theorem vLi_findRings_0 {M : Mm} {b : Nat × Nat} {K : Mm → Prop} {v0 : Nat}  
    (h : X mLi_findRings 2 [(0, .ref v0), (1, .int 0)] [] M b (QV K)) : X mLi_findRings 0 [(0, .ref v0)] [] M b (QV K) := by
  refine x_wf (fun hw => ?_)
  refine x_iconst (pc := 0) dLi_findRings_0 (v := 0) rfl ?_
  refine x_istore_n (pc := 1) dLi_findRings_1 rfl (by decide) (L' := [(1, .int 0), (0, .ref v0)]) rfl ?_
  exact x_loc [1, 0] rfl h

theorem vLi_findRings_2 {M : Mm} {b : Nat × Nat} {K : Mm → Prop} {v0 : Nat} {v1 : Int32} (kv0 : v0 % 64 = 1) 
    (h : ((gi M v0 1) ≤ v1 → (X mLi_findRings 67 [(0, .ref v0), (1, .int 0)] [] (si M v0 12 0) b (QV K))) ∧ (¬ (gi M v0 1) ≤ v1 → (X mLi_findRings 12 [(0, .ref v0), (1, .int v1), (2, .int 0)] [] M b (QV K)))) : X mLi_findRings 2 [(0, .ref v0), (1, .int v1)] [] M b (QV K) := by
  refine x_wf (fun hw => ?_)
  refine x_iload_n (pc := 2) dLi_findRings_2 rfl (q := 1) rfl ?_
  refine x_aload_n (pc := 3) dLi_findRings_3 rfl (q := 0) rfl ?_
  refine x_getI (pc := 4) dLi_findRings_4 kv0 flLi_55 rfl ?_
  obtain ⟨g1_0, g1_1⟩ := h
  refine x_icmp_ge (pc := 7) dLi_findRings_7 (t := 60) rfl (fun q1 => ?_) (fun q1 => ?_)
  · refine x_aload_n (pc := 60) dLi_findRings_60 rfl (q := 0) rfl ?_
    refine x_iconst (pc := 61) dLi_findRings_61 (v := 0) rfl ?_
    have h := g1_0 q1
    refine x_putI (pc := 62) dLi_findRings_62 kv0 flLi_105 rfl rfl ?_
    refine x_iconst (pc := 65) dLi_findRings_65 (v := 0) rfl ?_
    refine x_istore_n (pc := 66) dLi_findRings_66 rfl (by decide) (L' := [(1, .int 0), (0, .ref v0)]) rfl ?_
    exact x_loc [1, 0] rfl h
  · refine x_iconst (pc := 10) dLi_findRings_10 (v := 0) rfl ?_
    have h := g1_1 q1
    refine x_istore_n (pc := 11) dLi_findRings_11 rfl (by decide) (L' := [(2, .int 0), (0, .ref v0), (1, .int v1)]) rfl ?_
    exact x_loc [1, 2, 0] rfl h

theorem vLi_findRings_12 {M : Mm} {b : Nat × Nat} {K : Mm → Prop} {v0 : Nat} {v1 : Int32} {v2 : Int32} {r1 : Nat} (kv0 : v0 % 64 = 1) (e1 : gr M v0 15 = some r1)
    (h : (¬ (gi M v0 1) ≤ v2 → vp_in v2 24) ∧ ((gi M v0 1) ≤ v2 → (X mLi_findRings 2 [(0, .ref v0), (1, .int (v1 + 1))] [] M b (QV K))) ∧ (¬ (gi M v0 1) ≤ v2 → (CI mC_holds [.int (gi M r1 (v2).toNatClampNeg), .int v1] M (fun rv N => X mLi_findRings 30 [(0, .ref v0), (1, .int v1), (2, .int v2)] [.int rv] N b (QV K))))) : X mLi_findRings 12 [(0, .ref v0), (1, .int v1), (2, .int v2)] [] M b (QV K) := by
  refine x_wf (fun hw => ?_)
  refine x_iload_n (pc := 12) dLi_findRings_12 rfl (q := 2) rfl ?_
  refine x_aload_n (pc := 13) dLi_findRings_13 rfl (q := 0) rfl ?_
  refine x_getI (pc := 14) dLi_findRings_14 kv0 flLi_55 rfl ?_
  obtain ⟨s1, g1_0, g1_1⟩ := h
  refine x_icmp_ge (pc := 17) dLi_findRings_17 (t := 54) rfl (fun q1 => ?_) (fun q1 => ?_)
  · have h := g1_0 q1
    refine x_iinc (pc := 54) dLi_findRings_54 (q := 1) rfl (v := v1 + 1) rfl (by decide) (L' := [(1, .int (v1 + 1)), (0, .ref v0), (2, .int v2)]) rfl ?_
    refine x_goto (pc := 57) dLi_findRings_57 (t := 2) rfl ?_
    exact x_loc [1, 0] rfl h
  · refine x_aload_n (pc := 20) dLi_findRings_20 rfl (q := 0) rfl ?_
    refine x_getR (pc := 21) dLi_findRings_21 kv0 flLi_45 rfl e1 ?_
    refine x_iload_n (pc := 24) dLi_findRings_24 rfl (q := 2) rfl ?_
    refine x_aldIj (pc := 25) (j := (v2).toNatClampNeg) (Or.inl ⟨rfl, rfl⟩) dLi_findRings_25 (wfk hw e1 kv0) ak_12 rfl (s1 q1) ?_
    refine x_iload_n (pc := 26) dLi_findRings_26 rfl (q := 1) rfl ?_
    have h := g1_1 q1
    exact x_invSN (pc := 27) dLi_findRings_27 (S := []) (As := [.int (gi M r1 (v2).toNatClampNeg), .int v1]) nlLi_101 hC_holds rfl ⟨by decide, by decide⟩ ⟨Nat.zero_le _, Nat.zero_le _⟩ rfl (Nat.le_of_ble_eq_true rfl) (aftI (b' := b) ⟨Nat.le_refl _, Nat.le_refl _⟩ (fun rv N h => h) h)

theorem vLi_findRings_30 {M : Mm} {b : Nat × Nat} {K : Mm → Prop} {v0 : Nat} {v1 : Int32} {v2 : Int32} {w0 : Int32} {r1 : Nat} (kv0 : v0 % 64 = 1) (e1 : gr M v0 15 = some r1)
    (h : (¬ w0 = 0 → vp_in v2 24) ∧ (¬ w0 = 0 → vp_in v1 24) ∧ (w0 = 0 → (X mLi_findRings 12 [(0, .ref v0), (1, .int v1), (2, .int (v2 + 1))] [] M b (QV K))) ∧ (¬ w0 = 0 → (vp_in v2 24 ∧ (X mLi_findRings 12 [(0, .ref v0), (1, .int v1), (2, .int (v2 + 1))] [] (si M r1 (v2).toNatClampNeg ((gi M r1 (v2).toNatClampNeg) ||| (gi M r1 (v1).toNatClampNeg))) b (QV K))))) : X mLi_findRings 30 [(0, .ref v0), (1, .int v1), (2, .int v2)] [.int w0] M b (QV K) := by
  refine x_wf (fun hw => ?_)
  obtain ⟨s1, s2, g1_0, g1_1⟩ := h
  refine x_if_eq (pc := 30) dLi_findRings_30 (t := 48) rfl (fun q1 => ?_) (fun q1 => ?_)
  · have h := g1_0 q1
    refine x_iinc (pc := 48) dLi_findRings_48 (q := 2) rfl (v := v2 + 1) rfl (by decide) (L' := [(2, .int (v2 + 1)), (0, .ref v0), (1, .int v1)]) rfl ?_
    refine x_goto (pc := 51) dLi_findRings_51 (t := 12) rfl ?_
    exact x_loc [1, 2, 0] rfl h
  · refine x_aload_n (pc := 33) dLi_findRings_33 rfl (q := 0) rfl ?_
    refine x_getR (pc := 34) dLi_findRings_34 kv0 flLi_45 rfl e1 ?_
    refine x_iload_n (pc := 37) dLi_findRings_37 rfl (q := 2) rfl ?_
    refine x_dup2 (pc := 38) dLi_findRings_38 rfl rfl ?_
    refine x_aldIj (pc := 39) (j := (v2).toNatClampNeg) (Or.inl ⟨rfl, rfl⟩) dLi_findRings_39 (wfk hw e1 kv0) ak_12 rfl (s1 q1) ?_
    refine x_aload_n (pc := 40) dLi_findRings_40 rfl (q := 0) rfl ?_
    refine x_getR (pc := 41) dLi_findRings_41 kv0 flLi_45 rfl e1 ?_
    refine x_iload_n (pc := 44) dLi_findRings_44 rfl (q := 1) rfl ?_
    refine x_aldIj (pc := 45) (j := (v1).toNatClampNeg) (Or.inl ⟨rfl, rfl⟩) dLi_findRings_45 (wfk hw e1 kv0) ak_12 rfl (s2 q1) ?_
    refine x_ior (pc := 46) dLi_findRings_46 ?_
    have h := g1_1 q1
    obtain ⟨s503, h⟩ := h
    refine x_astIj (pc := 47) (j := (v2).toNatClampNeg) (v := (gi M r1 (v2).toNatClampNeg) ||| (gi M r1 (v1).toNatClampNeg)) (Or.inl ⟨rfl, rfl, rfl⟩) dLi_findRings_47 (wfk hw e1 kv0) ak_12 rfl s503 ?_
    refine x_iinc (pc := 48) dLi_findRings_48 (q := 2) rfl (v := v2 + 1) rfl (by decide) (L' := [(2, .int (v2 + 1)), (0, .ref v0), (1, .int v1)]) rfl ?_
    refine x_goto (pc := 51) dLi_findRings_51 (t := 12) rfl ?_
    exact x_loc [1, 2, 0] rfl h

theorem vLi_findRings_67 {M : Mm} {b : Nat × Nat} {K : Mm → Prop} {v0 : Nat} {v1 : Int32} {r1 : Nat} (kv0 : v0 % 64 = 1) (e1 : gr M v0 15 = some r1)
    (h : (¬ (gi M v0 1) ≤ v1 → vp_in v1 24) ∧ ((gi M v0 1) ≤ v1 → (X mLi_findRings 110 [(0, .ref v0), (1, .int 0)] [] (si M v0 13 (gi M v0 12)) b (QV K))) ∧ (¬ (gi M v0 1) ≤ v1 → (X mLi_findRings 67 [(0, .ref v0), (1, .int (v1 + 1))] [] (si M v0 12 ((gi M v0 12) ||| ((gi M r1 (v1).toNatClampNeg) &&& ((1 : Int32) <<< (v1 &&& 31))))) b (QV K)))) : X mLi_findRings 67 [(0, .ref v0), (1, .int v1)] [] M b (QV K) := by
  refine x_wf (fun hw => ?_)
  refine x_iload_n (pc := 67) dLi_findRings_67 rfl (q := 1) rfl ?_
  refine x_aload_n (pc := 68) dLi_findRings_68 rfl (q := 0) rfl ?_
  refine x_getI (pc := 69) dLi_findRings_69 kv0 flLi_55 rfl ?_
  obtain ⟨s1, g1_0, g1_1⟩ := h
  refine x_icmp_ge (pc := 72) dLi_findRings_72 (t := 100) rfl (fun q1 => ?_) (fun q1 => ?_)
  · refine x_aload_n (pc := 100) dLi_findRings_100 rfl (q := 0) rfl ?_
    refine x_aload_n (pc := 101) dLi_findRings_101 rfl (q := 0) rfl ?_
    refine x_getI (pc := 102) dLi_findRings_102 kv0 flLi_105 rfl ?_
    have h := g1_0 q1
    refine x_putI (pc := 105) dLi_findRings_105 kv0 flLi_108 rfl rfl ?_
    refine x_iconst (pc := 108) dLi_findRings_108 (v := 0) rfl ?_
    refine x_istore_n (pc := 109) dLi_findRings_109 rfl (by decide) (L' := [(1, .int 0), (0, .ref v0)]) rfl ?_
    exact x_loc [1, 0] rfl h
  · refine x_aload_n (pc := 75) dLi_findRings_75 rfl (q := 0) rfl ?_
    refine x_dup (pc := 76) dLi_findRings_76 rfl ?_
    refine x_getI (pc := 77) dLi_findRings_77 kv0 flLi_105 rfl ?_
    refine x_aload_n (pc := 80) dLi_findRings_80 rfl (q := 0) rfl ?_
    refine x_getR (pc := 81) dLi_findRings_81 kv0 flLi_45 rfl e1 ?_
    refine x_iload_n (pc := 84) dLi_findRings_84 rfl (q := 1) rfl ?_
    refine x_aldIj (pc := 85) (j := (v1).toNatClampNeg) (Or.inl ⟨rfl, rfl⟩) dLi_findRings_85 (wfk hw e1 kv0) ak_12 rfl (s1 q1) ?_
    refine x_iconst (pc := 86) dLi_findRings_86 (v := 1) rfl ?_
    refine x_iload_n (pc := 87) dLi_findRings_87 rfl (q := 1) rfl ?_
    refine x_ishl (pc := 88) dLi_findRings_88 ?_
    refine x_iand (pc := 89) dLi_findRings_89 ?_
    refine x_ior (pc := 90) dLi_findRings_90 ?_
    have h := g1_1 q1
    refine x_putI (pc := 91) dLi_findRings_91 kv0 flLi_105 rfl rfl ?_
    refine x_iinc (pc := 94) dLi_findRings_94 (q := 1) rfl (v := v1 + 1) rfl (by decide) (L' := [(1, .int (v1 + 1)), (0, .ref v0)]) rfl ?_
    refine x_goto (pc := 97) dLi_findRings_97 (t := 67) rfl ?_
    exact x_loc [1, 0] rfl h

theorem vLi_findRings_110 {M : Mm} {b : Nat × Nat} {K : Mm → Prop} {v0 : Nat} {v1 : Int32} {r1 : Nat} (kv0 : v0 % 64 = 1) (e1 : gr M v0 15 = some r1)
    (h : (¬ (gi M v0 1) ≤ v1 → vp_in v1 24) ∧ ((gi M v0 1) ≤ v1 → (K M)) ∧ ((¬ (gi M v0 1) ≤ v1 ∧ ((gi M r1 (v1).toNatClampNeg) &&& (gi M v0 12)) = 0) → (X mLi_findRings 144 [(0, .ref v0), (1, .int v1)] [.int 0, .int (gi M v0 13), .ref v0] M b (QV K))) ∧ ((¬ (gi M v0 1) ≤ v1 ∧ ¬ ((gi M r1 (v1).toNatClampNeg) &&& (gi M v0 12)) = 0) → (X mLi_findRings 144 [(0, .ref v0), (1, .int v1)] [.int ((1 : Int32) <<< (v1 &&& 31)), .int (gi M v0 13), .ref v0] M b (QV K)))) : X mLi_findRings 110 [(0, .ref v0), (1, .int v1)] [] M b (QV K) := by
  refine x_wf (fun hw => ?_)
  refine x_iload_n (pc := 110) dLi_findRings_110 rfl (q := 1) rfl ?_
  refine x_aload_n (pc := 111) dLi_findRings_111 rfl (q := 0) rfl ?_
  refine x_getI (pc := 112) dLi_findRings_112 kv0 flLi_55 rfl ?_
  obtain ⟨s1, g1_0, g1_1, g1_2⟩ := h
  refine x_icmp_ge (pc := 115) dLi_findRings_115 (t := 154) rfl (fun q1 => ?_) (fun q1 => ?_)
  · have h := g1_0 q1
    exact x_retQV (pc := 154) dLi_findRings_154 rfl h
  · refine x_aload_n (pc := 118) dLi_findRings_118 rfl (q := 0) rfl ?_
    refine x_dup (pc := 119) dLi_findRings_119 rfl ?_
    refine x_getI (pc := 120) dLi_findRings_120 kv0 flLi_108 rfl ?_
    refine x_aload_n (pc := 123) dLi_findRings_123 rfl (q := 0) rfl ?_
    refine x_getR (pc := 124) dLi_findRings_124 kv0 flLi_45 rfl e1 ?_
    refine x_iload_n (pc := 127) dLi_findRings_127 rfl (q := 1) rfl ?_
    refine x_aldIj (pc := 128) (j := (v1).toNatClampNeg) (Or.inl ⟨rfl, rfl⟩) dLi_findRings_128 (wfk hw e1 kv0) ak_12 rfl (s1 q1) ?_
    refine x_aload_n (pc := 129) dLi_findRings_129 rfl (q := 0) rfl ?_
    refine x_getI (pc := 130) dLi_findRings_130 kv0 flLi_105 rfl ?_
    refine x_iand (pc := 133) dLi_findRings_133 ?_
    refine x_if_eq (pc := 134) dLi_findRings_134 (t := 143) rfl (fun q2 => ?_) (fun q2 => ?_)
    · refine x_iconst (pc := 143) dLi_findRings_143 (v := 0) rfl ?_
      have h := g1_1 ⟨q1, q2⟩
      exact h
    · refine x_iconst (pc := 137) dLi_findRings_137 (v := 1) rfl ?_
      refine x_iload_n (pc := 138) dLi_findRings_138 rfl (q := 1) rfl ?_
      refine x_ishl (pc := 139) dLi_findRings_139 ?_
      refine x_goto (pc := 140) dLi_findRings_140 (t := 144) rfl ?_
      have h := g1_2 ⟨q1, q2⟩
      exact h

theorem vLi_findRings_144 {M : Mm} {b : Nat × Nat} {K : Mm → Prop} {v0 : Nat} {v1 : Int32} {w0 : Int32} {w1 : Int32} {w2 : Nat} (kw2 : w2 % 64 = 1) 
    (h : X mLi_findRings 110 [(0, .ref v0), (1, .int (v1 + 1))] [] (si M w2 13 (w1 ||| w0)) b (QV K)) : X mLi_findRings 144 [(0, .ref v0), (1, .int v1)] [.int w0, .int w1, .ref w2] M b (QV K) := by
  refine x_wf (fun hw => ?_)
  refine x_ior (pc := 144) dLi_findRings_144 ?_
  refine x_putI (pc := 145) dLi_findRings_145 kw2 flLi_108 rfl rfl ?_
  refine x_iinc (pc := 148) dLi_findRings_148 (q := 1) rfl (v := v1 + 1) rfl (by decide) (L' := [(1, .int (v1 + 1)), (0, .ref v0)]) rfl ?_
  refine x_goto (pc := 151) dLi_findRings_151 (t := 110) rfl ?_
  exact x_loc [1, 0] rfl h

theorem dLi_speakInOrder_0 : decode (mB mLi_speakInOrder) 0 = .ok (.aload_n 0, 1) := op42 (by decide +kernel)
theorem dLi_speakInOrder_1 : decode (mB mLi_speakInOrder) 1 = .ok (.getfield 21, 3) := op180 0 21 (by decide +kernel)
theorem dLi_speakInOrder_4 : decode (mB mLi_speakInOrder) 4 = .ok (.iconst 0, 1) := op3 (by decide +kernel)
theorem dLi_speakInOrder_5 : decode (mB mLi_speakInOrder) 5 = .ok (.invokestatic 59, 3) := op184 0 59 (by decide +kernel)
theorem dLi_speakInOrder_8 : decode (mB mLi_speakInOrder) 8 = .ok (.aload_n 0, 1) := op42 (by decide +kernel)
theorem dLi_speakInOrder_9 : decode (mB mLi_speakInOrder) 9 = .ok (.getfield 24, 3) := op180 0 24 (by decide +kernel)
theorem dLi_speakInOrder_12 : decode (mB mLi_speakInOrder) 12 = .ok (.iconst 0, 1) := op3 (by decide +kernel)
theorem dLi_speakInOrder_13 : decode (mB mLi_speakInOrder) 13 = .ok (.invokestatic 59, 3) := op184 0 59 (by decide +kernel)
theorem dLi_speakInOrder_16 : decode (mB mLi_speakInOrder) 16 = .ok (.aload_n 0, 1) := op42 (by decide +kernel)
theorem dLi_speakInOrder_17 : decode (mB mLi_speakInOrder) 17 = .ok (.getfield 108, 3) := op180 0 108 (by decide +kernel)
theorem dLi_speakInOrder_20 : decode (mB mLi_speakInOrder) 20 = .ok (.istore_n 1, 1) := op60 (by decide +kernel)
theorem dLi_speakInOrder_21 : decode (mB mLi_speakInOrder) 21 = .ok (.iconst 0, 1) := op3 (by decide +kernel)
theorem dLi_speakInOrder_22 : decode (mB mLi_speakInOrder) 22 = .ok (.istore_n 2, 1) := op61 (by decide +kernel)
theorem dLi_speakInOrder_23 : decode (mB mLi_speakInOrder) 23 = .ok (.iload_n 2, 1) := op28 (by decide +kernel)
theorem dLi_speakInOrder_24 : decode (mB mLi_speakInOrder) 24 = .ok (.aload_n 0, 1) := op42 (by decide +kernel)
theorem dLi_speakInOrder_25 : decode (mB mLi_speakInOrder) 25 = .ok (.getfield 55, 3) := op180 0 55 (by decide +kernel)
theorem dLi_speakInOrder_28 : decode (mB mLi_speakInOrder) 28 = .ok (.if_icmp .ge 57, 3) := op162 0 57 (by decide +kernel)
theorem dLi_speakInOrder_31 : decode (mB mLi_speakInOrder) 31 = .ok (.iconst 0, 1) := op3 (by decide +kernel)
theorem dLi_speakInOrder_32 : decode (mB mLi_speakInOrder) 32 = .ok (.istore_n 3, 1) := op62 (by decide +kernel)
theorem dLi_speakInOrder_33 : decode (mB mLi_speakInOrder) 33 = .ok (.iload_n 3, 1) := op29 (by decide +kernel)
theorem dLi_speakInOrder_34 : decode (mB mLi_speakInOrder) 34 = .ok (.aload_n 0, 1) := op42 (by decide +kernel)
theorem dLi_speakInOrder_35 : decode (mB mLi_speakInOrder) 35 = .ok (.getfield 55, 3) := op180 0 55 (by decide +kernel)
theorem dLi_speakInOrder_38 : decode (mB mLi_speakInOrder) 38 = .ok (.if_icmp .ge 41, 3) := op162 0 41 (by decide +kernel)
theorem dLi_speakInOrder_41 : decode (mB mLi_speakInOrder) 41 = .ok (.iload_n 1, 1) := op27 (by decide +kernel)
theorem dLi_speakInOrder_42 : decode (mB mLi_speakInOrder) 42 = .ok (.iload_n 3, 1) := op29 (by decide +kernel)
theorem dLi_speakInOrder_43 : decode (mB mLi_speakInOrder) 43 = .ok (.invokestatic 101, 3) := op184 0 101 (by decide +kernel)
theorem dLi_speakInOrder_46 : decode (mB mLi_speakInOrder) 46 = .ok (.ifCond .ne 27, 3) := op154 0 27 (by decide +kernel)
theorem dLi_speakInOrder_49 : decode (mB mLi_speakInOrder) 49 = .ok (.aload_n 0, 1) := op42 (by decide +kernel)
theorem dLi_speakInOrder_50 : decode (mB mLi_speakInOrder) 50 = .ok (.getfield 42, 3) := op180 0 42 (by decide +kernel)
theorem dLi_speakInOrder_53 : decode (mB mLi_speakInOrder) 53 = .ok (.iload_n 3, 1) := op29 (by decide +kernel)
theorem dLi_speakInOrder_54 : decode (mB mLi_speakInOrder) 54 = .ok (.iaload, 1) := op46 (by decide +kernel)
theorem dLi_speakInOrder_55 : decode (mB mLi_speakInOrder) 55 = .ok (.iload_n 1, 1) := op27 (by decide +kernel)
theorem dLi_speakInOrder_56 : decode (mB mLi_speakInOrder) 56 = .ok (.iconst (-1), 1) := op2 (by decide +kernel)
theorem dLi_speakInOrder_57 : decode (mB mLi_speakInOrder) 57 = .ok (.ixor, 1) := op130 (by decide +kernel)
theorem dLi_speakInOrder_58 : decode (mB mLi_speakInOrder) 58 = .ok (.iand, 1) := op126 (by decide +kernel)
theorem dLi_speakInOrder_59 : decode (mB mLi_speakInOrder) 59 = .ok (.ifCond .ne 14, 3) := op154 0 14 (by decide +kernel)
theorem dLi_speakInOrder_62 : decode (mB mLi_speakInOrder) 62 = .ok (.aload_n 0, 1) := op42 (by decide +kernel)
theorem dLi_speakInOrder_63 : decode (mB mLi_speakInOrder) 63 = .ok (.iload_n 3, 1) := op29 (by decide +kernel)
theorem dLi_speakInOrder_64 : decode (mB mLi_speakInOrder) 64 = .ok (.invokevirtual 111, 3) := op182 0 111 (by decide +kernel)
theorem dLi_speakInOrder_67 : decode (mB mLi_speakInOrder) 67 = .ok (.iload_n 1, 1) := op27 (by decide +kernel)
theorem dLi_speakInOrder_68 : decode (mB mLi_speakInOrder) 68 = .ok (.iconst 1, 1) := op4 (by decide +kernel)
theorem dLi_speakInOrder_69 : decode (mB mLi_speakInOrder) 69 = .ok (.iload_n 3, 1) := op29 (by decide +kernel)
theorem dLi_speakInOrder_70 : decode (mB mLi_speakInOrder) 70 = .ok (.ishl, 1) := op120 (by decide +kernel)
theorem dLi_speakInOrder_71 : decode (mB mLi_speakInOrder) 71 = .ok (.ior, 1) := op128 (by decide +kernel)
theorem dLi_speakInOrder_72 : decode (mB mLi_speakInOrder) 72 = .ok (.istore_n 1, 1) := op60 (by decide +kernel)
theorem dLi_speakInOrder_73 : decode (mB mLi_speakInOrder) 73 = .ok (.iinc 3 1, 3) := op132 3 1 (by decide +kernel)
theorem dLi_speakInOrder_76 : decode (mB mLi_speakInOrder) 76 = .ok (.goto (-43), 3) := op167 255 213 (by decide +kernel)
theorem dLi_speakInOrder_79 : decode (mB mLi_speakInOrder) 79 = .ok (.iinc 2 1, 3) := op132 2 1 (by decide +kernel)
theorem dLi_speakInOrder_82 : decode (mB mLi_speakInOrder) 82 = .ok (.goto (-59), 3) := op167 255 197 (by decide +kernel)
theorem dLi_speakInOrder_85 : decode (mB mLi_speakInOrder) 85 = .ok (.iconst 0, 1) := op3 (by decide +kernel)
theorem dLi_speakInOrder_86 : decode (mB mLi_speakInOrder) 86 = .ok (.istore_n 2, 1) := op61 (by decide +kernel)
theorem dLi_speakInOrder_87 : decode (mB mLi_speakInOrder) 87 = .ok (.iload_n 2, 1) := op28 (by decide +kernel)
theorem dLi_speakInOrder_88 : decode (mB mLi_speakInOrder) 88 = .ok (.aload_n 0, 1) := op42 (by decide +kernel)
theorem dLi_speakInOrder_89 : decode (mB mLi_speakInOrder) 89 = .ok (.getfield 55, 3) := op180 0 55 (by decide +kernel)
theorem dLi_speakInOrder_92 : decode (mB mLi_speakInOrder) 92 = .ok (.if_icmp .ge 31, 3) := op162 0 31 (by decide +kernel)
theorem dLi_speakInOrder_95 : decode (mB mLi_speakInOrder) 95 = .ok (.aload_n 0, 1) := op42 (by decide +kernel)
theorem dLi_speakInOrder_96 : decode (mB mLi_speakInOrder) 96 = .ok (.getfield 108, 3) := op180 0 108 (by decide +kernel)
theorem dLi_speakInOrder_99 : decode (mB mLi_speakInOrder) 99 = .ok (.iload_n 2, 1) := op28 (by decide +kernel)
theorem dLi_speakInOrder_100 : decode (mB mLi_speakInOrder) 100 = .ok (.invokestatic 101, 3) := op184 0 101 (by decide +kernel)
theorem dLi_speakInOrder_103 : decode (mB mLi_speakInOrder) 103 = .ok (.ifCond .eq 14, 3) := op153 0 14 (by decide +kernel)
theorem dLi_speakInOrder_106 : decode (mB mLi_speakInOrder) 106 = .ok (.aload_n 0, 1) := op42 (by decide +kernel)
theorem dLi_speakInOrder_107 : decode (mB mLi_speakInOrder) 107 = .ok (.getfield 11, 3) := op180 0 11 (by decide +kernel)
theorem dLi_speakInOrder_110 : decode (mB mLi_speakInOrder) 110 = .ok (.iload_n 2, 1) := op28 (by decide +kernel)
theorem dLi_speakInOrder_111 : decode (mB mLi_speakInOrder) 111 = .ok (.aaload, 1) := op50 (by decide +kernel)
theorem dLi_speakInOrder_112 : decode (mB mLi_speakInOrder) 112 = .ok (.bipush (-4), 2) := op16 252 (by decide +kernel)
theorem dLi_speakInOrder_114 : decode (mB mLi_speakInOrder) 114 = .ok (.putfield 115, 3) := op181 0 115 (by decide +kernel)
theorem dLi_speakInOrder_117 : decode (mB mLi_speakInOrder) 117 = .ok (.iinc 2 1, 3) := op132 2 1 (by decide +kernel)
theorem dLi_speakInOrder_120 : decode (mB mLi_speakInOrder) 120 = .ok (.goto (-33), 3) := op167 255 223 (by decide +kernel)
theorem dLi_speakInOrder_123 : decode (mB mLi_speakInOrder) 123 = .ok (.return_, 1) := op177 (by decide +kernel)

theorem vLi_speakInOrder_0 {M : Mm} {b : Nat × Nat} {K : Mm → Prop} {v0 : Nat} {r1 : Nat} (kv0 : v0 % 64 = 1) (e1 : gr M v0 3 = some r1)
    (h : CV mJr_fill [.ref r1, .int 0] M (fun N => X mLi_speakInOrder 8 [(0, .ref v0)] [] N b (QV K))) : X mLi_speakInOrder 0 [(0, .ref v0)] [] M b (QV K) := by
  refine x_wf (fun hw => ?_)
  refine x_aload_n (pc := 0) dLi_speakInOrder_0 rfl (q := 0) rfl ?_
  refine x_getR (pc := 1) dLi_speakInOrder_1 kv0 flLi_21 rfl e1 ?_
  refine x_iconst (pc := 4) dLi_speakInOrder_4 (v := 0) rfl ?_
  exact x_invS (pc := 5) dLi_speakInOrder_5 (S := []) (As := [.ref r1, .int 0]) mlLi_59 hJr_fill rfl ⟨by decide, by decide⟩ ⟨Nat.zero_le _, Nat.zero_le _⟩ rfl (Nat.le_of_ble_eq_true rfl) (aftV (b' := b) ⟨Nat.le_refl _, Nat.le_refl _⟩ (fun N h => h) h)

theorem vLi_speakInOrder_8 {M : Mm} {b : Nat × Nat} {K : Mm → Prop} {v0 : Nat} {r1 : Nat} (kv0 : v0 % 64 = 1) (e1 : gr M v0 4 = some r1)
    (h : CV mJr_fill [.ref r1, .int 0] M (fun N => X mLi_speakInOrder 16 [(0, .ref v0)] [] N b (QV K))) : X mLi_speakInOrder 8 [(0, .ref v0)] [] M b (QV K) := by
  refine x_wf (fun hw => ?_)
  refine x_aload_n (pc := 8) dLi_speakInOrder_8 rfl (q := 0) rfl ?_
  refine x_getR (pc := 9) dLi_speakInOrder_9 kv0 flLi_24 rfl e1 ?_
  refine x_iconst (pc := 12) dLi_speakInOrder_12 (v := 0) rfl ?_
  exact x_invS (pc := 13) dLi_speakInOrder_13 (S := []) (As := [.ref r1, .int 0]) mlLi_59 hJr_fill rfl ⟨by decide, by decide⟩ ⟨Nat.zero_le _, Nat.zero_le _⟩ rfl (Nat.le_of_ble_eq_true rfl) (aftV (b' := b) ⟨Nat.le_refl _, Nat.le_refl _⟩ (fun N h => h) h)

theorem vLi_speakInOrder_16 {M : Mm} {b : Nat × Nat} {K : Mm → Prop} {v0 : Nat} (kv0 : v0 % 64 = 1) 
    (h : X mLi_speakInOrder 23 [(0, .ref v0), (1, .int (gi M v0 13)), (2, .int 0)] [] M b (QV K)) : X mLi_speakInOrder 16 [(0, .ref v0)] [] M b (QV K) := by
  refine x_wf (fun hw => ?_)
  refine x_aload_n (pc := 16) dLi_speakInOrder_16 rfl (q := 0) rfl ?_
  refine x_getI (pc := 17) dLi_speakInOrder_17 kv0 flLi_108 rfl ?_
  refine x_istore_n (pc := 20) dLi_speakInOrder_20 rfl (by decide) (L' := [(1, .int (gi M v0 13)), (0, .ref v0)]) rfl ?_
  refine x_iconst (pc := 21) dLi_speakInOrder_21 (v := 0) rfl ?_
  refine x_istore_n (pc := 22) dLi_speakInOrder_22 rfl (by decide) (L' := [(2, .int 0), (1, .int (gi M v0 13)), (0, .ref v0)]) rfl ?_
  exact x_loc [2, 1, 0] rfl h

theorem vLi_speakInOrder_23 {M : Mm} {b : Nat × Nat} {K : Mm → Prop} {v0 : Nat} {v1 : Int32} {v2 : Int32} (kv0 : v0 % 64 = 1) 
    (h : ((gi M v0 1) ≤ v2 → (X mLi_speakInOrder 87 [(0, .ref v0), (2, .int 0)] [] M b (QV K))) ∧ (¬ (gi M v0 1) ≤ v2 → (X mLi_speakInOrder 33 [(0, .ref v0), (1, .int v1), (2, .int v2), (3, .int 0)] [] M b (QV K)))) : X mLi_speakInOrder 23 [(0, .ref v0), (1, .int v1), (2, .int v2)] [] M b (QV K) := by
  refine x_wf (fun hw => ?_)
  refine x_iload_n (pc := 23) dLi_speakInOrder_23 rfl (q := 2) rfl ?_
  refine x_aload_n (pc := 24) dLi_speakInOrder_24 rfl (q := 0) rfl ?_
  refine x_getI (pc := 25) dLi_speakInOrder_25 kv0 flLi_55 rfl ?_
  obtain ⟨g1_0, g1_1⟩ := h
  refine x_icmp_ge (pc := 28) dLi_speakInOrder_28 (t := 85) rfl (fun q1 => ?_) (fun q1 => ?_)
  · refine x_iconst (pc := 85) dLi_speakInOrder_85 (v := 0) rfl ?_
    have h := g1_0 q1
    refine x_istore_n (pc := 86) dLi_speakInOrder_86 rfl (by decide) (L' := [(2, .int 0), (0, .ref v0), (1, .int v1)]) rfl ?_
    exact x_loc [1, 0] rfl h
  · refine x_iconst (pc := 31) dLi_speakInOrder_31 (v := 0) rfl ?_
    have h := g1_1 q1
    refine x_istore_n (pc := 32) dLi_speakInOrder_32 rfl (by decide) (L' := [(3, .int 0), (0, .ref v0), (1, .int v1), (2, .int v2)]) rfl ?_
    exact x_loc [1, 2, 3, 0] rfl h

theorem vLi_speakInOrder_33 {M : Mm} {b : Nat × Nat} {K : Mm → Prop} {v0 : Nat} {v1 : Int32} {v2 : Int32} {v3 : Int32} (kv0 : v0 % 64 = 1) 
    (h : ((gi M v0 1) ≤ v3 → (X mLi_speakInOrder 23 [(0, .ref v0), (1, .int v1), (2, .int (v2 + 1))] [] M b (QV K))) ∧ (¬ (gi M v0 1) ≤ v3 → (CI mC_holds [.int v1, .int v3] M (fun rv N => X mLi_speakInOrder 46 [(0, .ref v0), (1, .int v1), (2, .int v2), (3, .int v3)] [.int rv] N b (QV K))))) : X mLi_speakInOrder 33 [(0, .ref v0), (1, .int v1), (2, .int v2), (3, .int v3)] [] M b (QV K) := by
  refine x_wf (fun hw => ?_)
  refine x_iload_n (pc := 33) dLi_speakInOrder_33 rfl (q := 3) rfl ?_
  refine x_aload_n (pc := 34) dLi_speakInOrder_34 rfl (q := 0) rfl ?_
  refine x_getI (pc := 35) dLi_speakInOrder_35 kv0 flLi_55 rfl ?_
  obtain ⟨g1_0, g1_1⟩ := h
  refine x_icmp_ge (pc := 38) dLi_speakInOrder_38 (t := 79) rfl (fun q1 => ?_) (fun q1 => ?_)
  · have h := g1_0 q1
    refine x_iinc (pc := 79) dLi_speakInOrder_79 (q := 2) rfl (v := v2 + 1) rfl (by decide) (L' := [(2, .int (v2 + 1)), (0, .ref v0), (1, .int v1), (3, .int v3)]) rfl ?_
    refine x_goto (pc := 82) dLi_speakInOrder_82 (t := 23) rfl ?_
    exact x_loc [1, 2, 0] rfl h
  · refine x_iload_n (pc := 41) dLi_speakInOrder_41 rfl (q := 1) rfl ?_
    refine x_iload_n (pc := 42) dLi_speakInOrder_42 rfl (q := 3) rfl ?_
    have h := g1_1 q1
    exact x_invSN (pc := 43) dLi_speakInOrder_43 (S := []) (As := [.int v1, .int v3]) nlLi_101 hC_holds rfl ⟨by decide, by decide⟩ ⟨Nat.zero_le _, Nat.zero_le _⟩ rfl (Nat.le_of_ble_eq_true rfl) (aftI (b' := b) ⟨Nat.le_refl _, Nat.le_refl _⟩ (fun rv N h => h) h)

theorem vLi_speakInOrder_46 {M : Mm} {b : Nat × Nat} {K : Mm → Prop} {v0 : Nat} {v1 : Int32} {v2 : Int32} {v3 : Int32} {w0 : Int32} {r1 : Nat} (kv0 : v0 % 64 = 1) (e1 : gr M v0 14 = some r1)
    (h : (w0 = 0 → vp_in v3 24) ∧ (((¬ w0 = 0) ∨ (w0 = 0 ∧ ¬ ((gi M r1 (v3).toNatClampNeg) &&& (v1 ^^^ (-1))) = 0)) → (X mLi_speakInOrder 33 [(0, .ref v0), (1, .int v1), (2, .int v2), (3, .int (v3 + 1))] [] M b (QV K))) ∧ ((w0 = 0 ∧ ((gi M r1 (v3).toNatClampNeg) &&& (v1 ^^^ (-1))) = 0) → (CV mLi_speak [.ref v0, .int v3] M (fun N => X mLi_speakInOrder 67 [(0, .ref v0), (1, .int v1), (2, .int v2), (3, .int v3)] [] N b (QV K))))) : X mLi_speakInOrder 46 [(0, .ref v0), (1, .int v1), (2, .int v2), (3, .int v3)] [.int w0] M b (QV K) := by
  refine x_wf (fun hw => ?_)
  obtain ⟨s1, g1_0, g1_1⟩ := h
  have g1_k0 : (¬ w0 = 0) ∨ (w0 = 0 ∧ ¬ ((gi M r1 (v3).toNatClampNeg) &&& (v1 ^^^ (-1))) = 0) → X mLi_speakInOrder 73 [(0, .ref v0), (1, .int v1), (2, .int v2), (3, .int v3)] [] M b (QV K) := fun q => by
    have h := g1_0 q
    refine x_iinc (pc := 73) dLi_speakInOrder_73 (q := 3) rfl (v := v3 + 1) rfl (by decide) (L' := [(3, .int (v3 + 1)), (0, .ref v0), (1, .int v1), (2, .int v2)]) rfl ?_
    refine x_goto (pc := 76) dLi_speakInOrder_76 (t := 33) rfl ?_
    exact x_loc [1, 2, 3, 0] rfl h
  refine x_if_ne (pc := 46) dLi_speakInOrder_46 (t := 73) rfl (fun q1 => ?_) (fun q1 => ?_)
  · exact g1_k0 (Or.inl q1)
  · refine x_aload_n (pc := 49) dLi_speakInOrder_49 rfl (q := 0) rfl ?_
    refine x_getR (pc := 50) dLi_speakInOrder_50 kv0 flLi_42 rfl e1 ?_
    refine x_iload_n (pc := 53) dLi_speakInOrder_53 rfl (q := 3) rfl ?_
    refine x_aldIj (pc := 54) (j := (v3).toNatClampNeg) (Or.inl ⟨rfl, rfl⟩) dLi_speakInOrder_54 (wfk hw e1 kv0) ak_12 rfl (s1 q1) ?_
    refine x_iload_n (pc := 55) dLi_speakInOrder_55 rfl (q := 1) rfl ?_
    refine x_iconst (pc := 56) dLi_speakInOrder_56 (v := (-1)) rfl ?_
    refine x_ixor (pc := 57) dLi_speakInOrder_57 ?_
    refine x_iand (pc := 58) dLi_speakInOrder_58 ?_
    refine x_if_ne (pc := 59) dLi_speakInOrder_59 (t := 73) rfl (fun q2 => ?_) (fun q2 => ?_)
    · exact g1_k0 (Or.inr ⟨q1, q2⟩)
    · refine x_aload_n (pc := 62) dLi_speakInOrder_62 rfl (q := 0) rfl ?_
      refine x_iload_n (pc := 63) dLi_speakInOrder_63 rfl (q := 3) rfl ?_
      have h := g1_1 ⟨q1, q2⟩
      exact x_invV (pc := 64) dLi_speakInOrder_64 (c := 1) (S := []) (As := [.int v3]) mlLi_111 hLi_speak rfl (by decide) rfl kv0 ⟨by decide, by decide⟩ ⟨Nat.zero_le _, Nat.zero_le _⟩ rfl (Nat.le_of_ble_eq_true rfl) (aftV (b' := b) ⟨Nat.le_refl _, Nat.le_refl _⟩ (fun N h => h) h)

theorem vLi_speakInOrder_67 {M : Mm} {b : Nat × Nat} {K : Mm → Prop} {v0 : Nat} {v1 : Int32} {v2 : Int32} {v3 : Int32}  
    (h : X mLi_speakInOrder 33 [(0, .ref v0), (1, .int (v1 ||| ((1 : Int32) <<< (v3 &&& 31)))), (2, .int v2), (3, .int (v3 + 1))] [] M b (QV K)) : X mLi_speakInOrder 67 [(0, .ref v0), (1, .int v1), (2, .int v2), (3, .int v3)] [] M b (QV K) := by
  refine x_wf (fun hw => ?_)
  refine x_iload_n (pc := 67) dLi_speakInOrder_67 rfl (q := 1) rfl ?_
  refine x_iconst (pc := 68) dLi_speakInOrder_68 (v := 1) rfl ?_
  refine x_iload_n (pc := 69) dLi_speakInOrder_69 rfl (q := 3) rfl ?_
  refine x_ishl (pc := 70) dLi_speakInOrder_70 ?_
  refine x_ior (pc := 71) dLi_speakInOrder_71 ?_
  refine x_istore_n (pc := 72) dLi_speakInOrder_72 rfl (by decide) (L' := [(1, .int (v1 ||| ((1 : Int32) <<< (v3 &&& 31)))), (0, .ref v0), (2, .int v2), (3, .int v3)]) rfl ?_
  refine x_iinc (pc := 73) dLi_speakInOrder_73 (q := 3) rfl (v := v3 + 1) rfl (by decide) (L' := [(3, .int (v3 + 1)), (1, .int (v1 ||| ((1 : Int32) <<< (v3 &&& 31)))), (0, .ref v0), (2, .int v2)]) rfl ?_
  refine x_goto (pc := 76) dLi_speakInOrder_76 (t := 33) rfl ?_
  exact x_loc [2, 1, 3, 0] rfl h

theorem vLi_speakInOrder_87 {M : Mm} {b : Nat × Nat} {K : Mm → Prop} {v0 : Nat} {v2 : Int32} (kv0 : v0 % 64 = 1) 
    (h : ((gi M v0 1) ≤ v2 → (K M)) ∧ (¬ (gi M v0 1) ≤ v2 → (CI mC_holds [.int (gi M v0 13), .int v2] M (fun rv N => X mLi_speakInOrder 103 [(0, .ref v0), (2, .int v2)] [.int rv] N b (QV K))))) : X mLi_speakInOrder 87 [(0, .ref v0), (2, .int v2)] [] M b (QV K) := by
  refine x_wf (fun hw => ?_)
  refine x_iload_n (pc := 87) dLi_speakInOrder_87 rfl (q := 1) rfl ?_
  refine x_aload_n (pc := 88) dLi_speakInOrder_88 rfl (q := 0) rfl ?_
  refine x_getI (pc := 89) dLi_speakInOrder_89 kv0 flLi_55 rfl ?_
  obtain ⟨g1_0, g1_1⟩ := h
  refine x_icmp_ge (pc := 92) dLi_speakInOrder_92 (t := 123) rfl (fun q1 => ?_) (fun q1 => ?_)
  · have h := g1_0 q1
    exact x_retQV (pc := 123) dLi_speakInOrder_123 rfl h
  · refine x_aload_n (pc := 95) dLi_speakInOrder_95 rfl (q := 0) rfl ?_
    refine x_getI (pc := 96) dLi_speakInOrder_96 kv0 flLi_108 rfl ?_
    refine x_iload_n (pc := 99) dLi_speakInOrder_99 rfl (q := 1) rfl ?_
    have h := g1_1 q1
    exact x_invSN (pc := 100) dLi_speakInOrder_100 (S := []) (As := [.int (gi M v0 13), .int v2]) nlLi_101 hC_holds rfl ⟨by decide, by decide⟩ ⟨Nat.zero_le _, Nat.zero_le _⟩ rfl (Nat.le_of_ble_eq_true rfl) (aftI (b' := b) ⟨Nat.le_refl _, Nat.le_refl _⟩ (fun rv N h => h) h)

theorem vLi_speakInOrder_103 {M : Mm} {b : Nat × Nat} {K : Mm → Prop} {v0 : Nat} {v2 : Int32} {w0 : Int32} {r1 : Nat} (kv0 : v0 % 64 = 1) (e1 : gr M v0 0 = some r1)
    (h : (w0 = 0 → (X mLi_speakInOrder 87 [(0, .ref v0), (2, .int (v2 + 1))] [] M b (QV K))) ∧ (¬ w0 = 0 → (vp_in v2 24 ∧ (∃ r2 : Nat, gr M r1 (v2).toNatClampNeg = some r2 ∧ (X mLi_speakInOrder 87 [(0, .ref v0), (2, .int (v2 + 1))] [] (si M r2 10 (-4)) b (QV K)))))) : X mLi_speakInOrder 103 [(0, .ref v0), (2, .int v2)] [.int w0] M b (QV K) := by
  refine x_wf (fun hw => ?_)
  obtain ⟨g1_0, g1_1⟩ := h
  refine x_if_eq (pc := 103) dLi_speakInOrder_103 (t := 117) rfl (fun q1 => ?_) (fun q1 => ?_)
  · have h := g1_0 q1
    refine x_iinc (pc := 117) dLi_speakInOrder_117 (q := 1) rfl (v := v2 + 1) rfl (by decide) (L' := [(2, .int (v2 + 1)), (0, .ref v0)]) rfl ?_
    refine x_goto (pc := 120) dLi_speakInOrder_120 (t := 87) rfl ?_
    exact x_loc [1, 0] rfl h
  · refine x_aload_n (pc := 106) dLi_speakInOrder_106 rfl (q := 0) rfl ?_
    refine x_getR (pc := 107) dLi_speakInOrder_107 kv0 flLi_11 rfl e1 ?_
    refine x_iload_n (pc := 110) dLi_speakInOrder_110 rfl (q := 1) rfl ?_
    have h := g1_1 q1
    obtain ⟨s501, h⟩ := h
    obtain ⟨r2, s502, h⟩ := h
    refine x_aldR (pc := 111) (Or.inl rfl) dLi_speakInOrder_111 (wfk hw e1 kv0) ak_18 s501 s502 ?_
    refine x_bipush (pc := 112) dLi_speakInOrder_112 (v := (-4)) rfl ?_
    refine x_putI (pc := 114) dLi_speakInOrder_114 (wfk hw s502 (wfk hw e1 kv0)) flLi_115 rfl rfl ?_
    refine x_iinc (pc := 117) dLi_speakInOrder_117 (q := 1) rfl (v := v2 + 1) rfl (by decide) (L' := [(2, .int (v2 + 1)), (0, .ref v0)]) rfl ?_
    refine x_goto (pc := 120) dLi_speakInOrder_120 (t := 87) rfl ?_
    exact x_loc [1, 0] rfl h

theorem dLi_speak_0 : decode (mB mLi_speak) 0 = .ok (.aload_n 0, 1) := op42 (by decide +kernel)
theorem dLi_speak_1 : decode (mB mLi_speak) 1 = .ok (.getfield 11, 3) := op180 0 11 (by decide +kernel)
theorem dLi_speak_4 : decode (mB mLi_speak) 4 = .ok (.iload_n 1, 1) := op27 (by decide +kernel)
theorem dLi_speak_5 : decode (mB mLi_speak) 5 = .ok (.aaload, 1) := op50 (by decide +kernel)
theorem dLi_speak_6 : decode (mB mLi_speak) 6 = .ok (.astore_n 2, 1) := op77 (by decide +kernel)
theorem dLi_speak_7 : decode (mB mLi_speak) 7 = .ok (.aload_n 2, 1) := op44 (by decide +kernel)
theorem dLi_speak_8 : decode (mB mLi_speak) 8 = .ok (.getfield 118, 3) := op180 0 118 (by decide +kernel)
theorem dLi_speak_11 : decode (mB mLi_speak) 11 = .ok (.istore_n 3, 1) := op62 (by decide +kernel)
theorem dLi_speak_12 : decode (mB mLi_speak) 12 = .ok (.aload_n 2, 1) := op44 (by decide +kernel)
theorem dLi_speak_13 : decode (mB mLi_speak) 13 = .ok (.getfield 95, 3) := op180 0 95 (by decide +kernel)
theorem dLi_speak_16 : decode (mB mLi_speak) 16 = .ok (.iconst 4, 1) := op7 (by decide +kernel)
theorem dLi_speak_17 : decode (mB mLi_speak) 17 = .ok (.if_icmp .ne 39, 3) := op160 0 39 (by decide +kernel)
theorem dLi_speak_20 : decode (mB mLi_speak) 20 = .ok (.aload_n 0, 1) := op42 (by decide +kernel)
theorem dLi_speak_21 : decode (mB mLi_speak) 21 = .ok (.getfield 21, 3) := op180 0 21 (by decide +kernel)
theorem dLi_speak_24 : decode (mB mLi_speak) 24 = .ok (.aload_n 2, 1) := op44 (by decide +kernel)
theorem dLi_speak_25 : decode (mB mLi_speak) 25 = .ok (.getfield 121, 3) := op180 0 121 (by decide +kernel)
theorem dLi_speak_28 : decode (mB mLi_speak) 28 = .ok (.iaload, 1) := op46 (by decide +kernel)
theorem dLi_speak_29 : decode (mB mLi_speak) 29 = .ok (.aload_n 0, 1) := op42 (by decide +kernel)
theorem dLi_speak_30 : decode (mB mLi_speak) 30 = .ok (.getfield 42, 3) := op180 0 42 (by decide +kernel)
theorem dLi_speak_33 : decode (mB mLi_speak) 33 = .ok (.iload_n 1, 1) := op27 (by decide +kernel)
theorem dLi_speak_34 : decode (mB mLi_speak) 34 = .ok (.iaload, 1) := op46 (by decide +kernel)
theorem dLi_speak_35 : decode (mB mLi_speak) 35 = .ok (.iand, 1) := op126 (by decide +kernel)
theorem dLi_speak_36 : decode (mB mLi_speak) 36 = .ok (.aload_n 0, 1) := op42 (by decide +kernel)
theorem dLi_speak_37 : decode (mB mLi_speak) 37 = .ok (.getfield 24, 3) := op180 0 24 (by decide +kernel)
theorem dLi_speak_40 : decode (mB mLi_speak) 40 = .ok (.aload_n 2, 1) := op44 (by decide +kernel)
theorem dLi_speak_41 : decode (mB mLi_speak) 41 = .ok (.getfield 121, 3) := op180 0 121 (by decide +kernel)
theorem dLi_speak_44 : decode (mB mLi_speak) 44 = .ok (.iaload, 1) := op46 (by decide +kernel)
theorem dLi_speak_45 : decode (mB mLi_speak) 45 = .ok (.aload_n 0, 1) := op42 (by decide +kernel)
theorem dLi_speak_46 : decode (mB mLi_speak) 46 = .ok (.getfield 42, 3) := op180 0 42 (by decide +kernel)
theorem dLi_speak_49 : decode (mB mLi_speak) 49 = .ok (.iload_n 1, 1) := op27 (by decide +kernel)
theorem dLi_speak_50 : decode (mB mLi_speak) 50 = .ok (.iaload, 1) := op46 (by decide +kernel)
theorem dLi_speak_51 : decode (mB mLi_speak) 51 = .ok (.iand, 1) := op126 (by decide +kernel)
theorem dLi_speak_52 : decode (mB mLi_speak) 52 = .ok (.invokestatic 124, 3) := op184 0 124 (by decide +kernel)
theorem dLi_speak_55 : decode (mB mLi_speak) 55 = .ok (.istore_n 3, 1) := op62 (by decide +kernel)
theorem dLi_speak_56 : decode (mB mLi_speak) 56 = .ok (.aload_n 2, 1) := op44 (by decide +kernel)
theorem dLi_speak_57 : decode (mB mLi_speak) 57 = .ok (.getfield 98, 3) := op180 0 98 (by decide +kernel)
theorem dLi_speak_60 : decode (mB mLi_speak) 60 = .ok (.ifCond .lt 21, 3) := op155 0 21 (by decide +kernel)
theorem dLi_speak_63 : decode (mB mLi_speak) 63 = .ok (.aload_n 2, 1) := op44 (by decide +kernel)
theorem dLi_speak_64 : decode (mB mLi_speak) 64 = .ok (.aload_n 0, 1) := op42 (by decide +kernel)
theorem dLi_speak_65 : decode (mB mLi_speak) 65 = .ok (.getfield 11, 3) := op180 0 11 (by decide +kernel)
theorem dLi_speak_68 : decode (mB mLi_speak) 68 = .ok (.aload_n 2, 1) := op44 (by decide +kernel)
theorem dLi_speak_69 : decode (mB mLi_speak) 69 = .ok (.getfield 98, 3) := op180 0 98 (by decide +kernel)
theorem dLi_speak_72 : decode (mB mLi_speak) 72 = .ok (.aaload, 1) := op50 (by decide +kernel)
theorem dLi_speak_73 : decode (mB mLi_speak) 73 = .ok (.getfield 115, 3) := op180 0 115 (by decide +kernel)
theorem dLi_speak_76 : decode (mB mLi_speak) 76 = .ok (.iconst 1, 1) := op4 (by decide +kernel)
theorem dLi_speak_77 : decode (mB mLi_speak) 77 = .ok (.iadd, 1) := op96 (by decide +kernel)
theorem dLi_speak_78 : decode (mB mLi_speak) 78 = .ok (.putfield 115, 3) := op181 0 115 (by decide +kernel)
theorem dLi_speak_81 : decode (mB mLi_speak) 81 = .ok (.iconst 0, 1) := op3 (by decide +kernel)
theorem dLi_speak_82 : decode (mB mLi_speak) 82 = .ok (.istore 4, 2) := op54 4 (by decide +kernel)
theorem dLi_speak_84 : decode (mB mLi_speak) 84 = .ok (.iload 4, 2) := op21 4 (by decide +kernel)
theorem dLi_speak_86 : decode (mB mLi_speak) 86 = .ok (.bipush 64, 2) := op16 64 (by decide +kernel)
theorem dLi_speak_88 : decode (mB mLi_speak) 88 = .ok (.if_icmp .ge 80, 3) := op162 0 80 (by decide +kernel)
theorem dLi_speak_91 : decode (mB mLi_speak) 91 = .ok (.aload_n 2, 1) := op44 (by decide +kernel)
theorem dLi_speak_92 : decode (mB mLi_speak) 92 = .ok (.getfield 98, 3) := op180 0 98 (by decide +kernel)
theorem dLi_speak_95 : decode (mB mLi_speak) 95 = .ok (.ifCond .lt 13, 3) := op155 0 13 (by decide +kernel)
theorem dLi_speak_98 : decode (mB mLi_speak) 98 = .ok (.aload_n 0, 1) := op42 (by decide +kernel)
theorem dLi_speak_99 : decode (mB mLi_speak) 99 = .ok (.aload_n 2, 1) := op44 (by decide +kernel)
theorem dLi_speak_100 : decode (mB mLi_speak) 100 = .ok (.iload 4, 2) := op21 4 (by decide +kernel)
theorem dLi_speak_102 : decode (mB mLi_speak) 102 = .ok (.invokevirtual 128, 3) := op182 0 128 (by decide +kernel)
theorem dLi_speak_105 : decode (mB mLi_speak) 105 = .ok (.goto 10, 3) := op167 0 10 (by decide +kernel)
theorem dLi_speak_108 : decode (mB mLi_speak) 108 = .ok (.aload_n 2, 1) := op44 (by decide +kernel)
theorem dLi_speak_109 : decode (mB mLi_speak) 109 = .ok (.iload_n 3, 1) := op29 (by decide +kernel)
theorem dLi_speak_110 : decode (mB mLi_speak) 110 = .ok (.iload 4, 2) := op21 4 (by decide +kernel)
theorem dLi_speak_112 : decode (mB mLi_speak) 112 = .ok (.invokestatic 132, 3) := op184 0 132 (by decide +kernel)
theorem dLi_speak_115 : decode (mB mLi_speak) 115 = .ok (.istore 5, 2) := op54 5 (by decide +kernel)
theorem dLi_speak_117 : decode (mB mLi_speak) 117 = .ok (.aload_n 0, 1) := op42 (by decide +kernel)
theorem dLi_speak_118 : decode (mB mLi_speak) 118 = .ok (.getfield 21, 3) := op180 0 21 (by decide +kernel)
theorem dLi_speak_121 : decode (mB mLi_speak) 121 = .ok (.iload 4, 2) := op21 4 (by decide +kernel)
theorem dLi_speak_123 : decode (mB mLi_speak) 123 = .ok (.dup2, 1) := op92 (by decide +kernel)
theorem dLi_speak_124 : decode (mB mLi_speak) 124 = .ok (.iaload, 1) := op46 (by decide +kernel)
theorem dLi_speak_125 : decode (mB mLi_speak) 125 = .ok (.iload 5, 2) := op21 5 (by decide +kernel)
theorem dLi_speak_127 : decode (mB mLi_speak) 127 = .ok (.iconst 1, 1) := op4 (by decide +kernel)
theorem dLi_speak_128 : decode (mB mLi_speak) 128 = .ok (.if_icmp .ne 9, 3) := op160 0 9 (by decide +kernel)
theorem dLi_speak_131 : decode (mB mLi_speak) 131 = .ok (.iconst 1, 1) := op4 (by decide +kernel)
theorem dLi_speak_132 : decode (mB mLi_speak) 132 = .ok (.iload_n 1, 1) := op27 (by decide +kernel)
theorem dLi_speak_133 : decode (mB mLi_speak) 133 = .ok (.ishl, 1) := op120 (by decide +kernel)
theorem dLi_speak_134 : decode (mB mLi_speak) 134 = .ok (.goto 4, 3) := op167 0 4 (by decide +kernel)
theorem dLi_speak_137 : decode (mB mLi_speak) 137 = .ok (.iconst 0, 1) := op3 (by decide +kernel)
theorem dLi_speak_138 : decode (mB mLi_speak) 138 = .ok (.ior, 1) := op128 (by decide +kernel)
theorem dLi_speak_139 : decode (mB mLi_speak) 139 = .ok (.iastore, 1) := op79 (by decide +kernel)
theorem dLi_speak_140 : decode (mB mLi_speak) 140 = .ok (.aload_n 0, 1) := op42 (by decide +kernel)
theorem dLi_speak_141 : decode (mB mLi_speak) 141 = .ok (.getfield 24, 3) := op180 0 24 (by decide +kernel)
theorem dLi_speak_144 : decode (mB mLi_speak) 144 = .ok (.iload 4, 2) := op21 4 (by decide +kernel)
theorem dLi_speak_146 : decode (mB mLi_speak) 146 = .ok (.dup2, 1) := op92 (by decide +kernel)
theorem dLi_speak_147 : decode (mB mLi_speak) 147 = .ok (.iaload, 1) := op46 (by decide +kernel)
theorem dLi_speak_148 : decode (mB mLi_speak) 148 = .ok (.iload 5, 2) := op21 5 (by decide +kernel)
theorem dLi_speak_150 : decode (mB mLi_speak) 150 = .ok (.ifCond .ne 9, 3) := op154 0 9 (by decide +kernel)
theorem dLi_speak_153 : decode (mB mLi_speak) 153 = .ok (.iconst 1, 1) := op4 (by decide +kernel)
theorem dLi_speak_154 : decode (mB mLi_speak) 154 = .ok (.iload_n 1, 1) := op27 (by decide +kernel)
theorem dLi_speak_155 : decode (mB mLi_speak) 155 = .ok (.ishl, 1) := op120 (by decide +kernel)
theorem dLi_speak_156 : decode (mB mLi_speak) 156 = .ok (.goto 4, 3) := op167 0 4 (by decide +kernel)
theorem dLi_speak_159 : decode (mB mLi_speak) 159 = .ok (.iconst 0, 1) := op3 (by decide +kernel)
theorem dLi_speak_160 : decode (mB mLi_speak) 160 = .ok (.ior, 1) := op128 (by decide +kernel)
theorem dLi_speak_161 : decode (mB mLi_speak) 161 = .ok (.iastore, 1) := op79 (by decide +kernel)
theorem dLi_speak_162 : decode (mB mLi_speak) 162 = .ok (.iinc 4 1, 3) := op132 4 1 (by decide +kernel)
theorem dLi_speak_165 : decode (mB mLi_speak) 165 = .ok (.goto (-81), 3) := op167 255 175 (by decide +kernel)
theorem dLi_speak_168 : decode (mB mLi_speak) 168 = .ok (.return_, 1) := op177 (by decide +kernel)

theorem vLi_speak_0 {M : Mm} {b : Nat × Nat} {K : Mm → Prop} {v0 : Nat} {v1 : Int32} {r1 : Nat} {r3 : Nat} {r4 : Nat} {r5 : Nat} (kv0 : v0 % 64 = 1) (e1 : gr M v0 0 = some r1) (e3 : gr M v0 3 = some r3) (e4 : gr M v0 14 = some r4) (e5 : gr M v0 4 = some r5)
    (h : vp_in v1 24 ∧ (∃ r2 : Nat, gr M r1 (v1).toNatClampNeg = some r2 ∧ (((gi M r2 0) = 4 → vp_in (gi M r2 3) 64) ∧ ((gi M r2 0) = 4 → vp_in v1 24) ∧ ((gi M r2 0) = 4 → vp_in (gi M r2 3) 64) ∧ ((gi M r2 0) = 4 → vp_in v1 24) ∧ (¬ (gi M r2 0) = 4 → (X mLi_speak 56 [(0, .ref v0), (1, .int v1), (2, .ref r2), (3, .int (gi M r2 5))] [] M b (QV K))) ∧ ((gi M r2 0) = 4 → (CI mC_agreed [.int ((gi M r3 (gi M r2 3).toNatClampNeg) &&& (gi M r4 (v1).toNatClampNeg)), .int ((gi M r5 (gi M r2 3).toNatClampNeg) &&& (gi M r4 (v1).toNatClampNeg))] M (fun rv N => X mLi_speak 55 [(0, .ref v0), (1, .int v1), (2, .ref r2)] [.int rv] N b (QV K))))))) : X mLi_speak 0 [(0, .ref v0), (1, .int v1)] [] M b (QV K) := by
  refine x_wf (fun hw => ?_)
  refine x_aload_n (pc := 0) dLi_speak_0 rfl (q := 0) rfl ?_
  refine x_getR (pc := 1) dLi_speak_1 kv0 flLi_11 rfl e1 ?_
  refine x_iload_n (pc := 4) dLi_speak_4 rfl (q := 1) rfl ?_
  obtain ⟨s501, h⟩ := h
  obtain ⟨r2, s502, h⟩ := h
  refine x_aldR (pc := 5) (Or.inl rfl) dLi_speak_5 (wfk hw e1 kv0) ak_18 s501 s502 ?_
  refine x_astore_n (pc := 6) dLi_speak_6 rfl (by decide) (L' := [(2, .ref r2), (0, .ref v0), (1, .int v1)]) rfl ?_
  refine x_aload_n (pc := 7) dLi_speak_7 rfl (q := 0) rfl ?_
  refine x_getI (pc := 8) dLi_speak_8 (wfk hw s502 (wfk hw e1 kv0)) flLi_118 rfl ?_
  refine x_istore_n (pc := 11) dLi_speak_11 rfl (by decide) (L' := [(3, .int (gi M r2 5)), (2, .ref r2), (0, .ref v0), (1, .int v1)]) rfl ?_
  refine x_aload_n (pc := 12) dLi_speak_12 rfl (q := 1) rfl ?_
  refine x_getI (pc := 13) dLi_speak_13 (wfk hw s502 (wfk hw e1 kv0)) flLi_95 rfl ?_
  refine x_iconst (pc := 16) dLi_speak_16 (v := 4) rfl ?_
  obtain ⟨s3, s4, s5, s6, g1_0, g1_1⟩ := h
  refine x_icmp_ne (pc := 17) dLi_speak_17 (t := 56) rfl (fun q1 => ?_) (fun q1 => ?_)
  · have h := g1_0 q1
    exact x_loc [2, 3, 1, 0] rfl h
  · refine x_aload_n (pc := 20) dLi_speak_20 rfl (q := 2) rfl ?_
    refine x_getR (pc := 21) dLi_speak_21 kv0 flLi_21 rfl e3 ?_
    refine x_aload_n (pc := 24) dLi_speak_24 rfl (q := 1) rfl ?_
    refine x_getI (pc := 25) dLi_speak_25 (wfk hw s502 (wfk hw e1 kv0)) flLi_121 rfl ?_
    refine x_aldIj (pc := 28) (j := (gi M r2 3).toNatClampNeg) (Or.inl ⟨rfl, rfl⟩) dLi_speak_28 (wfk hw e3 kv0) ak_14 rfl (s3 q1) ?_
    refine x_aload_n (pc := 29) dLi_speak_29 rfl (q := 2) rfl ?_
    refine x_getR (pc := 30) dLi_speak_30 kv0 flLi_42 rfl e4 ?_
    refine x_iload_n (pc := 33) dLi_speak_33 rfl (q := 3) rfl ?_
    refine x_aldIj (pc := 34) (j := (v1).toNatClampNeg) (Or.inl ⟨rfl, rfl⟩) dLi_speak_34 (wfk hw e4 kv0) ak_12 rfl (s4 q1) ?_
    refine x_iand (pc := 35) dLi_speak_35 ?_
    refine x_aload_n (pc := 36) dLi_speak_36 rfl (q := 2) rfl ?_
    refine x_getR (pc := 37) dLi_speak_37 kv0 flLi_24 rfl e5 ?_
    refine x_aload_n (pc := 40) dLi_speak_40 rfl (q := 1) rfl ?_
    refine x_getI (pc := 41) dLi_speak_41 (wfk hw s502 (wfk hw e1 kv0)) flLi_121 rfl ?_
    refine x_aldIj (pc := 44) (j := (gi M r2 3).toNatClampNeg) (Or.inl ⟨rfl, rfl⟩) dLi_speak_44 (wfk hw e5 kv0) ak_14 rfl (s5 q1) ?_
    refine x_aload_n (pc := 45) dLi_speak_45 rfl (q := 2) rfl ?_
    refine x_getR (pc := 46) dLi_speak_46 kv0 flLi_42 rfl e4 ?_
    refine x_iload_n (pc := 49) dLi_speak_49 rfl (q := 3) rfl ?_
    refine x_aldIj (pc := 50) (j := (v1).toNatClampNeg) (Or.inl ⟨rfl, rfl⟩) dLi_speak_50 (wfk hw e4 kv0) ak_12 rfl (s6 q1) ?_
    refine x_iand (pc := 51) dLi_speak_51 ?_
    have h := g1_1 q1
    exact x_invSN (pc := 52) dLi_speak_52 (S := []) (As := [.int ((gi M r3 (gi M r2 3).toNatClampNeg) &&& (gi M r4 (v1).toNatClampNeg)), .int ((gi M r5 (gi M r2 3).toNatClampNeg) &&& (gi M r4 (v1).toNatClampNeg))]) nlLi_124 hC_agreed rfl ⟨by decide, by decide⟩ ⟨Nat.zero_le _, Nat.zero_le _⟩ rfl (Nat.le_of_ble_eq_true rfl) (aftI (b' := b) ⟨Nat.le_refl _, Nat.le_refl _⟩ (fun rv N h => x_loc [2, 3, 1] rfl h) h)

theorem vLi_speak_55 {M : Mm} {b : Nat × Nat} {K : Mm → Prop} {v0 : Nat} {v1 : Int32} {v2 : Nat} {w0 : Int32}  
    (h : X mLi_speak 56 [(0, .ref v0), (1, .int v1), (2, .ref v2), (3, .int w0)] [] M b (QV K)) : X mLi_speak 55 [(0, .ref v0), (1, .int v1), (2, .ref v2)] [.int w0] M b (QV K) := by
  refine x_wf (fun hw => ?_)
  refine x_istore_n (pc := 55) dLi_speak_55 rfl (by decide) (L' := [(3, .int w0), (0, .ref v0), (1, .int v1), (2, .ref v2)]) rfl ?_
  exact x_loc [1, 2, 3, 0] rfl h

theorem vLi_speak_56 {M : Mm} {b : Nat × Nat} {K : Mm → Prop} {v0 : Nat} {v1 : Int32} {v2 : Nat} {v3 : Int32} {r1 : Nat} (kv2 : v2 % 64 = 9) (kv0 : v0 % 64 = 1) (e1 : gr M v0 0 = some r1)
    (h : ((gi M v2 6) < 0 → (X mLi_speak 81 [(0, .ref v0), (1, .int v1), (2, .ref v2), (3, .int v3)] [] M b (QV K))) ∧ (¬ (gi M v2 6) < 0 → (vp_in (gi M v2 6) 24 ∧ (∃ r2 : Nat, gr M r1 (gi M v2 6).toNatClampNeg = some r2 ∧ (X mLi_speak 81 [(0, .ref v0), (1, .int v1), (2, .ref v2), (3, .int v3)] [] (si M v2 10 ((gi M r2 10) + 1)) b (QV K)))))) : X mLi_speak 56 [(0, .ref v0), (1, .int v1), (2, .ref v2), (3, .int v3)] [] M b (QV K) := by
  refine x_wf (fun hw => ?_)
  refine x_aload_n (pc := 56) dLi_speak_56 rfl (q := 2) rfl ?_
  refine x_getI (pc := 57) dLi_speak_57 kv2 flLi_98 rfl ?_
  obtain ⟨g1_0, g1_1⟩ := h
  refine x_if_lt (pc := 60) dLi_speak_60 (t := 81) rfl (fun q1 => ?_) (fun q1 => ?_)
  · have h := g1_0 q1
    exact h
  · refine x_aload_n (pc := 63) dLi_speak_63 rfl (q := 2) rfl ?_
    refine x_aload_n (pc := 64) dLi_speak_64 rfl (q := 0) rfl ?_
    refine x_getR (pc := 65) dLi_speak_65 kv0 flLi_11 rfl e1 ?_
    refine x_aload_n (pc := 68) dLi_speak_68 rfl (q := 2) rfl ?_
    refine x_getI (pc := 69) dLi_speak_69 kv2 flLi_98 rfl ?_
    have h := g1_1 q1
    obtain ⟨s501, h⟩ := h
    obtain ⟨r2, s502, h⟩ := h
    refine x_aldR (pc := 72) (Or.inl rfl) dLi_speak_72 (wfk hw e1 kv0) ak_18 s501 s502 ?_
    refine x_getI (pc := 73) dLi_speak_73 (wfk hw s502 (wfk hw e1 kv0)) flLi_115 rfl ?_
    refine x_iconst (pc := 76) dLi_speak_76 (v := 1) rfl ?_
    refine x_iadd (pc := 77) dLi_speak_77 ?_
    refine x_putI (pc := 78) dLi_speak_78 kv2 flLi_115 rfl rfl ?_
    exact h

theorem vLi_speak_81 {M : Mm} {b : Nat × Nat} {K : Mm → Prop} {v0 : Nat} {v1 : Int32} {v2 : Nat} {v3 : Int32}  
    (h : X mLi_speak 84 [(0, .ref v0), (1, .int v1), (2, .ref v2), (3, .int v3), (4, .int 0)] [] M b (QV K)) : X mLi_speak 81 [(0, .ref v0), (1, .int v1), (2, .ref v2), (3, .int v3)] [] M b (QV K) := by
  refine x_wf (fun hw => ?_)
  refine x_iconst (pc := 81) dLi_speak_81 (v := 0) rfl ?_
  refine x_istore (pc := 82) dLi_speak_82 (by decide) (L' := [(4, .int 0), (0, .ref v0), (1, .int v1), (2, .ref v2), (3, .int v3)]) rfl ?_
  exact x_loc [1, 2, 3, 4, 0] rfl h

theorem vLi_speak_84 {M : Mm} {b : Nat × Nat} {K : Mm → Prop} {v0 : Nat} {v1 : Int32} {v2 : Nat} {v3 : Int32} {v4 : Int32} (kv2 : v2 % 64 = 9) (kv0 : v0 % 64 = 1) 
    (h : (64 ≤ v4 → (K M)) ∧ ((¬ 64 ≤ v4 ∧ (gi M v2 6) < 0) → (CI mLi_ownSaying [.ref v2, .int v3, .int v4] M (fun rv N => X mLi_speak 115 [(0, .ref v0), (1, .int v1), (2, .ref v2), (3, .int v3), (4, .int v4)] [.int rv] N b (QV K)))) ∧ ((¬ 64 ≤ v4 ∧ ¬ (gi M v2 6) < 0) → (CI mLi_followedSaying [.ref v0, .ref v2, .int v4] M (fun rv N => X mLi_speak 105 [(0, .ref v0), (1, .int v1), (2, .ref v2), (3, .int v3), (4, .int v4)] [.int rv] N b (QV K))))) : X mLi_speak 84 [(0, .ref v0), (1, .int v1), (2, .ref v2), (3, .int v3), (4, .int v4)] [] M b (QV K) := by
  refine x_wf (fun hw => ?_)
  refine x_iload (pc := 84) dLi_speak_84 (q := 4) rfl ?_
  refine x_bipush (pc := 86) dLi_speak_86 (v := 64) rfl ?_
  obtain ⟨g1_0, g1_1, g1_2⟩ := h
  refine x_icmp_ge (pc := 88) dLi_speak_88 (t := 168) rfl (fun q1 => ?_) (fun q1 => ?_)
  · have h := g1_0 q1
    exact x_retQV (pc := 168) dLi_speak_168 rfl h
  · refine x_aload_n (pc := 91) dLi_speak_91 rfl (q := 2) rfl ?_
    refine x_getI (pc := 92) dLi_speak_92 kv2 flLi_98 rfl ?_
    refine x_if_lt (pc := 95) dLi_speak_95 (t := 108) rfl (fun q2 => ?_) (fun q2 => ?_)
    · refine x_aload_n (pc := 108) dLi_speak_108 rfl (q := 2) rfl ?_
      refine x_iload_n (pc := 109) dLi_speak_109 rfl (q := 3) rfl ?_
      refine x_iload (pc := 110) dLi_speak_110 (q := 4) rfl ?_
      have h := g1_1 ⟨q1, q2⟩
      exact x_invS (pc := 112) dLi_speak_112 (S := []) (As := [.ref v2, .int v3, .int v4]) mlLi_132 hLi_ownSaying rfl ⟨by decide, by decide⟩ ⟨Nat.zero_le _, Nat.zero_le _⟩ rfl (Nat.le_of_ble_eq_true rfl) (aftI (b' := b) ⟨Nat.le_refl _, Nat.le_refl _⟩ (fun rv N h => h) h)
    · refine x_aload_n (pc := 98) dLi_speak_98 rfl (q := 0) rfl ?_
      refine x_aload_n (pc := 99) dLi_speak_99 rfl (q := 2) rfl ?_
      refine x_iload (pc := 100) dLi_speak_100 (q := 4) rfl ?_
      have h := g1_2 ⟨q1, q2⟩
      exact x_invV (pc := 102) dLi_speak_102 (c := 1) (S := []) (As := [.ref v2, .int v4]) mlLi_128 hLi_followedSaying rfl (by decide) rfl kv0 ⟨by decide, by decide⟩ ⟨Nat.zero_le _, Nat.zero_le _⟩ rfl (Nat.le_of_ble_eq_true rfl) (aftI (b' := b) ⟨Nat.le_refl _, Nat.le_refl _⟩ (fun rv N h => h) h)

theorem vLi_speak_105 {M : Mm} {b : Nat × Nat} {K : Mm → Prop} {v0 : Nat} {v1 : Int32} {v2 : Nat} {v3 : Int32} {v4 : Int32} {w0 : Int32}  
    (h : X mLi_speak 115 [(0, .ref v0), (1, .int v1), (2, .ref v2), (3, .int v3), (4, .int v4)] [.int w0] M b (QV K)) : X mLi_speak 105 [(0, .ref v0), (1, .int v1), (2, .ref v2), (3, .int v3), (4, .int v4)] [.int w0] M b (QV K) := by
  refine x_wf (fun hw => ?_)
  refine x_goto (pc := 105) dLi_speak_105 (t := 115) rfl ?_
  exact h

theorem vLi_speak_115 {M : Mm} {b : Nat × Nat} {K : Mm → Prop} {v0 : Nat} {v1 : Int32} {v2 : Nat} {v3 : Int32} {v4 : Int32} {w0 : Int32} {r1 : Nat} {r2 : Nat} (kv0 : v0 % 64 = 1) (e1 : gr M v0 3 = some r1) (e2 : gr M v0 4 = some r2)
    (h : vp_in v4 64 ∧ (vp_in v4 64 ∧ (vp_in v4 64 ∧ (vp_in v4 64 ∧ (X mLi_speak 84 [(0, .ref v0), (1, .int v1), (2, .ref v2), (3, .int v3), (4, .int (v4 + 1))] [] (si (si M r1 (v4).toNatClampNeg ((gi M r1 (v4).toNatClampNeg) ||| (if w0 = 1 then ((1 : Int32) <<< (v1 &&& 31)) else 0 : Int32))) r2 (v4).toNatClampNeg ((gi (si M r1 (v4).toNatClampNeg ((gi M r1 (v4).toNatClampNeg) ||| (if w0 = 1 then ((1 : Int32) <<< (v1 &&& 31)) else 0 : Int32))) r2 (v4).toNatClampNeg) ||| (if w0 = 0 then ((1 : Int32) <<< (v1 &&& 31)) else 0 : Int32))) b (QV K)))))) : X mLi_speak 115 [(0, .ref v0), (1, .int v1), (2, .ref v2), (3, .int v3), (4, .int v4)] [.int w0] M b (QV K) := by
  refine x_wf (fun hw => ?_)
  refine x_istore (pc := 115) dLi_speak_115 (by decide) (L' := [(5, .int w0), (0, .ref v0), (1, .int v1), (2, .ref v2), (3, .int v3), (4, .int v4)]) rfl ?_
  refine x_aload_n (pc := 117) dLi_speak_117 rfl (q := 1) rfl ?_
  refine x_getR (pc := 118) dLi_speak_118 kv0 flLi_21 rfl e1 ?_
  refine x_iload (pc := 121) dLi_speak_121 (q := 5) rfl ?_
  refine x_dup2 (pc := 123) dLi_speak_123 rfl rfl ?_
  obtain ⟨s501, h⟩ := h
  refine x_aldIj (pc := 124) (j := (v4).toNatClampNeg) (Or.inl ⟨rfl, rfl⟩) dLi_speak_124 (wfk hw e1 kv0) ak_14 rfl s501 ?_
  refine x_iload (pc := 125) dLi_speak_125 (q := 0) rfl ?_
  refine x_iconst (pc := 127) dLi_speak_127 (v := 1) rfl ?_
  suffices hJ : X mLi_speak 138 [(5, .int w0), (0, .ref v0), (1, .int v1), (2, .ref v2), (3, .int v3), (4, .int v4)] [.int (if w0 = 1 then ((1 : Int32) <<< (v1 &&& 31)) else 0 : Int32), .int (gi M r1 (v4).toNatClampNeg), .int v4, .ref r1] M b (QV K) by
    refine x_icmp_ne (pc := 128) dLi_speak_128 (t := 137) rfl (fun q1 => ?_) (fun q1 => ?_)
    · refine x_iconst (pc := 137) dLi_speak_137 (v := 0) rfl ?_
      first | (rw [if_neg q1] at hJ; exact hJ) | (simp only [if_neg q1] at hJ ⊢; exact hJ)
    · refine x_iconst (pc := 131) dLi_speak_131 (v := 1) rfl ?_
      refine x_iload_n (pc := 132) dLi_speak_132 rfl (q := 2) rfl ?_
      refine x_ishl (pc := 133) dLi_speak_133 ?_
      refine x_goto (pc := 134) dLi_speak_134 (t := 138) rfl ?_
      first | (rw [if_pos q1] at hJ; exact hJ) | (simp only [if_pos q1] at hJ ⊢; exact hJ)
  refine x_ior (pc := 138) dLi_speak_138 ?_
  obtain ⟨s502, h⟩ := h
  refine x_astIj (pc := 139) (j := (v4).toNatClampNeg) (v := (gi M r1 (v4).toNatClampNeg) ||| (if w0 = 1 then ((1 : Int32) <<< (v1 &&& 31)) else 0 : Int32)) (Or.inl ⟨rfl, rfl, rfl⟩) dLi_speak_139 (wfk hw e1 kv0) ak_14 rfl s502 ?_
  refine x_aload_n (pc := 140) dLi_speak_140 rfl (q := 1) rfl ?_
  refine x_getR (pc := 141) dLi_speak_141 kv0 flLi_24 rfl e2 ?_
  refine x_iload (pc := 144) dLi_speak_144 (q := 5) rfl ?_
  refine x_dup2 (pc := 146) dLi_speak_146 rfl rfl ?_
  obtain ⟨s503, h⟩ := h
  refine x_aldIj (pc := 147) (j := (v4).toNatClampNeg) (Or.inl ⟨rfl, rfl⟩) dLi_speak_147 (wfk hw e2 kv0) ak_14 rfl s503 ?_
  refine x_iload (pc := 148) dLi_speak_148 (q := 0) rfl ?_
  suffices hJ : X mLi_speak 160 [(5, .int w0), (0, .ref v0), (1, .int v1), (2, .ref v2), (3, .int v3), (4, .int v4)] [.int (if w0 = 0 then ((1 : Int32) <<< (v1 &&& 31)) else 0 : Int32), .int (gi (si M r1 (v4).toNatClampNeg ((gi M r1 (v4).toNatClampNeg) ||| (if w0 = 1 then ((1 : Int32) <<< (v1 &&& 31)) else 0 : Int32))) r2 (v4).toNatClampNeg), .int v4, .ref r2] (si M r1 (v4).toNatClampNeg ((gi M r1 (v4).toNatClampNeg) ||| (if w0 = 1 then ((1 : Int32) <<< (v1 &&& 31)) else 0 : Int32))) b (QV K) by
    refine x_if_ne (pc := 150) dLi_speak_150 (t := 159) rfl (fun q2 => ?_) (fun q2 => ?_)
    · refine x_iconst (pc := 159) dLi_speak_159 (v := 0) rfl ?_
      first | (rw [if_neg q2] at hJ; exact hJ) | (simp only [if_neg q2] at hJ ⊢; exact hJ)
    · refine x_iconst (pc := 153) dLi_speak_153 (v := 1) rfl ?_
      refine x_iload_n (pc := 154) dLi_speak_154 rfl (q := 2) rfl ?_
      refine x_ishl (pc := 155) dLi_speak_155 ?_
      refine x_goto (pc := 156) dLi_speak_156 (t := 160) rfl ?_
      first | (rw [if_pos q2] at hJ; exact hJ) | (simp only [if_pos q2] at hJ ⊢; exact hJ)
  refine x_ior (pc := 160) dLi_speak_160 ?_
  obtain ⟨s504, h⟩ := h
  refine x_astIj (pc := 161) (j := (v4).toNatClampNeg) (v := (gi (si M r1 (v4).toNatClampNeg ((gi M r1 (v4).toNatClampNeg) ||| (if w0 = 1 then ((1 : Int32) <<< (v1 &&& 31)) else 0 : Int32))) r2 (v4).toNatClampNeg) ||| (if w0 = 0 then ((1 : Int32) <<< (v1 &&& 31)) else 0 : Int32)) (Or.inl ⟨rfl, rfl, rfl⟩) dLi_speak_161 (wfk hw e2 kv0) ak_14 rfl s504 ?_
  refine x_iinc (pc := 162) dLi_speak_162 (q := 5) rfl (v := v4 + 1) rfl (by decide) (L' := [(4, .int (v4 + 1)), (5, .int w0), (0, .ref v0), (1, .int v1), (2, .ref v2), (3, .int v3)]) rfl ?_
  refine x_goto (pc := 165) dLi_speak_165 (t := 84) rfl ?_
  exact x_loc [2, 3, 4, 5, 0] rfl h

theorem dLi_followedSaying_0 : decode (mB mLi_followedSaying) 0 = .ok (.aload_n 0, 1) := op42 (by decide +kernel)
theorem dLi_followedSaying_1 : decode (mB mLi_followedSaying) 1 = .ok (.aload_n 1, 1) := op43 (by decide +kernel)
theorem dLi_followedSaying_2 : decode (mB mLi_followedSaying) 2 = .ok (.getfield 98, 3) := op180 0 98 (by decide +kernel)
theorem dLi_followedSaying_5 : decode (mB mLi_followedSaying) 5 = .ok (.iload_n 2, 1) := op28 (by decide +kernel)
theorem dLi_followedSaying_6 : decode (mB mLi_followedSaying) 6 = .ok (.invokevirtual 136, 3) := op182 0 136 (by decide +kernel)
theorem dLi_followedSaying_9 : decode (mB mLi_followedSaying) 9 = .ok (.istore_n 3, 1) := op62 (by decide +kernel)
theorem dLi_followedSaying_10 : decode (mB mLi_followedSaying) 10 = .ok (.iload_n 3, 1) := op29 (by decide +kernel)
theorem dLi_followedSaying_11 : decode (mB mLi_followedSaying) 11 = .ok (.bipush (-4), 2) := op16 252 (by decide +kernel)
theorem dLi_followedSaying_13 : decode (mB mLi_followedSaying) 13 = .ok (.if_icmp .eq 17, 3) := op159 0 17 (by decide +kernel)
theorem dLi_followedSaying_16 : decode (mB mLi_followedSaying) 16 = .ok (.aload_n 1, 1) := op43 (by decide +kernel)
theorem dLi_followedSaying_17 : decode (mB mLi_followedSaying) 17 = .ok (.getfield 95, 3) := op180 0 95 (by decide +kernel)
theorem dLi_followedSaying_20 : decode (mB mLi_followedSaying) 20 = .ok (.iconst 2, 1) := op5 (by decide +kernel)
theorem dLi_followedSaying_21 : decode (mB mLi_followedSaying) 21 = .ok (.if_icmp .ne 9, 3) := op160 0 9 (by decide +kernel)
theorem dLi_followedSaying_24 : decode (mB mLi_followedSaying) 24 = .ok (.iconst 1, 1) := op4 (by decide +kernel)
theorem dLi_followedSaying_25 : decode (mB mLi_followedSaying) 25 = .ok (.iload_n 3, 1) := op29 (by decide +kernel)
theorem dLi_followedSaying_26 : decode (mB mLi_followedSaying) 26 = .ok (.isub, 1) := op100 (by decide +kernel)
theorem dLi_followedSaying_27 : decode (mB mLi_followedSaying) 27 = .ok (.goto 4, 3) := op167 0 4 (by decide +kernel)
theorem dLi_followedSaying_30 : decode (mB mLi_followedSaying) 30 = .ok (.iload_n 3, 1) := op29 (by decide +kernel)
theorem dLi_followedSaying_31 : decode (mB mLi_followedSaying) 31 = .ok (.ireturn, 1) := op172 (by decide +kernel)

theorem vLi_followedSaying_0 {M : Mm} {b : Nat × Nat} {K : Int32 → Mm → Prop} {v0 : Nat} {v1 : Nat} {v2 : Int32} (kv1 : v1 % 64 = 9) (kv0 : v0 % 64 = 1) 
    (h : CI mLi_saying [.ref v0, .int (gi M v1 6), .int v2] M (fun rv N => X mLi_followedSaying 9 [(1, .ref v1)] [.int rv] N b (QI K))) : X mLi_followedSaying 0 [(0, .ref v0), (1, .ref v1), (2, .int v2)] [] M b (QI K) := by
  refine x_wf (fun hw => ?_)
  refine x_aload_n (pc := 0) dLi_followedSaying_0 rfl (q := 0) rfl ?_
  refine x_aload_n (pc := 1) dLi_followedSaying_1 rfl (q := 1) rfl ?_
  refine x_getI (pc := 2) dLi_followedSaying_2 kv1 flLi_98 rfl ?_
  refine x_iload_n (pc := 5) dLi_followedSaying_5 rfl (q := 2) rfl ?_
  exact x_invV (pc := 6) dLi_followedSaying_6 (c := 1) (S := []) (As := [.int (gi M v1 6), .int v2]) mlLi_136 hLi_saying rfl (by decide) rfl kv0 ⟨by decide, by decide⟩ ⟨Nat.zero_le _, Nat.zero_le _⟩ rfl (Nat.le_of_ble_eq_true rfl) (aftI (b' := b) ⟨Nat.le_refl _, Nat.le_refl _⟩ (fun rv N h => x_loc [1] rfl h) h)

theorem vLi_followedSaying_9 {M : Mm} {b : Nat × Nat} {K : Int32 → Mm → Prop} {v1 : Nat} {w0 : Int32} (kv1 : v1 % 64 = 9) 
    (h : (((w0 = (-4)) ∨ (¬ w0 = (-4) ∧ ¬ (gi M v1 0) = 2)) → (K w0 M)) ∧ ((¬ w0 = (-4) ∧ (gi M v1 0) = 2) → (K (1 - w0) M))) : X mLi_followedSaying 9 [(1, .ref v1)] [.int w0] M b (QI K) := by
  refine x_wf (fun hw => ?_)
  refine x_istore_n (pc := 9) dLi_followedSaying_9 rfl (by decide) (L' := [(3, .int w0), (1, .ref v1)]) rfl ?_
  refine x_iload_n (pc := 10) dLi_followedSaying_10 rfl (q := 0) rfl ?_
  refine x_bipush (pc := 11) dLi_followedSaying_11 (v := (-4)) rfl ?_
  obtain ⟨g1_0, g1_1⟩ := h
  have g1_k0 : (w0 = (-4)) ∨ (¬ w0 = (-4) ∧ ¬ (gi M v1 0) = 2) → X mLi_followedSaying 30 [(3, .int w0), (1, .ref v1)] [] M b (QI K) := fun q => by
    have h := g1_0 q
    refine x_iload_n (pc := 30) dLi_followedSaying_30 rfl (q := 0) rfl ?_
    exact x_retQI (pc := 31) dLi_followedSaying_31 rfl rfl h
  refine x_icmp_eq (pc := 13) dLi_followedSaying_13 (t := 30) rfl (fun q1 => ?_) (fun q1 => ?_)
  · exact g1_k0 (Or.inl q1)
  · refine x_aload_n (pc := 16) dLi_followedSaying_16 rfl (q := 1) rfl ?_
    refine x_getI (pc := 17) dLi_followedSaying_17 kv1 flLi_95 rfl ?_
    refine x_iconst (pc := 20) dLi_followedSaying_20 (v := 2) rfl ?_
    refine x_icmp_ne (pc := 21) dLi_followedSaying_21 (t := 30) rfl (fun q2 => ?_) (fun q2 => ?_)
    · exact g1_k0 (Or.inr ⟨q1, q2⟩)
    · refine x_iconst (pc := 24) dLi_followedSaying_24 (v := 1) rfl ?_
      refine x_iload_n (pc := 25) dLi_followedSaying_25 rfl (q := 0) rfl ?_
      refine x_isub (pc := 26) dLi_followedSaying_26 ?_
      refine x_goto (pc := 27) dLi_followedSaying_27 (t := 31) rfl ?_
      have h := g1_1 ⟨q1, q2⟩
      exact x_retQI (pc := 31) dLi_followedSaying_31 rfl rfl h

theorem dLi_saying_0 : decode (mB mLi_saying) 0 = .ok (.aload_n 0, 1) := op42 (by decide +kernel)
theorem dLi_saying_1 : decode (mB mLi_saying) 1 = .ok (.getfield 21, 3) := op180 0 21 (by decide +kernel)
theorem dLi_saying_4 : decode (mB mLi_saying) 4 = .ok (.iload_n 2, 1) := op28 (by decide +kernel)
theorem dLi_saying_5 : decode (mB mLi_saying) 5 = .ok (.iaload, 1) := op46 (by decide +kernel)
theorem dLi_saying_6 : decode (mB mLi_saying) 6 = .ok (.iload_n 1, 1) := op27 (by decide +kernel)
theorem dLi_saying_7 : decode (mB mLi_saying) 7 = .ok (.iushr, 1) := op124 (by decide +kernel)
theorem dLi_saying_8 : decode (mB mLi_saying) 8 = .ok (.iconst 1, 1) := op4 (by decide +kernel)
theorem dLi_saying_9 : decode (mB mLi_saying) 9 = .ok (.iand, 1) := op126 (by decide +kernel)
theorem dLi_saying_10 : decode (mB mLi_saying) 10 = .ok (.iconst 1, 1) := op4 (by decide +kernel)
theorem dLi_saying_11 : decode (mB mLi_saying) 11 = .ok (.if_icmp .ne 5, 3) := op160 0 5 (by decide +kernel)
theorem dLi_saying_14 : decode (mB mLi_saying) 14 = .ok (.iconst 1, 1) := op4 (by decide +kernel)
theorem dLi_saying_15 : decode (mB mLi_saying) 15 = .ok (.ireturn, 1) := op172 (by decide +kernel)
theorem dLi_saying_16 : decode (mB mLi_saying) 16 = .ok (.aload_n 0, 1) := op42 (by decide +kernel)
theorem dLi_saying_17 : decode (mB mLi_saying) 17 = .ok (.getfield 24, 3) := op180 0 24 (by decide +kernel)
theorem dLi_saying_20 : decode (mB mLi_saying) 20 = .ok (.iload_n 2, 1) := op28 (by decide +kernel)
theorem dLi_saying_21 : decode (mB mLi_saying) 21 = .ok (.iaload, 1) := op46 (by decide +kernel)
theorem dLi_saying_22 : decode (mB mLi_saying) 22 = .ok (.iload_n 1, 1) := op27 (by decide +kernel)
theorem dLi_saying_23 : decode (mB mLi_saying) 23 = .ok (.iushr, 1) := op124 (by decide +kernel)
theorem dLi_saying_24 : decode (mB mLi_saying) 24 = .ok (.iconst 1, 1) := op4 (by decide +kernel)
theorem dLi_saying_25 : decode (mB mLi_saying) 25 = .ok (.iand, 1) := op126 (by decide +kernel)
theorem dLi_saying_26 : decode (mB mLi_saying) 26 = .ok (.iconst 1, 1) := op4 (by decide +kernel)
theorem dLi_saying_27 : decode (mB mLi_saying) 27 = .ok (.if_icmp .ne 7, 3) := op160 0 7 (by decide +kernel)
theorem dLi_saying_30 : decode (mB mLi_saying) 30 = .ok (.iconst 0, 1) := op3 (by decide +kernel)
theorem dLi_saying_31 : decode (mB mLi_saying) 31 = .ok (.goto 5, 3) := op167 0 5 (by decide +kernel)
theorem dLi_saying_34 : decode (mB mLi_saying) 34 = .ok (.bipush (-4), 2) := op16 252 (by decide +kernel)
theorem dLi_saying_36 : decode (mB mLi_saying) 36 = .ok (.ireturn, 1) := op172 (by decide +kernel)

theorem vLi_saying_0 {M : Mm} {b : Nat × Nat} {K : Int32 → Mm → Prop} {v0 : Nat} {v1 : Int32} {v2 : Int32} {r1 : Nat} {r2 : Nat} (kv0 : v0 % 64 = 1) (e1 : gr M v0 3 = some r1) (e2 : gr M v0 4 = some r2)
    (h : vp_in v2 64 ∧ ((¬ ((ushr (gi M r1 (v2).toNatClampNeg) v1) &&& 1) = 1 → vp_in v2 64) ∧ ((¬ ((ushr (gi M r1 (v2).toNatClampNeg) v1) &&& 1) = 1 ∧ ¬ ((ushr (gi M r2 (v2).toNatClampNeg) v1) &&& 1) = 1) → (K (-4) M)) ∧ ((¬ ((ushr (gi M r1 (v2).toNatClampNeg) v1) &&& 1) = 1 ∧ ((ushr (gi M r2 (v2).toNatClampNeg) v1) &&& 1) = 1) → (K 0 M)) ∧ (((ushr (gi M r1 (v2).toNatClampNeg) v1) &&& 1) = 1 → (K 1 M)))) : X mLi_saying 0 [(0, .ref v0), (1, .int v1), (2, .int v2)] [] M b (QI K) := by
  refine x_wf (fun hw => ?_)
  refine x_aload_n (pc := 0) dLi_saying_0 rfl (q := 0) rfl ?_
  refine x_getR (pc := 1) dLi_saying_1 kv0 flLi_21 rfl e1 ?_
  refine x_iload_n (pc := 4) dLi_saying_4 rfl (q := 2) rfl ?_
  obtain ⟨s501, h⟩ := h
  refine x_aldIj (pc := 5) (j := (v2).toNatClampNeg) (Or.inl ⟨rfl, rfl⟩) dLi_saying_5 (wfk hw e1 kv0) ak_14 rfl s501 ?_
  refine x_iload_n (pc := 6) dLi_saying_6 rfl (q := 1) rfl ?_
  refine x_iushr (pc := 7) dLi_saying_7 ?_
  refine x_iconst (pc := 8) dLi_saying_8 (v := 1) rfl ?_
  refine x_iand (pc := 9) dLi_saying_9 ?_
  refine x_iconst (pc := 10) dLi_saying_10 (v := 1) rfl ?_
  obtain ⟨s2, g1_0, g1_1, g1_2⟩ := h
  refine x_icmp_ne (pc := 11) dLi_saying_11 (t := 16) rfl (fun q1 => ?_) (fun q1 => ?_)
  · refine x_aload_n (pc := 16) dLi_saying_16 rfl (q := 0) rfl ?_
    refine x_getR (pc := 17) dLi_saying_17 kv0 flLi_24 rfl e2 ?_
    refine x_iload_n (pc := 20) dLi_saying_20 rfl (q := 2) rfl ?_
    refine x_aldIj (pc := 21) (j := (v2).toNatClampNeg) (Or.inl ⟨rfl, rfl⟩) dLi_saying_21 (wfk hw e2 kv0) ak_14 rfl (s2 q1) ?_
    refine x_iload_n (pc := 22) dLi_saying_22 rfl (q := 1) rfl ?_
    refine x_iushr (pc := 23) dLi_saying_23 ?_
    refine x_iconst (pc := 24) dLi_saying_24 (v := 1) rfl ?_
    refine x_iand (pc := 25) dLi_saying_25 ?_
    refine x_iconst (pc := 26) dLi_saying_26 (v := 1) rfl ?_
    refine x_icmp_ne (pc := 27) dLi_saying_27 (t := 34) rfl (fun q2 => ?_) (fun q2 => ?_)
    · refine x_bipush (pc := 34) dLi_saying_34 (v := (-4)) rfl ?_
      have h := g1_0 ⟨q1, q2⟩
      exact x_retQI (pc := 36) dLi_saying_36 rfl rfl h
    · refine x_iconst (pc := 30) dLi_saying_30 (v := 0) rfl ?_
      refine x_goto (pc := 31) dLi_saying_31 (t := 36) rfl ?_
      have h := g1_1 ⟨q1, q2⟩
      exact x_retQI (pc := 36) dLi_saying_36 rfl rfl h
  · refine x_iconst (pc := 14) dLi_saying_14 (v := 1) rfl ?_
    have h := g1_2 q1
    exact x_retQI (pc := 15) dLi_saying_15 rfl rfl h

theorem dLi_ownSaying_0 : decode (mB mLi_ownSaying) 0 = .ok (.iload_n 2, 1) := op28 (by decide +kernel)
theorem dLi_ownSaying_1 : decode (mB mLi_ownSaying) 1 = .ok (.aload_n 0, 1) := op42 (by decide +kernel)
theorem dLi_ownSaying_2 : decode (mB mLi_ownSaying) 2 = .ok (.getfield 121, 3) := op180 0 121 (by decide +kernel)
theorem dLi_ownSaying_5 : decode (mB mLi_ownSaying) 5 = .ok (.iand, 1) := op126 (by decide +kernel)
theorem dLi_ownSaying_6 : decode (mB mLi_ownSaying) 6 = .ok (.aload_n 0, 1) := op42 (by decide +kernel)
theorem dLi_ownSaying_7 : decode (mB mLi_ownSaying) 7 = .ok (.getfield 121, 3) := op180 0 121 (by decide +kernel)
theorem dLi_ownSaying_10 : decode (mB mLi_ownSaying) 10 = .ok (.if_icmp .ne 16, 3) := op160 0 16 (by decide +kernel)
theorem dLi_ownSaying_13 : decode (mB mLi_ownSaying) 13 = .ok (.iload_n 2, 1) := op28 (by decide +kernel)
theorem dLi_ownSaying_14 : decode (mB mLi_ownSaying) 14 = .ok (.aload_n 0, 1) := op42 (by decide +kernel)
theorem dLi_ownSaying_15 : decode (mB mLi_ownSaying) 15 = .ok (.getfield 139, 3) := op180 0 139 (by decide +kernel)
theorem dLi_ownSaying_18 : decode (mB mLi_ownSaying) 18 = .ok (.iand, 1) := op126 (by decide +kernel)
theorem dLi_ownSaying_19 : decode (mB mLi_ownSaying) 19 = .ok (.ifCond .ne 7, 3) := op154 0 7 (by decide +kernel)
theorem dLi_ownSaying_22 : decode (mB mLi_ownSaying) 22 = .ok (.iload_n 1, 1) := op27 (by decide +kernel)
theorem dLi_ownSaying_23 : decode (mB mLi_ownSaying) 23 = .ok (.goto 5, 3) := op167 0 5 (by decide +kernel)
theorem dLi_ownSaying_26 : decode (mB mLi_ownSaying) 26 = .ok (.bipush (-4), 2) := op16 252 (by decide +kernel)
theorem dLi_ownSaying_28 : decode (mB mLi_ownSaying) 28 = .ok (.ireturn, 1) := op172 (by decide +kernel)

theorem vLi_ownSaying_0 {M : Mm} {b : Nat × Nat} {K : Int32 → Mm → Prop} {v0 : Nat} {v1 : Int32} {v2 : Int32} (kv0 : v0 % 64 = 9) 
    (h : (((¬ (v2 &&& (gi M v0 3)) = (gi M v0 3)) ∨ ((v2 &&& (gi M v0 3)) = (gi M v0 3) ∧ ¬ (v2 &&& (gi M v0 4)) = 0)) → (K (-4) M)) ∧ (((v2 &&& (gi M v0 3)) = (gi M v0 3) ∧ (v2 &&& (gi M v0 4)) = 0) → (K v1 M))) : X mLi_ownSaying 0 [(0, .ref v0), (1, .int v1), (2, .int v2)] [] M b (QI K) := by
  refine x_wf (fun hw => ?_)
  refine x_iload_n (pc := 0) dLi_ownSaying_0 rfl (q := 2) rfl ?_
  refine x_aload_n (pc := 1) dLi_ownSaying_1 rfl (q := 0) rfl ?_
  refine x_getI (pc := 2) dLi_ownSaying_2 kv0 flLi_121 rfl ?_
  refine x_iand (pc := 5) dLi_ownSaying_5 ?_
  refine x_aload_n (pc := 6) dLi_ownSaying_6 rfl (q := 0) rfl ?_
  refine x_getI (pc := 7) dLi_ownSaying_7 kv0 flLi_121 rfl ?_
  obtain ⟨g1_0, g1_1⟩ := h
  have g1_k0 : (¬ (v2 &&& (gi M v0 3)) = (gi M v0 3)) ∨ ((v2 &&& (gi M v0 3)) = (gi M v0 3) ∧ ¬ (v2 &&& (gi M v0 4)) = 0) → X mLi_ownSaying 26 [(0, .ref v0), (1, .int v1), (2, .int v2)] [] M b (QI K) := fun q => by
    have h := g1_0 q
    refine x_bipush (pc := 26) dLi_ownSaying_26 (v := (-4)) rfl ?_
    exact x_retQI (pc := 28) dLi_ownSaying_28 rfl rfl h
  refine x_icmp_ne (pc := 10) dLi_ownSaying_10 (t := 26) rfl (fun q1 => ?_) (fun q1 => ?_)
  · exact g1_k0 (Or.inl q1)
  · refine x_iload_n (pc := 13) dLi_ownSaying_13 rfl (q := 2) rfl ?_
    refine x_aload_n (pc := 14) dLi_ownSaying_14 rfl (q := 0) rfl ?_
    refine x_getI (pc := 15) dLi_ownSaying_15 kv0 flLi_139 rfl ?_
    refine x_iand (pc := 18) dLi_ownSaying_18 ?_
    refine x_if_ne (pc := 19) dLi_ownSaying_19 (t := 26) rfl (fun q2 => ?_) (fun q2 => ?_)
    · exact g1_k0 (Or.inr ⟨q1, q2⟩)
    · refine x_iload_n (pc := 22) dLi_ownSaying_22 rfl (q := 1) rfl ?_
      refine x_goto (pc := 23) dLi_ownSaying_23 (t := 28) rfl ?_
      have h := g1_1 ⟨q1, q2⟩
      exact x_retQI (pc := 28) dLi_ownSaying_28 rfl rfl h

theorem dLi_weighAll_0 : decode (mB mLi_weighAll) 0 = .ok (.aload_n 0, 1) := op42 (by decide +kernel)
theorem dLi_weighAll_1 : decode (mB mLi_weighAll) 1 = .ok (.getfield 39, 3) := op180 0 39 (by decide +kernel)
theorem dLi_weighAll_4 : decode (mB mLi_weighAll) 4 = .ok (.iconst 0, 1) := op3 (by decide +kernel)
theorem dLi_weighAll_5 : decode (mB mLi_weighAll) 5 = .ok (.invokestatic 59, 3) := op184 0 59 (by decide +kernel)
theorem dLi_weighAll_8 : decode (mB mLi_weighAll) 8 = .ok (.iconst 0, 1) := op3 (by decide +kernel)
theorem dLi_weighAll_9 : decode (mB mLi_weighAll) 9 = .ok (.istore_n 1, 1) := op60 (by decide +kernel)
theorem dLi_weighAll_10 : decode (mB mLi_weighAll) 10 = .ok (.iload_n 1, 1) := op27 (by decide +kernel)
theorem dLi_weighAll_11 : decode (mB mLi_weighAll) 11 = .ok (.aload_n 0, 1) := op42 (by decide +kernel)
theorem dLi_weighAll_12 : decode (mB mLi_weighAll) 12 = .ok (.getfield 55, 3) := op180 0 55 (by decide +kernel)
theorem dLi_weighAll_15 : decode (mB mLi_weighAll) 15 = .ok (.if_icmp .ge 50, 3) := op162 0 50 (by decide +kernel)
theorem dLi_weighAll_18 : decode (mB mLi_weighAll) 18 = .ok (.aload_n 0, 1) := op42 (by decide +kernel)
theorem dLi_weighAll_19 : decode (mB mLi_weighAll) 19 = .ok (.iload_n 1, 1) := op27 (by decide +kernel)
theorem dLi_weighAll_20 : decode (mB mLi_weighAll) 20 = .ok (.invokevirtual 142, 3) := op182 0 142 (by decide +kernel)
theorem dLi_weighAll_23 : decode (mB mLi_weighAll) 23 = .ok (.istore_n 2, 1) := op61 (by decide +kernel)
theorem dLi_weighAll_24 : decode (mB mLi_weighAll) 24 = .ok (.aload_n 0, 1) := op42 (by decide +kernel)
theorem dLi_weighAll_25 : decode (mB mLi_weighAll) 25 = .ok (.getfield 11, 3) := op180 0 11 (by decide +kernel)
theorem dLi_weighAll_28 : decode (mB mLi_weighAll) 28 = .ok (.iload_n 1, 1) := op27 (by decide +kernel)
theorem dLi_weighAll_29 : decode (mB mLi_weighAll) 29 = .ok (.aaload, 1) := op50 (by decide +kernel)
theorem dLi_weighAll_30 : decode (mB mLi_weighAll) 30 = .ok (.iload_n 2, 1) := op28 (by decide +kernel)
theorem dLi_weighAll_31 : decode (mB mLi_weighAll) 31 = .ok (.putfield 146, 3) := op181 0 146 (by decide +kernel)
theorem dLi_weighAll_34 : decode (mB mLi_weighAll) 34 = .ok (.iload_n 2, 1) := op28 (by decide +kernel)
theorem dLi_weighAll_35 : decode (mB mLi_weighAll) 35 = .ok (.ifCond .lt 24, 3) := op155 0 24 (by decide +kernel)
theorem dLi_weighAll_38 : decode (mB mLi_weighAll) 38 = .ok (.iload_n 2, 1) := op28 (by decide +kernel)
theorem dLi_weighAll_39 : decode (mB mLi_weighAll) 39 = .ok (.aload_n 0, 1) := op42 (by decide +kernel)
theorem dLi_weighAll_40 : decode (mB mLi_weighAll) 40 = .ok (.getfield 39, 3) := op180 0 39 (by decide +kernel)
theorem dLi_weighAll_43 : decode (mB mLi_weighAll) 43 = .ok (.arraylength, 1) := op190 (by decide +kernel)
theorem dLi_weighAll_44 : decode (mB mLi_weighAll) 44 = .ok (.if_icmp .ge 15, 3) := op162 0 15 (by decide +kernel)
theorem dLi_weighAll_47 : decode (mB mLi_weighAll) 47 = .ok (.aload_n 0, 1) := op42 (by decide +kernel)
theorem dLi_weighAll_48 : decode (mB mLi_weighAll) 48 = .ok (.getfield 39, 3) := op180 0 39 (by decide +kernel)
theorem dLi_weighAll_51 : decode (mB mLi_weighAll) 51 = .ok (.iload_n 2, 1) := op28 (by decide +kernel)
theorem dLi_weighAll_52 : decode (mB mLi_weighAll) 52 = .ok (.dup2, 1) := op92 (by decide +kernel)
theorem dLi_weighAll_53 : decode (mB mLi_weighAll) 53 = .ok (.iaload, 1) := op46 (by decide +kernel)
theorem dLi_weighAll_54 : decode (mB mLi_weighAll) 54 = .ok (.iconst 1, 1) := op4 (by decide +kernel)
theorem dLi_weighAll_55 : decode (mB mLi_weighAll) 55 = .ok (.iload_n 1, 1) := op27 (by decide +kernel)
theorem dLi_weighAll_56 : decode (mB mLi_weighAll) 56 = .ok (.ishl, 1) := op120 (by decide +kernel)
theorem dLi_weighAll_57 : decode (mB mLi_weighAll) 57 = .ok (.ior, 1) := op128 (by decide +kernel)
theorem dLi_weighAll_58 : decode (mB mLi_weighAll) 58 = .ok (.iastore, 1) := op79 (by decide +kernel)
theorem dLi_weighAll_59 : decode (mB mLi_weighAll) 59 = .ok (.iinc 1 1, 3) := op132 1 1 (by decide +kernel)
theorem dLi_weighAll_62 : decode (mB mLi_weighAll) 62 = .ok (.goto (-52), 3) := op167 255 204 (by decide +kernel)
theorem dLi_weighAll_65 : decode (mB mLi_weighAll) 65 = .ok (.return_, 1) := op177 (by decide +kernel)

theorem vLi_weighAll_0 {M : Mm} {b : Nat × Nat} {K : Mm → Prop} {v0 : Nat} {r1 : Nat} (kv0 : v0 % 64 = 1) (e1 : gr M v0 9 = some r1)
    (h : CV mJr_fill [.ref r1, .int 0] M (fun N => X mLi_weighAll 8 [(0, .ref v0)] [] N b (QV K))) : X mLi_weighAll 0 [(0, .ref v0)] [] M b (QV K) := by
  refine x_wf (fun hw => ?_)
  refine x_aload_n (pc := 0) dLi_weighAll_0 rfl (q := 0) rfl ?_
  refine x_getR (pc := 1) dLi_weighAll_1 kv0 flLi_39 rfl e1 ?_
  refine x_iconst (pc := 4) dLi_weighAll_4 (v := 0) rfl ?_
  exact x_invS (pc := 5) dLi_weighAll_5 (S := []) (As := [.ref r1, .int 0]) mlLi_59 hJr_fill rfl ⟨by decide, by decide⟩ ⟨Nat.zero_le _, Nat.zero_le _⟩ rfl (Nat.le_of_ble_eq_true rfl) (aftV (b' := b) ⟨Nat.le_refl _, Nat.le_refl _⟩ (fun N h => h) h)

theorem vLi_weighAll_8 {M : Mm} {b : Nat × Nat} {K : Mm → Prop} {v0 : Nat}  
    (h : X mLi_weighAll 10 [(0, .ref v0), (1, .int 0)] [] M b (QV K)) : X mLi_weighAll 8 [(0, .ref v0)] [] M b (QV K) := by
  refine x_wf (fun hw => ?_)
  refine x_iconst (pc := 8) dLi_weighAll_8 (v := 0) rfl ?_
  refine x_istore_n (pc := 9) dLi_weighAll_9 rfl (by decide) (L' := [(1, .int 0), (0, .ref v0)]) rfl ?_
  exact x_loc [1, 0] rfl h

theorem vLi_weighAll_10 {M : Mm} {b : Nat × Nat} {K : Mm → Prop} {v0 : Nat} {v1 : Int32} (kv0 : v0 % 64 = 1) 
    (h : ((gi M v0 1) ≤ v1 → (K M)) ∧ (¬ (gi M v0 1) ≤ v1 → (CI mLi_weightOf [.ref v0, .int v1] M (fun rv N => X mLi_weighAll 23 [(0, .ref v0), (1, .int v1)] [.int rv] N b (QV K))))) : X mLi_weighAll 10 [(0, .ref v0), (1, .int v1)] [] M b (QV K) := by
  refine x_wf (fun hw => ?_)
  refine x_iload_n (pc := 10) dLi_weighAll_10 rfl (q := 1) rfl ?_
  refine x_aload_n (pc := 11) dLi_weighAll_11 rfl (q := 0) rfl ?_
  refine x_getI (pc := 12) dLi_weighAll_12 kv0 flLi_55 rfl ?_
  obtain ⟨g1_0, g1_1⟩ := h
  refine x_icmp_ge (pc := 15) dLi_weighAll_15 (t := 65) rfl (fun q1 => ?_) (fun q1 => ?_)
  · have h := g1_0 q1
    exact x_retQV (pc := 65) dLi_weighAll_65 rfl h
  · refine x_aload_n (pc := 18) dLi_weighAll_18 rfl (q := 0) rfl ?_
    refine x_iload_n (pc := 19) dLi_weighAll_19 rfl (q := 1) rfl ?_
    have h := g1_1 q1
    exact x_invV (pc := 20) dLi_weighAll_20 (c := 1) (S := []) (As := [.int v1]) mlLi_142 hLi_weightOf rfl (by decide) rfl kv0 ⟨by decide, by decide⟩ ⟨Nat.zero_le _, Nat.zero_le _⟩ rfl (Nat.le_of_ble_eq_true rfl) (aftI (b' := b) ⟨Nat.le_refl _, Nat.le_refl _⟩ (fun rv N h => h) h)

theorem vLi_weighAll_23 {M : Mm} {b : Nat × Nat} {K : Mm → Prop} {v0 : Nat} {v1 : Int32} {w0 : Int32} {r1 : Nat} {r3 : Nat} (kv0 : v0 % 64 = 1) (e1 : gr M v0 0 = some r1) (e3 : gr M v0 9 = some r3)
    (h : vp_in v1 24 ∧ (∃ r2 : Nat, gr M r1 (v1).toNatClampNeg = some r2 ∧ ((¬ w0 < 0 ∧ ¬ 7 ≤ w0 → vp_in w0 7) ∧ (((w0 < 0) ∨ (¬ w0 < 0 ∧ 7 ≤ w0)) → (X mLi_weighAll 10 [(0, .ref v0), (1, .int (v1 + 1))] [] (si M r2 9 w0) b (QV K))) ∧ ((¬ w0 < 0 ∧ ¬ 7 ≤ w0) → (vp_in w0 7 ∧ (X mLi_weighAll 10 [(0, .ref v0), (1, .int (v1 + 1))] [] (si (si M r2 9 w0) r3 (w0).toNatClampNeg ((gi (si M r2 9 w0) r3 (w0).toNatClampNeg) ||| ((1 : Int32) <<< (v1 &&& 31)))) b (QV K))))))) : X mLi_weighAll 23 [(0, .ref v0), (1, .int v1)] [.int w0] M b (QV K) := by
  refine x_wf (fun hw => ?_)
  refine x_istore_n (pc := 23) dLi_weighAll_23 rfl (by decide) (L' := [(2, .int w0), (0, .ref v0), (1, .int v1)]) rfl ?_
  refine x_aload_n (pc := 24) dLi_weighAll_24 rfl (q := 1) rfl ?_
  refine x_getR (pc := 25) dLi_weighAll_25 kv0 flLi_11 rfl e1 ?_
  refine x_iload_n (pc := 28) dLi_weighAll_28 rfl (q := 2) rfl ?_
  obtain ⟨s501, h⟩ := h
  obtain ⟨r2, s502, h⟩ := h
  refine x_aldR (pc := 29) (Or.inl rfl) dLi_weighAll_29 (wfk hw e1 kv0) ak_18 s501 s502 ?_
  refine x_iload_n (pc := 30) dLi_weighAll_30 rfl (q := 0) rfl ?_
  refine x_putI (pc := 31) dLi_weighAll_31 (wfk hw s502 (wfk hw e1 kv0)) flLi_146 rfl rfl ?_
  refine x_iload_n (pc := 34) dLi_weighAll_34 rfl (q := 0) rfl ?_
  obtain ⟨s3, g1_0, g1_1⟩ := h
  have g1_k0 : (w0 < 0) ∨ (¬ w0 < 0 ∧ 7 ≤ w0) → X mLi_weighAll 59 [(2, .int w0), (0, .ref v0), (1, .int v1)] [] (si M r2 9 w0) b (QV K) := fun q => by
    have h := g1_0 q
    refine x_iinc (pc := 59) dLi_weighAll_59 (q := 2) rfl (v := v1 + 1) rfl (by decide) (L' := [(1, .int (v1 + 1)), (2, .int w0), (0, .ref v0)]) rfl ?_
    refine x_goto (pc := 62) dLi_weighAll_62 (t := 10) rfl ?_
    exact x_loc [2, 0] rfl h
  refine x_if_lt (pc := 35) dLi_weighAll_35 (t := 59) rfl (fun q1 => ?_) (fun q1 => ?_)
  · exact g1_k0 (Or.inl q1)
  · refine x_iload_n (pc := 38) dLi_weighAll_38 rfl (q := 0) rfl ?_
    refine x_aload_n (pc := 39) dLi_weighAll_39 rfl (q := 1) rfl ?_
    refine x_getR (pc := 40) dLi_weighAll_40 kv0 flLi_39 rfl e3 ?_
    refine x_alen (pc := 43) dLi_weighAll_43 (wfk hw e3 kv0) ak_15 (v := 7) rfl ?_
    refine x_icmp_ge (pc := 44) dLi_weighAll_44 (t := 59) rfl (fun q2 => ?_) (fun q2 => ?_)
    · exact g1_k0 (Or.inr ⟨q1, q2⟩)
    · refine x_aload_n (pc := 47) dLi_weighAll_47 rfl (q := 1) rfl ?_
      refine x_getR (pc := 48) dLi_weighAll_48 kv0 flLi_39 rfl e3 ?_
      refine x_iload_n (pc := 51) dLi_weighAll_51 rfl (q := 0) rfl ?_
      refine x_dup2 (pc := 52) dLi_weighAll_52 rfl rfl ?_
      refine x_aldIj (pc := 53) (j := (w0).toNatClampNeg) (Or.inl ⟨rfl, rfl⟩) dLi_weighAll_53 (wfk hw e3 kv0) ak_15 rfl (s3 ⟨q1, q2⟩) ?_
      refine x_iconst (pc := 54) dLi_weighAll_54 (v := 1) rfl ?_
      refine x_iload_n (pc := 55) dLi_weighAll_55 rfl (q := 2) rfl ?_
      refine x_ishl (pc := 56) dLi_weighAll_56 ?_
      refine x_ior (pc := 57) dLi_weighAll_57 ?_
      have h := g1_1 ⟨q1, q2⟩
      obtain ⟨s504, h⟩ := h
      refine x_astIj (pc := 58) (j := (w0).toNatClampNeg) (v := (gi (si M r2 9 w0) r3 (w0).toNatClampNeg) ||| ((1 : Int32) <<< (v1 &&& 31))) (Or.inl ⟨rfl, rfl, rfl⟩) dLi_weighAll_58 (wfk hw e3 kv0) ak_15 rfl s504 ?_
      refine x_iinc (pc := 59) dLi_weighAll_59 (q := 2) rfl (v := v1 + 1) rfl (by decide) (L' := [(1, .int (v1 + 1)), (2, .int w0), (0, .ref v0)]) rfl ?_
      refine x_goto (pc := 62) dLi_weighAll_62 (t := 10) rfl ?_
      exact x_loc [2, 0] rfl h

theorem dLi_weightOf_0 : decode (mB mLi_weightOf) 0 = .ok (.aload_n 0, 1) := op42 (by decide +kernel)
theorem dLi_weightOf_1 : decode (mB mLi_weightOf) 1 = .ok (.getfield 11, 3) := op180 0 11 (by decide +kernel)
theorem dLi_weightOf_4 : decode (mB mLi_weightOf) 4 = .ok (.iload_n 1, 1) := op27 (by decide +kernel)
theorem dLi_weightOf_5 : decode (mB mLi_weightOf) 5 = .ok (.aaload, 1) := op50 (by decide +kernel)
theorem dLi_weightOf_6 : decode (mB mLi_weightOf) 6 = .ok (.getfield 98, 3) := op180 0 98 (by decide +kernel)
theorem dLi_weightOf_9 : decode (mB mLi_weightOf) 9 = .ok (.ifCond .lt 16, 3) := op155 0 16 (by decide +kernel)
theorem dLi_weightOf_12 : decode (mB mLi_weightOf) 12 = .ok (.aload_n 0, 1) := op42 (by decide +kernel)
theorem dLi_weightOf_13 : decode (mB mLi_weightOf) 13 = .ok (.getfield 108, 3) := op180 0 108 (by decide +kernel)
theorem dLi_weightOf_16 : decode (mB mLi_weightOf) 16 = .ok (.iload_n 1, 1) := op27 (by decide +kernel)
theorem dLi_weightOf_17 : decode (mB mLi_weightOf) 17 = .ok (.invokestatic 101, 3) := op184 0 101 (by decide +kernel)
theorem dLi_weightOf_20 : decode (mB mLi_weightOf) 20 = .ok (.ifCond .eq 5, 3) := op153 0 5 (by decide +kernel)
theorem dLi_weightOf_23 : decode (mB mLi_weightOf) 23 = .ok (.iconst 0, 1) := op3 (by decide +kernel)
theorem dLi_weightOf_24 : decode (mB mLi_weightOf) 24 = .ok (.ireturn, 1) := op172 (by decide +kernel)
theorem dLi_weightOf_25 : decode (mB mLi_weightOf) 25 = .ok (.iload_n 1, 1) := op27 (by decide +kernel)
theorem dLi_weightOf_26 : decode (mB mLi_weightOf) 26 = .ok (.istore_n 2, 1) := op61 (by decide +kernel)
theorem dLi_weightOf_27 : decode (mB mLi_weightOf) 27 = .ok (.iconst 0, 1) := op3 (by decide +kernel)
theorem dLi_weightOf_28 : decode (mB mLi_weightOf) 28 = .ok (.istore_n 3, 1) := op62 (by decide +kernel)
theorem dLi_weightOf_29 : decode (mB mLi_weightOf) 29 = .ok (.iload_n 3, 1) := op29 (by decide +kernel)
theorem dLi_weightOf_30 : decode (mB mLi_weightOf) 30 = .ok (.aload_n 0, 1) := op42 (by decide +kernel)
theorem dLi_weightOf_31 : decode (mB mLi_weightOf) 31 = .ok (.getfield 55, 3) := op180 0 55 (by decide +kernel)
theorem dLi_weightOf_34 : decode (mB mLi_weightOf) 34 = .ok (.if_icmp .ge 31, 3) := op162 0 31 (by decide +kernel)
theorem dLi_weightOf_37 : decode (mB mLi_weightOf) 37 = .ok (.aload_n 0, 1) := op42 (by decide +kernel)
theorem dLi_weightOf_38 : decode (mB mLi_weightOf) 38 = .ok (.getfield 11, 3) := op180 0 11 (by decide +kernel)
theorem dLi_weightOf_41 : decode (mB mLi_weightOf) 41 = .ok (.iload_n 2, 1) := op28 (by decide +kernel)
theorem dLi_weightOf_42 : decode (mB mLi_weightOf) 42 = .ok (.aaload, 1) := op50 (by decide +kernel)
theorem dLi_weightOf_43 : decode (mB mLi_weightOf) 43 = .ok (.getfield 98, 3) := op180 0 98 (by decide +kernel)
theorem dLi_weightOf_46 : decode (mB mLi_weightOf) 46 = .ok (.ifCond .lt 19, 3) := op155 0 19 (by decide +kernel)
theorem dLi_weightOf_49 : decode (mB mLi_weightOf) 49 = .ok (.aload_n 0, 1) := op42 (by decide +kernel)
theorem dLi_weightOf_50 : decode (mB mLi_weightOf) 50 = .ok (.getfield 11, 3) := op180 0 11 (by decide +kernel)
theorem dLi_weightOf_53 : decode (mB mLi_weightOf) 53 = .ok (.iload_n 2, 1) := op28 (by decide +kernel)
theorem dLi_weightOf_54 : decode (mB mLi_weightOf) 54 = .ok (.aaload, 1) := op50 (by decide +kernel)
theorem dLi_weightOf_55 : decode (mB mLi_weightOf) 55 = .ok (.getfield 98, 3) := op180 0 98 (by decide +kernel)
theorem dLi_weightOf_58 : decode (mB mLi_weightOf) 58 = .ok (.istore_n 2, 1) := op61 (by decide +kernel)
theorem dLi_weightOf_59 : decode (mB mLi_weightOf) 59 = .ok (.iinc 3 1, 3) := op132 3 1 (by decide +kernel)
theorem dLi_weightOf_62 : decode (mB mLi_weightOf) 62 = .ok (.goto (-33), 3) := op167 255 223 (by decide +kernel)
theorem dLi_weightOf_65 : decode (mB mLi_weightOf) 65 = .ok (.aload_n 0, 1) := op42 (by decide +kernel)
theorem dLi_weightOf_66 : decode (mB mLi_weightOf) 66 = .ok (.getfield 11, 3) := op180 0 11 (by decide +kernel)
theorem dLi_weightOf_69 : decode (mB mLi_weightOf) 69 = .ok (.iload_n 2, 1) := op28 (by decide +kernel)
theorem dLi_weightOf_70 : decode (mB mLi_weightOf) 70 = .ok (.aaload, 1) := op50 (by decide +kernel)
theorem dLi_weightOf_71 : decode (mB mLi_weightOf) 71 = .ok (.getfield 121, 3) := op180 0 121 (by decide +kernel)
theorem dLi_weightOf_74 : decode (mB mLi_weightOf) 74 = .ok (.invokestatic 149, 3) := op184 0 149 (by decide +kernel)
theorem dLi_weightOf_77 : decode (mB mLi_weightOf) 77 = .ok (.aload_n 0, 1) := op42 (by decide +kernel)
theorem dLi_weightOf_78 : decode (mB mLi_weightOf) 78 = .ok (.getfield 11, 3) := op180 0 11 (by decide +kernel)
theorem dLi_weightOf_81 : decode (mB mLi_weightOf) 81 = .ok (.iload_n 2, 1) := op28 (by decide +kernel)
theorem dLi_weightOf_82 : decode (mB mLi_weightOf) 82 = .ok (.aaload, 1) := op50 (by decide +kernel)
theorem dLi_weightOf_83 : decode (mB mLi_weightOf) 83 = .ok (.getfield 139, 3) := op180 0 139 (by decide +kernel)
theorem dLi_weightOf_86 : decode (mB mLi_weightOf) 86 = .ok (.invokestatic 149, 3) := op184 0 149 (by decide +kernel)
theorem dLi_weightOf_89 : decode (mB mLi_weightOf) 89 = .ok (.iadd, 1) := op96 (by decide +kernel)
theorem dLi_weightOf_90 : decode (mB mLi_weightOf) 90 = .ok (.ireturn, 1) := op172 (by decide +kernel)

theorem vLi_weightOf_0 {M : Mm} {b : Nat × Nat} {K : Int32 → Mm → Prop} {v0 : Nat} {v1 : Int32} {r1 : Nat} (kv0 : v0 % 64 = 1) (e1 : gr M v0 0 = some r1)
    (h : vp_in v1 24 ∧ (∃ r2 : Nat, gr M r1 (v1).toNatClampNeg = some r2 ∧ (((gi M r2 6) < 0 → (X mLi_weightOf 25 [(0, .ref v0), (1, .int v1)] [] M b (QI K))) ∧ (¬ (gi M r2 6) < 0 → (CI mC_holds [.int (gi M v0 13), .int v1] M (fun rv N => X mLi_weightOf 20 [(0, .ref v0), (1, .int v1)] [.int rv] N b (QI K))))))) : X mLi_weightOf 0 [(0, .ref v0), (1, .int v1)] [] M b (QI K) := by
  refine x_wf (fun hw => ?_)
  refine x_aload_n (pc := 0) dLi_weightOf_0 rfl (q := 0) rfl ?_
  refine x_getR (pc := 1) dLi_weightOf_1 kv0 flLi_11 rfl e1 ?_
  refine x_iload_n (pc := 4) dLi_weightOf_4 rfl (q := 1) rfl ?_
  obtain ⟨s501, h⟩ := h
  obtain ⟨r2, s502, h⟩ := h
  refine x_aldR (pc := 5) (Or.inl rfl) dLi_weightOf_5 (wfk hw e1 kv0) ak_18 s501 s502 ?_
  refine x_getI (pc := 6) dLi_weightOf_6 (wfk hw s502 (wfk hw e1 kv0)) flLi_98 rfl ?_
  obtain ⟨g1_0, g1_1⟩ := h
  refine x_if_lt (pc := 9) dLi_weightOf_9 (t := 25) rfl (fun q1 => ?_) (fun q1 => ?_)
  · have h := g1_0 q1
    exact h
  · refine x_aload_n (pc := 12) dLi_weightOf_12 rfl (q := 0) rfl ?_
    refine x_getI (pc := 13) dLi_weightOf_13 kv0 flLi_108 rfl ?_
    refine x_iload_n (pc := 16) dLi_weightOf_16 rfl (q := 1) rfl ?_
    have h := g1_1 q1
    exact x_invSN (pc := 17) dLi_weightOf_17 (S := []) (As := [.int (gi M v0 13), .int v1]) nlLi_101 hC_holds rfl ⟨by decide, by decide⟩ ⟨Nat.zero_le _, Nat.zero_le _⟩ rfl (Nat.le_of_ble_eq_true rfl) (aftI (b' := b) ⟨Nat.le_refl _, Nat.le_refl _⟩ (fun rv N h => h) h)

theorem vLi_weightOf_20 {M : Mm} {b : Nat × Nat} {K : Int32 → Mm → Prop} {v0 : Nat} {v1 : Int32} {w0 : Int32}  
    (h : (w0 = 0 → (X mLi_weightOf 25 [(0, .ref v0), (1, .int v1)] [] M b (QI K))) ∧ (¬ w0 = 0 → (K 0 M))) : X mLi_weightOf 20 [(0, .ref v0), (1, .int v1)] [.int w0] M b (QI K) := by
  refine x_wf (fun hw => ?_)
  obtain ⟨g1_0, g1_1⟩ := h
  refine x_if_eq (pc := 20) dLi_weightOf_20 (t := 25) rfl (fun q1 => ?_) (fun q1 => ?_)
  · have h := g1_0 q1
    exact h
  · refine x_iconst (pc := 23) dLi_weightOf_23 (v := 0) rfl ?_
    have h := g1_1 q1
    exact x_retQI (pc := 24) dLi_weightOf_24 rfl rfl h

theorem vLi_weightOf_25 {M : Mm} {b : Nat × Nat} {K : Int32 → Mm → Prop} {v0 : Nat} {v1 : Int32}  
    (h : X mLi_weightOf 29 [(0, .ref v0), (2, .int v1), (3, .int 0)] [] M b (QI K)) : X mLi_weightOf 25 [(0, .ref v0), (1, .int v1)] [] M b (QI K) := by
  refine x_wf (fun hw => ?_)
  refine x_iload_n (pc := 25) dLi_weightOf_25 rfl (q := 1) rfl ?_
  refine x_istore_n (pc := 26) dLi_weightOf_26 rfl (by decide) (L' := [(2, .int v1), (0, .ref v0), (1, .int v1)]) rfl ?_
  refine x_iconst (pc := 27) dLi_weightOf_27 (v := 0) rfl ?_
  refine x_istore_n (pc := 28) dLi_weightOf_28 rfl (by decide) (L' := [(3, .int 0), (2, .int v1), (0, .ref v0), (1, .int v1)]) rfl ?_
  exact x_loc [2, 1, 0] rfl h

theorem vLi_weightOf_29 {M : Mm} {b : Nat × Nat} {K : Int32 → Mm → Prop} {v0 : Nat} {v2 : Int32} {v3 : Int32} {r1 : Nat} (kv0 : v0 % 64 = 1) (e1 : gr M v0 0 = some r1)
    (h : ((gi M v0 1) ≤ v3 → (X mLi_weightOf 65 [(0, .ref v0), (2, .int v2)] [] M b (QI K))) ∧ (¬ (gi M v0 1) ≤ v3 → (vp_in v2 24 ∧ (∃ r2 : Nat, gr M r1 (v2).toNatClampNeg = some r2 ∧ (((gi M r2 6) < 0 → (X mLi_weightOf 65 [(0, .ref v0), (2, .int v2)] [] M b (QI K))) ∧ (¬ (gi M r2 6) < 0 → (vp_in v2 24 ∧ (∃ r3 : Nat, gr M r1 (v2).toNatClampNeg = some r3 ∧ (X mLi_weightOf 29 [(0, .ref v0), (2, .int (gi M r3 6)), (3, .int (v3 + 1))] [] M b (QI K)))))))))) : X mLi_weightOf 29 [(0, .ref v0), (2, .int v2), (3, .int v3)] [] M b (QI K) := by
  refine x_wf (fun hw => ?_)
  refine x_iload_n (pc := 29) dLi_weightOf_29 rfl (q := 2) rfl ?_
  refine x_aload_n (pc := 30) dLi_weightOf_30 rfl (q := 0) rfl ?_
  refine x_getI (pc := 31) dLi_weightOf_31 kv0 flLi_55 rfl ?_
  obtain ⟨g1_0, g1_1⟩ := h
  refine x_icmp_ge (pc := 34) dLi_weightOf_34 (t := 65) rfl (fun q1 => ?_) (fun q1 => ?_)
  · have h := g1_0 q1
    exact x_loc [0, 1] rfl h
  · refine x_aload_n (pc := 37) dLi_weightOf_37 rfl (q := 0) rfl ?_
    refine x_getR (pc := 38) dLi_weightOf_38 kv0 flLi_11 rfl e1 ?_
    refine x_iload_n (pc := 41) dLi_weightOf_41 rfl (q := 1) rfl ?_
    have h := g1_1 q1
    obtain ⟨s501, h⟩ := h
    obtain ⟨r2, s502, h⟩ := h
    refine x_aldR (pc := 42) (Or.inl rfl) dLi_weightOf_42 (wfk hw e1 kv0) ak_18 s501 s502 ?_
    refine x_getI (pc := 43) dLi_weightOf_43 (wfk hw s502 (wfk hw e1 kv0)) flLi_98 rfl ?_
    obtain ⟨g2_0, g2_1⟩ := h
    refine x_if_lt (pc := 46) dLi_weightOf_46 (t := 65) rfl (fun q2 => ?_) (fun q2 => ?_)
    · have h := g2_0 q2
      exact x_loc [0, 1] rfl h
    · refine x_aload_n (pc := 49) dLi_weightOf_49 rfl (q := 0) rfl ?_
      refine x_getR (pc := 50) dLi_weightOf_50 kv0 flLi_11 rfl e1 ?_
      refine x_iload_n (pc := 53) dLi_weightOf_53 rfl (q := 1) rfl ?_
      have h := g2_1 q2
      obtain ⟨s503, h⟩ := h
      obtain ⟨r3, s504, h⟩ := h
      refine x_aldR (pc := 54) (Or.inl rfl) dLi_weightOf_54 (wfk hw e1 kv0) ak_18 s503 s504 ?_
      refine x_getI (pc := 55) dLi_weightOf_55 (wfk hw s504 (wfk hw e1 kv0)) flLi_98 rfl ?_
      refine x_istore_n (pc := 58) dLi_weightOf_58 rfl (by decide) (L' := [(2, .int (gi M r3 6)), (0, .ref v0), (3, .int v3)]) rfl ?_
      refine x_iinc (pc := 59) dLi_weightOf_59 (q := 2) rfl (v := v3 + 1) rfl (by decide) (L' := [(3, .int (v3 + 1)), (2, .int (gi M r3 6)), (0, .ref v0)]) rfl ?_
      refine x_goto (pc := 62) dLi_weightOf_62 (t := 29) rfl ?_
      exact x_loc [2, 1, 0] rfl h

theorem vLi_weightOf_65 {M : Mm} {b : Nat × Nat} {K : Int32 → Mm → Prop} {v0 : Nat} {v2 : Int32} {r1 : Nat} (kv0 : v0 % 64 = 1) (e1 : gr M v0 0 = some r1)
    (h : vp_in v2 24 ∧ (∃ r2 : Nat, gr M r1 (v2).toNatClampNeg = some r2 ∧ (CI mJi_bitCount [.int (gi M r2 3)] M (fun rv N => X mLi_weightOf 77 [(0, .ref v0), (2, .int v2)] [.int rv] N b (QI K))))) : X mLi_weightOf 65 [(0, .ref v0), (2, .int v2)] [] M b (QI K) := by
  refine x_wf (fun hw => ?_)
  refine x_aload_n (pc := 65) dLi_weightOf_65 rfl (q := 0) rfl ?_
  refine x_getR (pc := 66) dLi_weightOf_66 kv0 flLi_11 rfl e1 ?_
  refine x_iload_n (pc := 69) dLi_weightOf_69 rfl (q := 1) rfl ?_
  obtain ⟨s501, h⟩ := h
  obtain ⟨r2, s502, h⟩ := h
  refine x_aldR (pc := 70) (Or.inl rfl) dLi_weightOf_70 (wfk hw e1 kv0) ak_18 s501 s502 ?_
  refine x_getI (pc := 71) dLi_weightOf_71 (wfk hw s502 (wfk hw e1 kv0)) flLi_121 rfl ?_
  exact x_invS (pc := 74) dLi_weightOf_74 (S := []) (As := [.int (gi M r2 3)]) mlLi_149 hJi_bitCount rfl ⟨by decide, by decide⟩ ⟨Nat.zero_le _, Nat.zero_le _⟩ rfl (Nat.le_of_ble_eq_true rfl) (aftI (b' := b) ⟨Nat.le_refl _, Nat.le_refl _⟩ (fun rv N h => h) h)

theorem vLi_weightOf_77 {M : Mm} {b : Nat × Nat} {K : Int32 → Mm → Prop} {v0 : Nat} {v2 : Int32} {w0 : Int32} {r1 : Nat} (kv0 : v0 % 64 = 1) (e1 : gr M v0 0 = some r1)
    (h : vp_in v2 24 ∧ (∃ r2 : Nat, gr M r1 (v2).toNatClampNeg = some r2 ∧ (CI mJi_bitCount [.int (gi M r2 4)] M (fun rv N => X mLi_weightOf 89 [] [.int rv, .int w0] N b (QI K))))) : X mLi_weightOf 77 [(0, .ref v0), (2, .int v2)] [.int w0] M b (QI K) := by
  refine x_wf (fun hw => ?_)
  refine x_aload_n (pc := 77) dLi_weightOf_77 rfl (q := 0) rfl ?_
  refine x_getR (pc := 78) dLi_weightOf_78 kv0 flLi_11 rfl e1 ?_
  refine x_iload_n (pc := 81) dLi_weightOf_81 rfl (q := 1) rfl ?_
  obtain ⟨s501, h⟩ := h
  obtain ⟨r2, s502, h⟩ := h
  refine x_aldR (pc := 82) (Or.inl rfl) dLi_weightOf_82 (wfk hw e1 kv0) ak_18 s501 s502 ?_
  refine x_getI (pc := 83) dLi_weightOf_83 (wfk hw s502 (wfk hw e1 kv0)) flLi_139 rfl ?_
  exact x_invS (pc := 86) dLi_weightOf_86 (S := [.int w0]) (As := [.int (gi M r2 4)]) mlLi_149 hJi_bitCount rfl ⟨by decide, by decide⟩ ⟨Nat.zero_le _, Nat.zero_le _⟩ rfl (Nat.le_of_ble_eq_true rfl) (aftI (b' := b) ⟨Nat.le_refl _, Nat.le_refl _⟩ (fun rv N h => x_loc [] rfl h) h)

theorem vLi_weightOf_89 {M : Mm} {b : Nat × Nat} {K : Int32 → Mm → Prop} {w0 : Int32} {w1 : Int32}  
    (h : K (w1 + w0) M) : X mLi_weightOf 89 [] [.int w0, .int w1] M b (QI K) := by
  refine x_wf (fun hw => ?_)
  refine x_iadd (pc := 89) dLi_weightOf_89 ?_
  exact x_retQI (pc := 90) dLi_weightOf_90 rfl rfl h

theorem dLi_askLaws_0 : decode (mB mLi_askLaws) 0 = .ok (.iconst 0, 1) := op3 (by decide +kernel)
theorem dLi_askLaws_1 : decode (mB mLi_askLaws) 1 = .ok (.istore_n 1, 1) := op60 (by decide +kernel)
theorem dLi_askLaws_2 : decode (mB mLi_askLaws) 2 = .ok (.iload_n 1, 1) := op27 (by decide +kernel)
theorem dLi_askLaws_3 : decode (mB mLi_askLaws) 3 = .ok (.bipush 64, 2) := op16 64 (by decide +kernel)
theorem dLi_askLaws_5 : decode (mB mLi_askLaws) 5 = .ok (.if_icmp .ge 33, 3) := op162 0 33 (by decide +kernel)
theorem dLi_askLaws_8 : decode (mB mLi_askLaws) 8 = .ok (.aload_n 0, 1) := op42 (by decide +kernel)
theorem dLi_askLaws_9 : decode (mB mLi_askLaws) 9 = .ok (.getfield 27, 3) := op180 0 27 (by decide +kernel)
theorem dLi_askLaws_12 : decode (mB mLi_askLaws) 12 = .ok (.iload_n 1, 1) := op27 (by decide +kernel)
theorem dLi_askLaws_13 : decode (mB mLi_askLaws) 13 = .ok (.aload_n 0, 1) := op42 (by decide +kernel)
theorem dLi_askLaws_14 : decode (mB mLi_askLaws) 14 = .ok (.iload_n 1, 1) := op27 (by decide +kernel)
theorem dLi_askLaws_15 : decode (mB mLi_askLaws) 15 = .ok (.iconst 1, 1) := op4 (by decide +kernel)
theorem dLi_askLaws_16 : decode (mB mLi_askLaws) 16 = .ok (.invokevirtual 154, 3) := op182 0 154 (by decide +kernel)
theorem dLi_askLaws_19 : decode (mB mLi_askLaws) 19 = .ok (.iastore, 1) := op79 (by decide +kernel)
theorem dLi_askLaws_20 : decode (mB mLi_askLaws) 20 = .ok (.aload_n 0, 1) := op42 (by decide +kernel)
theorem dLi_askLaws_21 : decode (mB mLi_askLaws) 21 = .ok (.getfield 30, 3) := op180 0 30 (by decide +kernel)
theorem dLi_askLaws_24 : decode (mB mLi_askLaws) 24 = .ok (.iload_n 1, 1) := op27 (by decide +kernel)
theorem dLi_askLaws_25 : decode (mB mLi_askLaws) 25 = .ok (.aload_n 0, 1) := op42 (by decide +kernel)
theorem dLi_askLaws_26 : decode (mB mLi_askLaws) 26 = .ok (.iload_n 1, 1) := op27 (by decide +kernel)
theorem dLi_askLaws_27 : decode (mB mLi_askLaws) 27 = .ok (.iconst 0, 1) := op3 (by decide +kernel)
theorem dLi_askLaws_28 : decode (mB mLi_askLaws) 28 = .ok (.invokevirtual 154, 3) := op182 0 154 (by decide +kernel)
theorem dLi_askLaws_31 : decode (mB mLi_askLaws) 31 = .ok (.iastore, 1) := op79 (by decide +kernel)
theorem dLi_askLaws_32 : decode (mB mLi_askLaws) 32 = .ok (.iinc 1 1, 3) := op132 1 1 (by decide +kernel)
theorem dLi_askLaws_35 : decode (mB mLi_askLaws) 35 = .ok (.goto (-33), 3) := op167 255 223 (by decide +kernel)
theorem dLi_askLaws_38 : decode (mB mLi_askLaws) 38 = .ok (.return_, 1) := op177 (by decide +kernel)

theorem vLi_askLaws_0 {M : Mm} {b : Nat × Nat} {K : Mm → Prop} {v0 : Nat}  
    (h : X mLi_askLaws 2 [(0, .ref v0), (1, .int 0)] [] M b (QV K)) : X mLi_askLaws 0 [(0, .ref v0)] [] M b (QV K) := by
  refine x_wf (fun hw => ?_)
  refine x_iconst (pc := 0) dLi_askLaws_0 (v := 0) rfl ?_
  refine x_istore_n (pc := 1) dLi_askLaws_1 rfl (by decide) (L' := [(1, .int 0), (0, .ref v0)]) rfl ?_
  exact x_loc [1, 0] rfl h

theorem vLi_askLaws_2 {M : Mm} {b : Nat × Nat} {K : Mm → Prop} {v0 : Nat} {v1 : Int32} {r1 : Nat} (kv0 : v0 % 64 = 1) (e1 : gr M v0 5 = some r1)
    (h : (64 ≤ v1 → (K M)) ∧ (¬ 64 ≤ v1 → (CI mLi_lawSaying [.ref v0, .int v1, .int 1] M (fun rv N => X mLi_askLaws 19 [(0, .ref v0), (1, .int v1)] [.int rv, .int v1, .ref r1] N b (QV K))))) : X mLi_askLaws 2 [(0, .ref v0), (1, .int v1)] [] M b (QV K) := by
  refine x_wf (fun hw => ?_)
  refine x_iload_n (pc := 2) dLi_askLaws_2 rfl (q := 1) rfl ?_
  refine x_bipush (pc := 3) dLi_askLaws_3 (v := 64) rfl ?_
  obtain ⟨g1_0, g1_1⟩ := h
  refine x_icmp_ge (pc := 5) dLi_askLaws_5 (t := 38) rfl (fun q1 => ?_) (fun q1 => ?_)
  · have h := g1_0 q1
    exact x_retQV (pc := 38) dLi_askLaws_38 rfl h
  · refine x_aload_n (pc := 8) dLi_askLaws_8 rfl (q := 0) rfl ?_
    refine x_getR (pc := 9) dLi_askLaws_9 kv0 flLi_27 rfl e1 ?_
    refine x_iload_n (pc := 12) dLi_askLaws_12 rfl (q := 1) rfl ?_
    refine x_aload_n (pc := 13) dLi_askLaws_13 rfl (q := 0) rfl ?_
    refine x_iload_n (pc := 14) dLi_askLaws_14 rfl (q := 1) rfl ?_
    refine x_iconst (pc := 15) dLi_askLaws_15 (v := 1) rfl ?_
    have h := g1_1 q1
    exact x_invV (pc := 16) dLi_askLaws_16 (c := 1) (S := [.int v1, .ref r1]) (As := [.int v1, .int 1]) mlLi_154 hLi_lawSaying rfl (by decide) rfl kv0 ⟨by decide, by decide⟩ ⟨Nat.zero_le _, Nat.zero_le _⟩ rfl (Nat.le_of_ble_eq_true rfl) (aftI (b' := b) ⟨Nat.le_refl _, Nat.le_refl _⟩ (fun rv N h => h) h)

theorem vLi_askLaws_19 {M : Mm} {b : Nat × Nat} {K : Mm → Prop} {v0 : Nat} {v1 : Int32} {w0 : Int32} {w1 : Int32} {w2 : Nat} {r1 : Nat} (kw2 : w2 % 64 = 14) (kv0 : v0 % 64 = 1) (e1 : gr M v0 6 = some r1)
    (h : vp_in w1 64 ∧ (CI mLi_lawSaying [.ref v0, .int v1, .int 0] (si M w2 (w1).toNatClampNeg w0) (fun rv N => X mLi_askLaws 31 [(0, .ref v0), (1, .int v1)] [.int rv, .int v1, .ref r1] N b (QV K)))) : X mLi_askLaws 19 [(0, .ref v0), (1, .int v1)] [.int w0, .int w1, .ref w2] M b (QV K) := by
  refine x_wf (fun hw => ?_)
  obtain ⟨s501, h⟩ := h
  refine x_astIj (pc := 19) (j := (w1).toNatClampNeg) (v := w0) (Or.inl ⟨rfl, rfl, rfl⟩) dLi_askLaws_19 kw2 ak_14 rfl s501 ?_
  refine x_aload_n (pc := 20) dLi_askLaws_20 rfl (q := 0) rfl ?_
  refine x_getR (pc := 21) dLi_askLaws_21 kv0 flLi_30 rfl e1 ?_
  refine x_iload_n (pc := 24) dLi_askLaws_24 rfl (q := 1) rfl ?_
  refine x_aload_n (pc := 25) dLi_askLaws_25 rfl (q := 0) rfl ?_
  refine x_iload_n (pc := 26) dLi_askLaws_26 rfl (q := 1) rfl ?_
  refine x_iconst (pc := 27) dLi_askLaws_27 (v := 0) rfl ?_
  exact x_invV (pc := 28) dLi_askLaws_28 (c := 1) (S := [.int v1, .ref r1]) (As := [.int v1, .int 0]) mlLi_154 hLi_lawSaying rfl (by decide) rfl kv0 ⟨by decide, by decide⟩ ⟨Nat.zero_le _, Nat.zero_le _⟩ rfl (Nat.le_of_ble_eq_true rfl) (aftI (b' := b) ⟨Nat.le_refl _, Nat.le_refl _⟩ (fun rv N h => h) h)

theorem vLi_askLaws_31 {M : Mm} {b : Nat × Nat} {K : Mm → Prop} {v0 : Nat} {v1 : Int32} {w0 : Int32} {w1 : Int32} {w2 : Nat} (kw2 : w2 % 64 = 14) 
    (h : vp_in w1 64 ∧ (X mLi_askLaws 2 [(0, .ref v0), (1, .int (v1 + 1))] [] (si M w2 (w1).toNatClampNeg w0) b (QV K))) : X mLi_askLaws 31 [(0, .ref v0), (1, .int v1)] [.int w0, .int w1, .ref w2] M b (QV K) := by
  refine x_wf (fun hw => ?_)
  obtain ⟨s501, h⟩ := h
  refine x_astIj (pc := 31) (j := (w1).toNatClampNeg) (v := w0) (Or.inl ⟨rfl, rfl, rfl⟩) dLi_askLaws_31 kw2 ak_14 rfl s501 ?_
  refine x_iinc (pc := 32) dLi_askLaws_32 (q := 1) rfl (v := v1 + 1) rfl (by decide) (L' := [(1, .int (v1 + 1)), (0, .ref v0)]) rfl ?_
  refine x_goto (pc := 35) dLi_askLaws_35 (t := 2) rfl ?_
  exact x_loc [1, 0] rfl h

theorem dLi_lawSaying_0 : decode (mB mLi_lawSaying) 0 = .ok (.aload_n 0, 1) := op42 (by decide +kernel)
theorem dLi_lawSaying_1 : decode (mB mLi_lawSaying) 1 = .ok (.iload_n 1, 1) := op27 (by decide +kernel)
theorem dLi_lawSaying_2 : decode (mB mLi_lawSaying) 2 = .ok (.invokevirtual 158, 3) := op182 0 158 (by decide +kernel)
theorem dLi_lawSaying_5 : decode (mB mLi_lawSaying) 5 = .ok (.aload_n 0, 1) := op42 (by decide +kernel)
theorem dLi_lawSaying_6 : decode (mB mLi_lawSaying) 6 = .ok (.getfield 83, 3) := op180 0 83 (by decide +kernel)
theorem dLi_lawSaying_9 : decode (mB mLi_lawSaying) 9 = .ok (.iand, 1) := op126 (by decide +kernel)
theorem dLi_lawSaying_10 : decode (mB mLi_lawSaying) 10 = .ok (.istore_n 3, 1) := op62 (by decide +kernel)
theorem dLi_lawSaying_11 : decode (mB mLi_lawSaying) 11 = .ok (.iconst 0, 1) := op3 (by decide +kernel)
theorem dLi_lawSaying_12 : decode (mB mLi_lawSaying) 12 = .ok (.istore 4, 2) := op54 4 (by decide +kernel)
theorem dLi_lawSaying_14 : decode (mB mLi_lawSaying) 14 = .ok (.bipush (-4), 2) := op16 252 (by decide +kernel)
theorem dLi_lawSaying_16 : decode (mB mLi_lawSaying) 16 = .ok (.istore 5, 2) := op54 5 (by decide +kernel)
theorem dLi_lawSaying_18 : decode (mB mLi_lawSaying) 18 = .ok (.iconst 0, 1) := op3 (by decide +kernel)
theorem dLi_lawSaying_19 : decode (mB mLi_lawSaying) 19 = .ok (.istore 6, 2) := op54 6 (by decide +kernel)
theorem dLi_lawSaying_21 : decode (mB mLi_lawSaying) 21 = .ok (.iload 6, 2) := op21 6 (by decide +kernel)
theorem dLi_lawSaying_23 : decode (mB mLi_lawSaying) 23 = .ok (.aload_n 0, 1) := op42 (by decide +kernel)
theorem dLi_lawSaying_24 : decode (mB mLi_lawSaying) 24 = .ok (.getfield 55, 3) := op180 0 55 (by decide +kernel)
theorem dLi_lawSaying_27 : decode (mB mLi_lawSaying) 27 = .ok (.if_icmp .ge 87, 3) := op162 0 87 (by decide +kernel)
theorem dLi_lawSaying_30 : decode (mB mLi_lawSaying) 30 = .ok (.iload_n 3, 1) := op29 (by decide +kernel)
theorem dLi_lawSaying_31 : decode (mB mLi_lawSaying) 31 = .ok (.ifCond .eq 83, 3) := op153 0 83 (by decide +kernel)
theorem dLi_lawSaying_34 : decode (mB mLi_lawSaying) 34 = .ok (.iload_n 3, 1) := op29 (by decide +kernel)
theorem dLi_lawSaying_35 : decode (mB mLi_lawSaying) 35 = .ok (.iload 6, 2) := op21 6 (by decide +kernel)
theorem dLi_lawSaying_37 : decode (mB mLi_lawSaying) 37 = .ok (.invokestatic 101, 3) := op184 0 101 (by decide +kernel)
theorem dLi_lawSaying_40 : decode (mB mLi_lawSaying) 40 = .ok (.ifCond .eq 68, 3) := op153 0 68 (by decide +kernel)
theorem dLi_lawSaying_43 : decode (mB mLi_lawSaying) 43 = .ok (.aload_n 0, 1) := op42 (by decide +kernel)
theorem dLi_lawSaying_44 : decode (mB mLi_lawSaying) 44 = .ok (.getfield 11, 3) := op180 0 11 (by decide +kernel)
theorem dLi_lawSaying_47 : decode (mB mLi_lawSaying) 47 = .ok (.iload 6, 2) := op21 6 (by decide +kernel)
theorem dLi_lawSaying_49 : decode (mB mLi_lawSaying) 49 = .ok (.aaload, 1) := op50 (by decide +kernel)
theorem dLi_lawSaying_50 : decode (mB mLi_lawSaying) 50 = .ok (.getfield 161, 3) := op180 0 161 (by decide +kernel)
theorem dLi_lawSaying_53 : decode (mB mLi_lawSaying) 53 = .ok (.istore 7, 2) := op54 7 (by decide +kernel)
theorem dLi_lawSaying_55 : decode (mB mLi_lawSaying) 55 = .ok (.iload 4, 2) := op21 4 (by decide +kernel)
theorem dLi_lawSaying_57 : decode (mB mLi_lawSaying) 57 = .ok (.ifCond .eq 24, 3) := op153 0 24 (by decide +kernel)
theorem dLi_lawSaying_60 : decode (mB mLi_lawSaying) 60 = .ok (.iload_n 2, 1) := op28 (by decide +kernel)
theorem dLi_lawSaying_61 : decode (mB mLi_lawSaying) 61 = .ok (.ifCond .eq 13, 3) := op153 0 13 (by decide +kernel)
theorem dLi_lawSaying_64 : decode (mB mLi_lawSaying) 64 = .ok (.iload 7, 2) := op21 7 (by decide +kernel)
theorem dLi_lawSaying_66 : decode (mB mLi_lawSaying) 66 = .ok (.iload 5, 2) := op21 5 (by decide +kernel)
theorem dLi_lawSaying_68 : decode (mB mLi_lawSaying) 68 = .ok (.if_icmp .le 20, 3) := op164 0 20 (by decide +kernel)
theorem dLi_lawSaying_71 : decode (mB mLi_lawSaying) 71 = .ok (.goto 10, 3) := op167 0 10 (by decide +kernel)
theorem dLi_lawSaying_74 : decode (mB mLi_lawSaying) 74 = .ok (.iload 7, 2) := op21 7 (by decide +kernel)
theorem dLi_lawSaying_76 : decode (mB mLi_lawSaying) 76 = .ok (.iload 5, 2) := op21 5 (by decide +kernel)
theorem dLi_lawSaying_78 : decode (mB mLi_lawSaying) 78 = .ok (.if_icmp .ge 10, 3) := op162 0 10 (by decide +kernel)
theorem dLi_lawSaying_81 : decode (mB mLi_lawSaying) 81 = .ok (.iconst 0, 1) := op3 (by decide +kernel)
theorem dLi_lawSaying_82 : decode (mB mLi_lawSaying) 82 = .ok (.istore 4, 2) := op54 4 (by decide +kernel)
theorem dLi_lawSaying_84 : decode (mB mLi_lawSaying) 84 = .ok (.iload 7, 2) := op21 7 (by decide +kernel)
theorem dLi_lawSaying_86 : decode (mB mLi_lawSaying) 86 = .ok (.istore 5, 2) := op54 5 (by decide +kernel)
theorem dLi_lawSaying_88 : decode (mB mLi_lawSaying) 88 = .ok (.iload 4, 2) := op21 4 (by decide +kernel)
theorem dLi_lawSaying_90 : decode (mB mLi_lawSaying) 90 = .ok (.iload 7, 2) := op21 7 (by decide +kernel)
theorem dLi_lawSaying_92 : decode (mB mLi_lawSaying) 92 = .ok (.iload 5, 2) := op21 5 (by decide +kernel)
theorem dLi_lawSaying_94 : decode (mB mLi_lawSaying) 94 = .ok (.if_icmp .ne 10, 3) := op160 0 10 (by decide +kernel)
theorem dLi_lawSaying_97 : decode (mB mLi_lawSaying) 97 = .ok (.iconst 1, 1) := op4 (by decide +kernel)
theorem dLi_lawSaying_98 : decode (mB mLi_lawSaying) 98 = .ok (.iload 6, 2) := op21 6 (by decide +kernel)
theorem dLi_lawSaying_100 : decode (mB mLi_lawSaying) 100 = .ok (.ishl, 1) := op120 (by decide +kernel)
theorem dLi_lawSaying_101 : decode (mB mLi_lawSaying) 101 = .ok (.goto 4, 3) := op167 0 4 (by decide +kernel)
theorem dLi_lawSaying_104 : decode (mB mLi_lawSaying) 104 = .ok (.iconst 0, 1) := op3 (by decide +kernel)
theorem dLi_lawSaying_105 : decode (mB mLi_lawSaying) 105 = .ok (.ior, 1) := op128 (by decide +kernel)
theorem dLi_lawSaying_106 : decode (mB mLi_lawSaying) 106 = .ok (.istore 4, 2) := op54 4 (by decide +kernel)
theorem dLi_lawSaying_108 : decode (mB mLi_lawSaying) 108 = .ok (.iinc 6 1, 3) := op132 6 1 (by decide +kernel)
theorem dLi_lawSaying_111 : decode (mB mLi_lawSaying) 111 = .ok (.goto (-90), 3) := op167 255 166 (by decide +kernel)
theorem dLi_lawSaying_114 : decode (mB mLi_lawSaying) 114 = .ok (.aload_n 0, 1) := op42 (by decide +kernel)
theorem dLi_lawSaying_115 : decode (mB mLi_lawSaying) 115 = .ok (.getfield 21, 3) := op180 0 21 (by decide +kernel)
theorem dLi_lawSaying_118 : decode (mB mLi_lawSaying) 118 = .ok (.iload_n 1, 1) := op27 (by decide +kernel)
theorem dLi_lawSaying_119 : decode (mB mLi_lawSaying) 119 = .ok (.iaload, 1) := op46 (by decide +kernel)
theorem dLi_lawSaying_120 : decode (mB mLi_lawSaying) 120 = .ok (.iload 4, 2) := op21 4 (by decide +kernel)
theorem dLi_lawSaying_122 : decode (mB mLi_lawSaying) 122 = .ok (.iand, 1) := op126 (by decide +kernel)
theorem dLi_lawSaying_123 : decode (mB mLi_lawSaying) 123 = .ok (.aload_n 0, 1) := op42 (by decide +kernel)
theorem dLi_lawSaying_124 : decode (mB mLi_lawSaying) 124 = .ok (.getfield 24, 3) := op180 0 24 (by decide +kernel)
theorem dLi_lawSaying_127 : decode (mB mLi_lawSaying) 127 = .ok (.iload_n 1, 1) := op27 (by decide +kernel)
theorem dLi_lawSaying_128 : decode (mB mLi_lawSaying) 128 = .ok (.iaload, 1) := op46 (by decide +kernel)
theorem dLi_lawSaying_129 : decode (mB mLi_lawSaying) 129 = .ok (.iload 4, 2) := op21 4 (by decide +kernel)
theorem dLi_lawSaying_131 : decode (mB mLi_lawSaying) 131 = .ok (.iand, 1) := op126 (by decide +kernel)
theorem dLi_lawSaying_132 : decode (mB mLi_lawSaying) 132 = .ok (.invokestatic 124, 3) := op184 0 124 (by decide +kernel)
theorem dLi_lawSaying_135 : decode (mB mLi_lawSaying) 135 = .ok (.ireturn, 1) := op172 (by decide +kernel)

theorem vLi_lawSaying_0 {M : Mm} {b : Nat × Nat} {K : Int32 → Mm → Prop} {v0 : Nat} {v1 : Int32} {v2 : Int32} (kv0 : v0 % 64 = 1) 
    (h : CI mLi_speaking [.ref v0, .int v1] M (fun rv N => X mLi_lawSaying 5 [(0, .ref v0), (1, .int v1), (2, .int v2)] [.int rv] N b (QI K))) : X mLi_lawSaying 0 [(0, .ref v0), (1, .int v1), (2, .int v2)] [] M b (QI K) := by
  refine x_wf (fun hw => ?_)
  refine x_aload_n (pc := 0) dLi_lawSaying_0 rfl (q := 0) rfl ?_
  refine x_iload_n (pc := 1) dLi_lawSaying_1 rfl (q := 1) rfl ?_
  exact x_invV (pc := 2) dLi_lawSaying_2 (c := 1) (S := []) (As := [.int v1]) mlLi_158 hLi_speaking rfl (by decide) rfl kv0 ⟨by decide, by decide⟩ ⟨Nat.zero_le _, Nat.zero_le _⟩ rfl (Nat.le_of_ble_eq_true rfl) (aftI (b' := b) ⟨Nat.le_refl _, Nat.le_refl _⟩ (fun rv N h => h) h)

theorem vLi_lawSaying_5 {M : Mm} {b : Nat × Nat} {K : Int32 → Mm → Prop} {v0 : Nat} {v1 : Int32} {v2 : Int32} {w0 : Int32} (kv0 : v0 % 64 = 1) 
    (h : X mLi_lawSaying 21 [(0, .ref v0), (1, .int v1), (2, .int v2), (3, .int (w0 &&& (gi M v0 10))), (4, .int 0), (5, .int (-4)), (6, .int 0)] [] M b (QI K)) : X mLi_lawSaying 5 [(0, .ref v0), (1, .int v1), (2, .int v2)] [.int w0] M b (QI K) := by
  refine x_wf (fun hw => ?_)
  refine x_aload_n (pc := 5) dLi_lawSaying_5 rfl (q := 0) rfl ?_
  refine x_getI (pc := 6) dLi_lawSaying_6 kv0 flLi_83 rfl ?_
  refine x_iand (pc := 9) dLi_lawSaying_9 ?_
  refine x_istore_n (pc := 10) dLi_lawSaying_10 rfl (by decide) (L' := [(3, .int (w0 &&& (gi M v0 10))), (0, .ref v0), (1, .int v1), (2, .int v2)]) rfl ?_
  refine x_iconst (pc := 11) dLi_lawSaying_11 (v := 0) rfl ?_
  refine x_istore (pc := 12) dLi_lawSaying_12 (by decide) (L' := [(4, .int 0), (3, .int (w0 &&& (gi M v0 10))), (0, .ref v0), (1, .int v1), (2, .int v2)]) rfl ?_
  refine x_bipush (pc := 14) dLi_lawSaying_14 (v := (-4)) rfl ?_
  refine x_istore (pc := 16) dLi_lawSaying_16 (by decide) (L' := [(5, .int (-4)), (4, .int 0), (3, .int (w0 &&& (gi M v0 10))), (0, .ref v0), (1, .int v1), (2, .int v2)]) rfl ?_
  refine x_iconst (pc := 18) dLi_lawSaying_18 (v := 0) rfl ?_
  refine x_istore (pc := 19) dLi_lawSaying_19 (by decide) (L' := [(6, .int 0), (5, .int (-4)), (4, .int 0), (3, .int (w0 &&& (gi M v0 10))), (0, .ref v0), (1, .int v1), (2, .int v2)]) rfl ?_
  exact x_loc [4, 5, 6, 3, 2, 1, 0] rfl h

theorem vLi_lawSaying_21 {M : Mm} {b : Nat × Nat} {K : Int32 → Mm → Prop} {v0 : Nat} {v1 : Int32} {v2 : Int32} {v3 : Int32} {v4 : Int32} {v5 : Int32} {v6 : Int32} {r1 : Nat} {r2 : Nat} (kv0 : v0 % 64 = 1) (e1 : gr M v0 3 = some r1) (e2 : gr M v0 4 = some r2)
    (h : ((((gi M v0 1) ≤ v6) ∨ (¬ (gi M v0 1) ≤ v6 ∧ v3 = 0)) → (vp_in v1 64 ∧ (vp_in v1 64 ∧ (CI mC_agreed [.int ((gi M r1 (v1).toNatClampNeg) &&& v4), .int ((gi M r2 (v1).toNatClampNeg) &&& v4)] M (fun rv N => X mLi_lawSaying 135 [] [.int rv] N b (QI K)))))) ∧ ((¬ (gi M v0 1) ≤ v6 ∧ ¬ v3 = 0) → (CI mC_holds [.int v3, .int v6] M (fun rv N => X mLi_lawSaying 40 [(0, .ref v0), (1, .int v1), (2, .int v2), (3, .int v3), (4, .int v4), (5, .int v5), (6, .int v6)] [.int rv] N b (QI K))))) : X mLi_lawSaying 21 [(0, .ref v0), (1, .int v1), (2, .int v2), (3, .int v3), (4, .int v4), (5, .int v5), (6, .int v6)] [] M b (QI K) := by
  refine x_wf (fun hw => ?_)
  refine x_iload (pc := 21) dLi_lawSaying_21 (q := 6) rfl ?_
  refine x_aload_n (pc := 23) dLi_lawSaying_23 rfl (q := 0) rfl ?_
  refine x_getI (pc := 24) dLi_lawSaying_24 kv0 flLi_55 rfl ?_
  obtain ⟨g1_0, g1_1⟩ := h
  have g1_k0 : ((gi M v0 1) ≤ v6) ∨ (¬ (gi M v0 1) ≤ v6 ∧ v3 = 0) → X mLi_lawSaying 114 [(0, .ref v0), (1, .int v1), (2, .int v2), (3, .int v3), (4, .int v4), (5, .int v5), (6, .int v6)] [] M b (QI K) := fun q => by
    have h := g1_0 q
    refine x_aload_n (pc := 114) dLi_lawSaying_114 rfl (q := 0) rfl ?_
    refine x_getR (pc := 115) dLi_lawSaying_115 kv0 flLi_21 rfl e1 ?_
    refine x_iload_n (pc := 118) dLi_lawSaying_118 rfl (q := 1) rfl ?_
    obtain ⟨s501, h⟩ := h
    refine x_aldIj (pc := 119) (j := (v1).toNatClampNeg) (Or.inl ⟨rfl, rfl⟩) dLi_lawSaying_119 (wfk hw e1 kv0) ak_14 rfl s501 ?_
    refine x_iload (pc := 120) dLi_lawSaying_120 (q := 4) rfl ?_
    refine x_iand (pc := 122) dLi_lawSaying_122 ?_
    refine x_aload_n (pc := 123) dLi_lawSaying_123 rfl (q := 0) rfl ?_
    refine x_getR (pc := 124) dLi_lawSaying_124 kv0 flLi_24 rfl e2 ?_
    refine x_iload_n (pc := 127) dLi_lawSaying_127 rfl (q := 1) rfl ?_
    obtain ⟨s502, h⟩ := h
    refine x_aldIj (pc := 128) (j := (v1).toNatClampNeg) (Or.inl ⟨rfl, rfl⟩) dLi_lawSaying_128 (wfk hw e2 kv0) ak_14 rfl s502 ?_
    refine x_iload (pc := 129) dLi_lawSaying_129 (q := 4) rfl ?_
    refine x_iand (pc := 131) dLi_lawSaying_131 ?_
    exact x_invSN (pc := 132) dLi_lawSaying_132 (S := []) (As := [.int ((gi M r1 (v1).toNatClampNeg) &&& v4), .int ((gi M r2 (v1).toNatClampNeg) &&& v4)]) nlLi_124 hC_agreed rfl ⟨by decide, by decide⟩ ⟨Nat.zero_le _, Nat.zero_le _⟩ rfl (Nat.le_of_ble_eq_true rfl) (aftI (b' := b) ⟨Nat.le_refl _, Nat.le_refl _⟩ (fun rv N h => x_loc [] rfl h) h)
  refine x_icmp_ge (pc := 27) dLi_lawSaying_27 (t := 114) rfl (fun q1 => ?_) (fun q1 => ?_)
  · exact g1_k0 (Or.inl q1)
  · refine x_iload_n (pc := 30) dLi_lawSaying_30 rfl (q := 3) rfl ?_
    refine x_if_eq (pc := 31) dLi_lawSaying_31 (t := 114) rfl (fun q2 => ?_) (fun q2 => ?_)
    · exact g1_k0 (Or.inr ⟨q1, q2⟩)
    · refine x_iload_n (pc := 34) dLi_lawSaying_34 rfl (q := 3) rfl ?_
      refine x_iload (pc := 35) dLi_lawSaying_35 (q := 6) rfl ?_
      have h := g1_1 ⟨q1, q2⟩
      exact x_invSN (pc := 37) dLi_lawSaying_37 (S := []) (As := [.int v3, .int v6]) nlLi_101 hC_holds rfl ⟨by decide, by decide⟩ ⟨Nat.zero_le _, Nat.zero_le _⟩ rfl (Nat.le_of_ble_eq_true rfl) (aftI (b' := b) ⟨Nat.le_refl _, Nat.le_refl _⟩ (fun rv N h => h) h)

theorem vLi_lawSaying_40 {M : Mm} {b : Nat × Nat} {K : Int32 → Mm → Prop} {v0 : Nat} {v1 : Int32} {v2 : Int32} {v3 : Int32} {v4 : Int32} {v5 : Int32} {v6 : Int32} {w0 : Int32} {r1 : Nat} (kv0 : v0 % 64 = 1) (e1 : gr M v0 0 = some r1)
    (h : (w0 = 0 → (X mLi_lawSaying 21 [(0, .ref v0), (1, .int v1), (2, .int v2), (3, .int v3), (4, .int v4), (5, .int v5), (6, .int (v6 + 1))] [] M b (QI K))) ∧ (¬ w0 = 0 → (vp_in v6 24 ∧ (∃ r2 : Nat, gr M r1 (v6).toNatClampNeg = some r2 ∧ ((((v4 = 0) ∨ (¬ v4 = 0 ∧ v2 = 0 ∧ ¬ v5 ≤ (gi M r2 8)) ∨ (¬ v4 = 0 ∧ ¬ v2 = 0 ∧ ¬ (gi M r2 8) ≤ v5)) → (X mLi_lawSaying 88 [(0, .ref v0), (1, .int v1), (2, .int v2), (3, .int v3), (4, .int 0), (5, .int (gi M r2 8)), (6, .int v6), (7, .int (gi M r2 8))] [] M b (QI K))) ∧ (((¬ v4 = 0 ∧ v2 = 0 ∧ v5 ≤ (gi M r2 8)) ∨ (¬ v4 = 0 ∧ ¬ v2 = 0 ∧ (gi M r2 8) ≤ v5)) → (X mLi_lawSaying 88 [(0, .ref v0), (1, .int v1), (2, .int v2), (3, .int v3), (4, .int v4), (5, .int v5), (6, .int v6), (7, .int (gi M r2 8))] [] M b (QI K)))))))) : X mLi_lawSaying 40 [(0, .ref v0), (1, .int v1), (2, .int v2), (3, .int v3), (4, .int v4), (5, .int v5), (6, .int v6)] [.int w0] M b (QI K) := by
  refine x_wf (fun hw => ?_)
  obtain ⟨g1_0, g1_1⟩ := h
  refine x_if_eq (pc := 40) dLi_lawSaying_40 (t := 108) rfl (fun q1 => ?_) (fun q1 => ?_)
  · have h := g1_0 q1
    refine x_iinc (pc := 108) dLi_lawSaying_108 (q := 6) rfl (v := v6 + 1) rfl (by decide) (L' := [(6, .int (v6 + 1)), (0, .ref v0), (1, .int v1), (2, .int v2), (3, .int v3), (4, .int v4), (5, .int v5)]) rfl ?_
    refine x_goto (pc := 111) dLi_lawSaying_111 (t := 21) rfl ?_
    exact x_loc [1, 2, 3, 4, 5, 6, 0] rfl h
  · refine x_aload_n (pc := 43) dLi_lawSaying_43 rfl (q := 0) rfl ?_
    refine x_getR (pc := 44) dLi_lawSaying_44 kv0 flLi_11 rfl e1 ?_
    refine x_iload (pc := 47) dLi_lawSaying_47 (q := 6) rfl ?_
    have h := g1_1 q1
    obtain ⟨s501, h⟩ := h
    obtain ⟨r2, s502, h⟩ := h
    refine x_aldR (pc := 49) (Or.inl rfl) dLi_lawSaying_49 (wfk hw e1 kv0) ak_18 s501 s502 ?_
    refine x_getI (pc := 50) dLi_lawSaying_50 (wfk hw s502 (wfk hw e1 kv0)) flLi_161 rfl ?_
    refine x_istore (pc := 53) dLi_lawSaying_53 (by decide) (L' := [(7, .int (gi M r2 8)), (0, .ref v0), (1, .int v1), (2, .int v2), (3, .int v3), (4, .int v4), (5, .int v5), (6, .int v6)]) rfl ?_
    refine x_iload (pc := 55) dLi_lawSaying_55 (q := 5) rfl ?_
    obtain ⟨g2_0, g2_1⟩ := h
    have g2_k0 : (v4 = 0) ∨ (¬ v4 = 0 ∧ v2 = 0 ∧ ¬ v5 ≤ (gi M r2 8)) ∨ (¬ v4 = 0 ∧ ¬ v2 = 0 ∧ ¬ (gi M r2 8) ≤ v5) → X mLi_lawSaying 81 [(7, .int (gi M r2 8)), (0, .ref v0), (1, .int v1), (2, .int v2), (3, .int v3), (4, .int v4), (5, .int v5), (6, .int v6)] [] M b (QI K) := fun q => by
      have h := g2_0 q
      refine x_iconst (pc := 81) dLi_lawSaying_81 (v := 0) rfl ?_
      refine x_istore (pc := 82) dLi_lawSaying_82 (by decide) (L' := [(4, .int 0), (7, .int (gi M r2 8)), (0, .ref v0), (1, .int v1), (2, .int v2), (3, .int v3), (5, .int v5), (6, .int v6)]) rfl ?_
      refine x_iload (pc := 84) dLi_lawSaying_84 (q := 1) rfl ?_
      refine x_istore (pc := 86) dLi_lawSaying_86 (by decide) (L' := [(5, .int (gi M r2 8)), (4, .int 0), (7, .int (gi M r2 8)), (0, .ref v0), (1, .int v1), (2, .int v2), (3, .int v3), (6, .int v6)]) rfl ?_
      exact x_loc [3, 4, 5, 6, 1, 0, 7, 2] rfl h
    have g2_k1 : (¬ v4 = 0 ∧ v2 = 0 ∧ v5 ≤ (gi M r2 8)) ∨ (¬ v4 = 0 ∧ ¬ v2 = 0 ∧ (gi M r2 8) ≤ v5) → X mLi_lawSaying 88 [(7, .int (gi M r2 8)), (0, .ref v0), (1, .int v1), (2, .int v2), (3, .int v3), (4, .int v4), (5, .int v5), (6, .int v6)] [] M b (QI K) := fun q => by
      have h := g2_1 q
      exact x_loc [1, 2, 3, 4, 5, 6, 7, 0] rfl h
    refine x_if_eq (pc := 57) dLi_lawSaying_57 (t := 81) rfl (fun q2 => ?_) (fun q2 => ?_)
    · exact g2_k0 (Or.inl q2)
    · refine x_iload_n (pc := 60) dLi_lawSaying_60 rfl (q := 3) rfl ?_
      refine x_if_eq (pc := 61) dLi_lawSaying_61 (t := 74) rfl (fun q3 => ?_) (fun q3 => ?_)
      · refine x_iload (pc := 74) dLi_lawSaying_74 (q := 0) rfl ?_
        refine x_iload (pc := 76) dLi_lawSaying_76 (q := 6) rfl ?_
        refine x_icmp_ge (pc := 78) dLi_lawSaying_78 (t := 88) rfl (fun q4 => ?_) (fun q4 => ?_)
        · exact g2_k1 (Or.inl ⟨q2, q3, q4⟩)
        · exact g2_k0 (Or.inr (Or.inl ⟨q2, q3, q4⟩))
      · refine x_iload (pc := 64) dLi_lawSaying_64 (q := 0) rfl ?_
        refine x_iload (pc := 66) dLi_lawSaying_66 (q := 6) rfl ?_
        refine x_icmp_le (pc := 68) dLi_lawSaying_68 (t := 88) rfl (fun q5 => ?_) (fun q5 => ?_)
        · exact g2_k1 (Or.inr ⟨q2, q3, q5⟩)
        · refine x_goto (pc := 71) dLi_lawSaying_71 (t := 81) rfl ?_
          exact g2_k0 (Or.inr (Or.inr ⟨q2, q3, q5⟩))

theorem vLi_lawSaying_88 {M : Mm} {b : Nat × Nat} {K : Int32 → Mm → Prop} {v0 : Nat} {v1 : Int32} {v2 : Int32} {v3 : Int32} {v4 : Int32} {v5 : Int32} {v6 : Int32} {v7 : Int32}  
    (h : X mLi_lawSaying 21 [(0, .ref v0), (1, .int v1), (2, .int v2), (3, .int v3), (4, .int (v4 ||| (if v7 = v5 then ((1 : Int32) <<< (v6 &&& 31)) else 0 : Int32))), (5, .int v5), (6, .int (v6 + 1))] [] M b (QI K)) : X mLi_lawSaying 88 [(0, .ref v0), (1, .int v1), (2, .int v2), (3, .int v3), (4, .int v4), (5, .int v5), (6, .int v6), (7, .int v7)] [] M b (QI K) := by
  refine x_wf (fun hw => ?_)
  refine x_iload (pc := 88) dLi_lawSaying_88 (q := 4) rfl ?_
  refine x_iload (pc := 90) dLi_lawSaying_90 (q := 7) rfl ?_
  refine x_iload (pc := 92) dLi_lawSaying_92 (q := 5) rfl ?_
  suffices hJ : X mLi_lawSaying 105 [(0, .ref v0), (1, .int v1), (2, .int v2), (3, .int v3), (4, .int v4), (5, .int v5), (6, .int v6), (7, .int v7)] [.int (if v7 = v5 then ((1 : Int32) <<< (v6 &&& 31)) else 0 : Int32), .int v4] M b (QI K) by
    refine x_icmp_ne (pc := 94) dLi_lawSaying_94 (t := 104) rfl (fun q1 => ?_) (fun q1 => ?_)
    · refine x_iconst (pc := 104) dLi_lawSaying_104 (v := 0) rfl ?_
      first | (rw [if_neg q1] at hJ; exact hJ) | (simp only [if_neg q1] at hJ ⊢; exact hJ)
    · refine x_iconst (pc := 97) dLi_lawSaying_97 (v := 1) rfl ?_
      refine x_iload (pc := 98) dLi_lawSaying_98 (q := 6) rfl ?_
      refine x_ishl (pc := 100) dLi_lawSaying_100 ?_
      refine x_goto (pc := 101) dLi_lawSaying_101 (t := 105) rfl ?_
      first | (rw [if_pos q1] at hJ; exact hJ) | (simp only [if_pos q1] at hJ ⊢; exact hJ)
  refine x_ior (pc := 105) dLi_lawSaying_105 ?_
  refine x_istore (pc := 106) dLi_lawSaying_106 (by decide) (L' := [(4, .int (v4 ||| (if v7 = v5 then ((1 : Int32) <<< (v6 &&& 31)) else 0 : Int32))), (0, .ref v0), (1, .int v1), (2, .int v2), (3, .int v3), (5, .int v5), (6, .int v6), (7, .int v7)]) rfl ?_
  refine x_iinc (pc := 108) dLi_lawSaying_108 (q := 6) rfl (v := v6 + 1) rfl (by decide) (L' := [(6, .int (v6 + 1)), (4, .int (v4 ||| (if v7 = v5 then ((1 : Int32) <<< (v6 &&& 31)) else 0 : Int32))), (0, .ref v0), (1, .int v1), (2, .int v2), (3, .int v3), (5, .int v5), (7, .int v7)]) rfl ?_
  refine x_goto (pc := 111) dLi_lawSaying_111 (t := 21) rfl ?_
  exact x_loc [2, 3, 4, 5, 1, 6, 0] rfl h

theorem vLi_lawSaying_135 {M : Mm} {b : Nat × Nat} {K : Int32 → Mm → Prop} {w0 : Int32}  
    (h : K w0 M) : X mLi_lawSaying 135 [] [.int w0] M b (QI K) := by
  refine x_wf (fun hw => ?_)
  exact x_retQI (pc := 135) dLi_lawSaying_135 rfl rfl h

theorem dLi_speaking_0 : decode (mB mLi_speaking) 0 = .ok (.aload_n 0, 1) := op42 (by decide +kernel)
theorem dLi_speaking_1 : decode (mB mLi_speaking) 1 = .ok (.getfield 21, 3) := op180 0 21 (by decide +kernel)
theorem dLi_speaking_4 : decode (mB mLi_speaking) 4 = .ok (.iload_n 1, 1) := op27 (by decide +kernel)
theorem dLi_speaking_5 : decode (mB mLi_speaking) 5 = .ok (.iaload, 1) := op46 (by decide +kernel)
theorem dLi_speaking_6 : decode (mB mLi_speaking) 6 = .ok (.aload_n 0, 1) := op42 (by decide +kernel)
theorem dLi_speaking_7 : decode (mB mLi_speaking) 7 = .ok (.getfield 24, 3) := op180 0 24 (by decide +kernel)
theorem dLi_speaking_10 : decode (mB mLi_speaking) 10 = .ok (.iload_n 1, 1) := op27 (by decide +kernel)
theorem dLi_speaking_11 : decode (mB mLi_speaking) 11 = .ok (.iaload, 1) := op46 (by decide +kernel)
theorem dLi_speaking_12 : decode (mB mLi_speaking) 12 = .ok (.ior, 1) := op128 (by decide +kernel)
theorem dLi_speaking_13 : decode (mB mLi_speaking) 13 = .ok (.ireturn, 1) := op172 (by decide +kernel)

theorem vLi_speaking_0 {M : Mm} {b : Nat × Nat} {K : Int32 → Mm → Prop} {v0 : Nat} {v1 : Int32} {r1 : Nat} {r2 : Nat} (kv0 : v0 % 64 = 1) (e1 : gr M v0 3 = some r1) (e2 : gr M v0 4 = some r2)
    (h : vp_in v1 64 ∧ (vp_in v1 64 ∧ (K ((gi M r1 (v1).toNatClampNeg) ||| (gi M r2 (v1).toNatClampNeg)) M))) : X mLi_speaking 0 [(0, .ref v0), (1, .int v1)] [] M b (QI K) := by
  refine x_wf (fun hw => ?_)
  refine x_aload_n (pc := 0) dLi_speaking_0 rfl (q := 0) rfl ?_
  refine x_getR (pc := 1) dLi_speaking_1 kv0 flLi_21 rfl e1 ?_
  refine x_iload_n (pc := 4) dLi_speaking_4 rfl (q := 1) rfl ?_
  obtain ⟨s501, h⟩ := h
  refine x_aldIj (pc := 5) (j := (v1).toNatClampNeg) (Or.inl ⟨rfl, rfl⟩) dLi_speaking_5 (wfk hw e1 kv0) ak_14 rfl s501 ?_
  refine x_aload_n (pc := 6) dLi_speaking_6 rfl (q := 0) rfl ?_
  refine x_getR (pc := 7) dLi_speaking_7 kv0 flLi_24 rfl e2 ?_
  refine x_iload_n (pc := 10) dLi_speaking_10 rfl (q := 1) rfl ?_
  obtain ⟨s502, h⟩ := h
  refine x_aldIj (pc := 11) (j := (v1).toNatClampNeg) (Or.inl ⟨rfl, rfl⟩) dLi_speaking_11 (wfk hw e2 kv0) ak_14 rfl s502 ?_
  refine x_ior (pc := 12) dLi_speaking_12 ?_
  exact x_retQI (pc := 13) dLi_speaking_13 rfl rfl h

theorem dLi_mayFollow_0 : decode (mB mLi_mayFollow) 0 = .ok (.aload_n 0, 1) := op42 (by decide +kernel)
theorem dLi_mayFollow_1 : decode (mB mLi_mayFollow) 1 = .ok (.getfield 11, 3) := op180 0 11 (by decide +kernel)
theorem dLi_mayFollow_4 : decode (mB mLi_mayFollow) 4 = .ok (.iload_n 1, 1) := op27 (by decide +kernel)
theorem dLi_mayFollow_5 : decode (mB mLi_mayFollow) 5 = .ok (.aaload, 1) := op50 (by decide +kernel)
theorem dLi_mayFollow_6 : decode (mB mLi_mayFollow) 6 = .ok (.getfield 98, 3) := op180 0 98 (by decide +kernel)
theorem dLi_mayFollow_9 : decode (mB mLi_mayFollow) 9 = .ok (.istore_n 2, 1) := op61 (by decide +kernel)
theorem dLi_mayFollow_10 : decode (mB mLi_mayFollow) 10 = .ok (.iload_n 2, 1) := op28 (by decide +kernel)
theorem dLi_mayFollow_11 : decode (mB mLi_mayFollow) 11 = .ok (.ifCond .lt 33, 3) := op155 0 33 (by decide +kernel)
theorem dLi_mayFollow_14 : decode (mB mLi_mayFollow) 14 = .ok (.iload_n 2, 1) := op28 (by decide +kernel)
theorem dLi_mayFollow_15 : decode (mB mLi_mayFollow) 15 = .ok (.aload_n 0, 1) := op42 (by decide +kernel)
theorem dLi_mayFollow_16 : decode (mB mLi_mayFollow) 16 = .ok (.getfield 55, 3) := op180 0 55 (by decide +kernel)
theorem dLi_mayFollow_19 : decode (mB mLi_mayFollow) 19 = .ok (.if_icmp .ge 25, 3) := op162 0 25 (by decide +kernel)
theorem dLi_mayFollow_22 : decode (mB mLi_mayFollow) 22 = .ok (.iload_n 2, 1) := op28 (by decide +kernel)
theorem dLi_mayFollow_23 : decode (mB mLi_mayFollow) 23 = .ok (.iload_n 1, 1) := op27 (by decide +kernel)
theorem dLi_mayFollow_24 : decode (mB mLi_mayFollow) 24 = .ok (.if_icmp .eq 20, 3) := op159 0 20 (by decide +kernel)
theorem dLi_mayFollow_27 : decode (mB mLi_mayFollow) 27 = .ok (.aload_n 0, 1) := op42 (by decide +kernel)
theorem dLi_mayFollow_28 : decode (mB mLi_mayFollow) 28 = .ok (.getfield 11, 3) := op180 0 11 (by decide +kernel)
theorem dLi_mayFollow_31 : decode (mB mLi_mayFollow) 31 = .ok (.iload_n 2, 1) := op28 (by decide +kernel)
theorem dLi_mayFollow_32 : decode (mB mLi_mayFollow) 32 = .ok (.aaload, 1) := op50 (by decide +kernel)
theorem dLi_mayFollow_33 : decode (mB mLi_mayFollow) 33 = .ok (.getfield 95, 3) := op180 0 95 (by decide +kernel)
theorem dLi_mayFollow_36 : decode (mB mLi_mayFollow) 36 = .ok (.iconst 5, 1) := op8 (by decide +kernel)
theorem dLi_mayFollow_37 : decode (mB mLi_mayFollow) 37 = .ok (.if_icmp .eq 7, 3) := op159 0 7 (by decide +kernel)
theorem dLi_mayFollow_40 : decode (mB mLi_mayFollow) 40 = .ok (.iconst 1, 1) := op4 (by decide +kernel)
theorem dLi_mayFollow_41 : decode (mB mLi_mayFollow) 41 = .ok (.goto 4, 3) := op167 0 4 (by decide +kernel)
theorem dLi_mayFollow_44 : decode (mB mLi_mayFollow) 44 = .ok (.iconst 0, 1) := op3 (by decide +kernel)
theorem dLi_mayFollow_45 : decode (mB mLi_mayFollow) 45 = .ok (.ireturn, 1) := op172 (by decide +kernel)

theorem vLi_mayFollow_0 {M : Mm} {b : Nat × Nat} {K : Int32 → Mm → Prop} {v0 : Nat} {v1 : Int32} {r1 : Nat} (kv0 : v0 % 64 = 1) (e1 : gr M v0 0 = some r1)
    (h : vp_in v1 24 ∧ (∃ r2 : Nat, gr M r1 (v1).toNatClampNeg = some r2 ∧ (((((gi M r2 6) < 0) ∨ (¬ (gi M r2 6) < 0 ∧ (gi M v0 1) ≤ (gi M r2 6)) ∨ (¬ (gi M r2 6) < 0 ∧ ¬ (gi M v0 1) ≤ (gi M r2 6) ∧ (gi M r2 6) = v1)) → (K 0 M)) ∧ ((¬ (gi M r2 6) < 0 ∧ ¬ (gi M v0 1) ≤ (gi M r2 6) ∧ ¬ (gi M r2 6) = v1) → (vp_in (gi M r2 6) 24 ∧ (∃ r3 : Nat, gr M r1 (gi M r2 6).toNatClampNeg = some r3 ∧ (((gi M r3 0) = 5 → (K 0 M)) ∧ (¬ (gi M r3 0) = 5 → (K 1 M))))))))) : X mLi_mayFollow 0 [(0, .ref v0), (1, .int v1)] [] M b (QI K) := by
  refine x_wf (fun hw => ?_)
  refine x_aload_n (pc := 0) dLi_mayFollow_0 rfl (q := 0) rfl ?_
  refine x_getR (pc := 1) dLi_mayFollow_1 kv0 flLi_11 rfl e1 ?_
  refine x_iload_n (pc := 4) dLi_mayFollow_4 rfl (q := 1) rfl ?_
  obtain ⟨s501, h⟩ := h
  obtain ⟨r2, s502, h⟩ := h
  refine x_aldR (pc := 5) (Or.inl rfl) dLi_mayFollow_5 (wfk hw e1 kv0) ak_18 s501 s502 ?_
  refine x_getI (pc := 6) dLi_mayFollow_6 (wfk hw s502 (wfk hw e1 kv0)) flLi_98 rfl ?_
  refine x_istore_n (pc := 9) dLi_mayFollow_9 rfl (by decide) (L' := [(2, .int (gi M r2 6)), (0, .ref v0), (1, .int v1)]) rfl ?_
  refine x_iload_n (pc := 10) dLi_mayFollow_10 rfl (q := 0) rfl ?_
  obtain ⟨g1_0, g1_1⟩ := h
  have g1_k0 : ((gi M r2 6) < 0) ∨ (¬ (gi M r2 6) < 0 ∧ (gi M v0 1) ≤ (gi M r2 6)) ∨ (¬ (gi M r2 6) < 0 ∧ ¬ (gi M v0 1) ≤ (gi M r2 6) ∧ (gi M r2 6) = v1) → X mLi_mayFollow 44 [(2, .int (gi M r2 6)), (0, .ref v0), (1, .int v1)] [] M b (QI K) := fun q => by
    have h := g1_0 q
    refine x_iconst (pc := 44) dLi_mayFollow_44 (v := 0) rfl ?_
    exact x_retQI (pc := 45) dLi_mayFollow_45 rfl (by (repeat' split) <;> rfl) h
  refine x_if_lt (pc := 11) dLi_mayFollow_11 (t := 44) rfl (fun q1 => ?_) (fun q1 => ?_)
  · exact g1_k0 (Or.inl q1)
  · refine x_iload_n (pc := 14) dLi_mayFollow_14 rfl (q := 0) rfl ?_
    refine x_aload_n (pc := 15) dLi_mayFollow_15 rfl (q := 1) rfl ?_
    refine x_getI (pc := 16) dLi_mayFollow_16 kv0 flLi_55 rfl ?_
    refine x_icmp_ge (pc := 19) dLi_mayFollow_19 (t := 44) rfl (fun q2 => ?_) (fun q2 => ?_)
    · exact g1_k0 (Or.inr (Or.inl ⟨q1, q2⟩))
    · refine x_iload_n (pc := 22) dLi_mayFollow_22 rfl (q := 0) rfl ?_
      refine x_iload_n (pc := 23) dLi_mayFollow_23 rfl (q := 2) rfl ?_
      refine x_icmp_eq (pc := 24) dLi_mayFollow_24 (t := 44) rfl (fun q3 => ?_) (fun q3 => ?_)
      · exact g1_k0 (Or.inr (Or.inr ⟨q1, q2, q3⟩))
      · refine x_aload_n (pc := 27) dLi_mayFollow_27 rfl (q := 1) rfl ?_
        refine x_getR (pc := 28) dLi_mayFollow_28 kv0 flLi_11 rfl e1 ?_
        refine x_iload_n (pc := 31) dLi_mayFollow_31 rfl (q := 0) rfl ?_
        have h := g1_1 ⟨q1, q2, q3⟩
        obtain ⟨s503, h⟩ := h
        obtain ⟨r3, s504, h⟩ := h
        refine x_aldR (pc := 32) (Or.inl rfl) dLi_mayFollow_32 (wfk hw e1 kv0) ak_18 s503 s504 ?_
        refine x_getI (pc := 33) dLi_mayFollow_33 (wfk hw s504 (wfk hw e1 kv0)) flLi_95 rfl ?_
        refine x_iconst (pc := 36) dLi_mayFollow_36 (v := 5) rfl ?_
        obtain ⟨g2_0, g2_1⟩ := h
        refine x_icmp_eq (pc := 37) dLi_mayFollow_37 (t := 44) rfl (fun q4 => ?_) (fun q4 => ?_)
        · have h := g2_0 q4
          refine x_iconst (pc := 44) dLi_mayFollow_44 (v := 0) rfl ?_
          exact x_retQI (pc := 45) dLi_mayFollow_45 rfl (by (repeat' split) <;> rfl) h
        · refine x_iconst (pc := 40) dLi_mayFollow_40 (v := 1) rfl ?_
          refine x_goto (pc := 41) dLi_mayFollow_41 (t := 45) rfl ?_
          have h := g2_1 q4
          exact x_retQI (pc := 45) dLi_mayFollow_45 rfl (by (repeat' split) <;> rfl) h

theorem dLi_counting_0 : decode (mB mLi_counting) 0 = .ok (.aload_n 0, 1) := op42 (by decide +kernel)
theorem dLi_counting_1 : decode (mB mLi_counting) 1 = .ok (.aload_n 1, 1) := op43 (by decide +kernel)
theorem dLi_counting_2 : decode (mB mLi_counting) 2 = .ok (.invokevirtual 164, 3) := op182 0 164 (by decide +kernel)
theorem dLi_counting_5 : decode (mB mLi_counting) 5 = .ok (.istore_n 3, 1) := op62 (by decide +kernel)
theorem dLi_counting_6 : decode (mB mLi_counting) 6 = .ok (.iconst 0, 1) := op3 (by decide +kernel)
theorem dLi_counting_7 : decode (mB mLi_counting) 7 = .ok (.istore 4, 2) := op54 4 (by decide +kernel)
theorem dLi_counting_9 : decode (mB mLi_counting) 9 = .ok (.iload 4, 2) := op21 4 (by decide +kernel)
theorem dLi_counting_11 : decode (mB mLi_counting) 11 = .ok (.bipush 8, 2) := op16 8 (by decide +kernel)
theorem dLi_counting_13 : decode (mB mLi_counting) 13 = .ok (.if_icmp .ge 42, 3) := op162 0 42 (by decide +kernel)
theorem dLi_counting_16 : decode (mB mLi_counting) 16 = .ok (.iload_n 2, 1) := op28 (by decide +kernel)
theorem dLi_counting_17 : decode (mB mLi_counting) 17 = .ok (.iload 4, 2) := op21 4 (by decide +kernel)
theorem dLi_counting_19 : decode (mB mLi_counting) 19 = .ok (.invokestatic 101, 3) := op184 0 101 (by decide +kernel)
theorem dLi_counting_22 : decode (mB mLi_counting) 22 = .ok (.ifCond .eq 27, 3) := op153 0 27 (by decide +kernel)
theorem dLi_counting_25 : decode (mB mLi_counting) 25 = .ok (.aload_n 0, 1) := op42 (by decide +kernel)
theorem dLi_counting_26 : decode (mB mLi_counting) 26 = .ok (.getfield 17, 3) := op180 0 17 (by decide +kernel)
theorem dLi_counting_29 : decode (mB mLi_counting) 29 = .ok (.iload 4, 2) := op21 4 (by decide +kernel)
theorem dLi_counting_31 : decode (mB mLi_counting) 31 = .ok (.iaload, 1) := op46 (by decide +kernel)
theorem dLi_counting_32 : decode (mB mLi_counting) 32 = .ok (.aload_n 1, 1) := op43 (by decide +kernel)
theorem dLi_counting_33 : decode (mB mLi_counting) 33 = .ok (.getfield 168, 3) := op180 0 168 (by decide +kernel)
theorem dLi_counting_36 : decode (mB mLi_counting) 36 = .ok (.if_icmp .lt 13, 3) := op161 0 13 (by decide +kernel)
theorem dLi_counting_39 : decode (mB mLi_counting) 39 = .ok (.iload_n 3, 1) := op29 (by decide +kernel)
theorem dLi_counting_40 : decode (mB mLi_counting) 40 = .ok (.aload_n 0, 1) := op42 (by decide +kernel)
theorem dLi_counting_41 : decode (mB mLi_counting) 41 = .ok (.getfield 36, 3) := op180 0 36 (by decide +kernel)
theorem dLi_counting_44 : decode (mB mLi_counting) 44 = .ok (.iload 4, 2) := op21 4 (by decide +kernel)
theorem dLi_counting_46 : decode (mB mLi_counting) 46 = .ok (.iaload, 1) := op46 (by decide +kernel)
theorem dLi_counting_47 : decode (mB mLi_counting) 47 = .ok (.ior, 1) := op128 (by decide +kernel)
theorem dLi_counting_48 : decode (mB mLi_counting) 48 = .ok (.istore_n 3, 1) := op62 (by decide +kernel)
theorem dLi_counting_49 : decode (mB mLi_counting) 49 = .ok (.iinc 4 1, 3) := op132 4 1 (by decide +kernel)
theorem dLi_counting_52 : decode (mB mLi_counting) 52 = .ok (.goto (-43), 3) := op167 255 213 (by decide +kernel)
theorem dLi_counting_55 : decode (mB mLi_counting) 55 = .ok (.iload_n 3, 1) := op29 (by decide +kernel)
theorem dLi_counting_56 : decode (mB mLi_counting) 56 = .ok (.aload_n 0, 1) := op42 (by decide +kernel)
theorem dLi_counting_57 : decode (mB mLi_counting) 57 = .ok (.getfield 83, 3) := op180 0 83 (by decide +kernel)
theorem dLi_counting_60 : decode (mB mLi_counting) 60 = .ok (.iconst (-1), 1) := op2 (by decide +kernel)
theorem dLi_counting_61 : decode (mB mLi_counting) 61 = .ok (.ixor, 1) := op130 (by decide +kernel)
theorem dLi_counting_62 : decode (mB mLi_counting) 62 = .ok (.iand, 1) := op126 (by decide +kernel)
theorem dLi_counting_63 : decode (mB mLi_counting) 63 = .ok (.aload_n 1, 1) := op43 (by decide +kernel)
theorem dLi_counting_64 : decode (mB mLi_counting) 64 = .ok (.getfield 173, 3) := op180 0 173 (by decide +kernel)
theorem dLi_counting_67 : decode (mB mLi_counting) 67 = .ok (.ifCond .eq 7, 3) := op153 0 7 (by decide +kernel)
theorem dLi_counting_70 : decode (mB mLi_counting) 70 = .ok (.iconst (-1), 1) := op2 (by decide +kernel)
theorem dLi_counting_71 : decode (mB mLi_counting) 71 = .ok (.goto 9, 3) := op167 0 9 (by decide +kernel)
theorem dLi_counting_74 : decode (mB mLi_counting) 74 = .ok (.aload_n 0, 1) := op42 (by decide +kernel)
theorem dLi_counting_75 : decode (mB mLi_counting) 75 = .ok (.getfield 86, 3) := op180 0 86 (by decide +kernel)
theorem dLi_counting_78 : decode (mB mLi_counting) 78 = .ok (.iconst (-1), 1) := op2 (by decide +kernel)
theorem dLi_counting_79 : decode (mB mLi_counting) 79 = .ok (.ixor, 1) := op130 (by decide +kernel)
theorem dLi_counting_80 : decode (mB mLi_counting) 80 = .ok (.iand, 1) := op126 (by decide +kernel)
theorem dLi_counting_81 : decode (mB mLi_counting) 81 = .ok (.ireturn, 1) := op172 (by decide +kernel)

theorem vLi_counting_0 {M : Mm} {b : Nat × Nat} {K : Int32 → Mm → Prop} {v0 : Nat} {v1 : Nat} {v2 : Int32} (kv0 : v0 % 64 = 1) 
    (h : CI mLi_mainWords [.ref v0, .ref v1] M (fun rv N => X mLi_counting 5 [(0, .ref v0), (1, .ref v1), (2, .int v2)] [.int rv] N b (QI K))) : X mLi_counting 0 [(0, .ref v0), (1, .ref v1), (2, .int v2)] [] M b (QI K) := by
  refine x_wf (fun hw => ?_)
  refine x_aload_n (pc := 0) dLi_counting_0 rfl (q := 0) rfl ?_
  refine x_aload_n (pc := 1) dLi_counting_1 rfl (q := 1) rfl ?_
  exact x_invV (pc := 2) dLi_counting_2 (c := 1) (S := []) (As := [.ref v1]) mlLi_164 hLi_mainWords rfl (by decide) rfl kv0 ⟨by decide, by decide⟩ ⟨Nat.zero_le _, Nat.zero_le _⟩ rfl (Nat.le_of_ble_eq_true rfl) (aftI (b' := b) ⟨Nat.le_refl _, Nat.le_refl _⟩ (fun rv N h => h) h)

theorem vLi_counting_5 {M : Mm} {b : Nat × Nat} {K : Int32 → Mm → Prop} {v0 : Nat} {v1 : Nat} {v2 : Int32} {w0 : Int32}  
    (h : X mLi_counting 9 [(0, .ref v0), (1, .ref v1), (2, .int v2), (3, .int w0), (4, .int 0)] [] M b (QI K)) : X mLi_counting 5 [(0, .ref v0), (1, .ref v1), (2, .int v2)] [.int w0] M b (QI K) := by
  refine x_wf (fun hw => ?_)
  refine x_istore_n (pc := 5) dLi_counting_5 rfl (by decide) (L' := [(3, .int w0), (0, .ref v0), (1, .ref v1), (2, .int v2)]) rfl ?_
  refine x_iconst (pc := 6) dLi_counting_6 (v := 0) rfl ?_
  refine x_istore (pc := 7) dLi_counting_7 (by decide) (L' := [(4, .int 0), (3, .int w0), (0, .ref v0), (1, .ref v1), (2, .int v2)]) rfl ?_
  exact x_loc [2, 3, 4, 1, 0] rfl h

theorem vLi_counting_9 {M : Mm} {b : Nat × Nat} {K : Int32 → Mm → Prop} {v0 : Nat} {v1 : Nat} {v2 : Int32} {v3 : Int32} {v4 : Int32} (kv0 : v0 % 64 = 1) (kv1 : v1 % 64 = 3) 
    (h : ((8 ≤ v4 ∧ (gi M v1 2) = 0) → (K ((v3 &&& ((gi M v0 10) ^^^ (-1))) &&& ((gi M v0 11) ^^^ (-1))) M)) ∧ ((8 ≤ v4 ∧ ¬ (gi M v1 2) = 0) → (K ((v3 &&& ((gi M v0 10) ^^^ (-1))) &&& (-1)) M)) ∧ (¬ 8 ≤ v4 → (CI mC_holds [.int v2, .int v4] M (fun rv N => X mLi_counting 22 [(0, .ref v0), (1, .ref v1), (2, .int v2), (3, .int v3), (4, .int v4)] [.int rv] N b (QI K))))) : X mLi_counting 9 [(0, .ref v0), (1, .ref v1), (2, .int v2), (3, .int v3), (4, .int v4)] [] M b (QI K) := by
  refine x_wf (fun hw => ?_)
  refine x_iload (pc := 9) dLi_counting_9 (q := 4) rfl ?_
  refine x_bipush (pc := 11) dLi_counting_11 (v := 8) rfl ?_
  obtain ⟨g1_0, g1_1, g1_2⟩ := h
  refine x_icmp_ge (pc := 13) dLi_counting_13 (t := 55) rfl (fun q1 => ?_) (fun q1 => ?_)
  · refine x_iload_n (pc := 55) dLi_counting_55 rfl (q := 3) rfl ?_
    refine x_aload_n (pc := 56) dLi_counting_56 rfl (q := 0) rfl ?_
    refine x_getI (pc := 57) dLi_counting_57 kv0 flLi_83 rfl ?_
    refine x_iconst (pc := 60) dLi_counting_60 (v := (-1)) rfl ?_
    refine x_ixor (pc := 61) dLi_counting_61 ?_
    refine x_iand (pc := 62) dLi_counting_62 ?_
    refine x_aload_n (pc := 63) dLi_counting_63 rfl (q := 1) rfl ?_
    refine x_getI (pc := 64) dLi_counting_64 kv1 flLi_173 rfl ?_
    refine x_if_eq (pc := 67) dLi_counting_67 (t := 74) rfl (fun q2 => ?_) (fun q2 => ?_)
    · refine x_aload_n (pc := 74) dLi_counting_74 rfl (q := 0) rfl ?_
      refine x_getI (pc := 75) dLi_counting_75 kv0 flLi_86 rfl ?_
      refine x_iconst (pc := 78) dLi_counting_78 (v := (-1)) rfl ?_
      refine x_ixor (pc := 79) dLi_counting_79 ?_
      have h := g1_0 ⟨q1, q2⟩
      refine x_iand (pc := 80) dLi_counting_80 ?_
      exact x_retQI (pc := 81) dLi_counting_81 rfl rfl h
    · refine x_iconst (pc := 70) dLi_counting_70 (v := (-1)) rfl ?_
      refine x_goto (pc := 71) dLi_counting_71 (t := 80) rfl ?_
      have h := g1_1 ⟨q1, q2⟩
      refine x_iand (pc := 80) dLi_counting_80 ?_
      exact x_retQI (pc := 81) dLi_counting_81 rfl rfl h
  · refine x_iload_n (pc := 16) dLi_counting_16 rfl (q := 2) rfl ?_
    refine x_iload (pc := 17) dLi_counting_17 (q := 4) rfl ?_
    have h := g1_2 q1
    exact x_invSN (pc := 19) dLi_counting_19 (S := []) (As := [.int v2, .int v4]) nlLi_101 hC_holds rfl ⟨by decide, by decide⟩ ⟨Nat.zero_le _, Nat.zero_le _⟩ rfl (Nat.le_of_ble_eq_true rfl) (aftI (b' := b) ⟨Nat.le_refl _, Nat.le_refl _⟩ (fun rv N h => h) h)

theorem vLi_counting_22 {M : Mm} {b : Nat × Nat} {K : Int32 → Mm → Prop} {v0 : Nat} {v1 : Nat} {v2 : Int32} {v3 : Int32} {v4 : Int32} {w0 : Int32} {r1 : Nat} {r2 : Nat} (kv0 : v0 % 64 = 1) (kv1 : v1 % 64 = 3) (e1 : gr M v0 2 = some r1) (e2 : gr M v0 8 = some r2)
    (h : (¬ w0 = 0 → vp_in v4 8) ∧ (¬ w0 = 0 ∧ ¬ (gi M r1 (v4).toNatClampNeg) < (gi M v1 1) → vp_in v4 8) ∧ (((w0 = 0) ∨ (¬ w0 = 0 ∧ (gi M r1 (v4).toNatClampNeg) < (gi M v1 1))) → (X mLi_counting 9 [(0, .ref v0), (1, .ref v1), (2, .int v2), (3, .int v3), (4, .int (v4 + 1))] [] M b (QI K))) ∧ ((¬ w0 = 0 ∧ ¬ (gi M r1 (v4).toNatClampNeg) < (gi M v1 1)) → (X mLi_counting 9 [(0, .ref v0), (1, .ref v1), (2, .int v2), (3, .int (v3 ||| (gi M r2 (v4).toNatClampNeg))), (4, .int (v4 + 1))] [] M b (QI K)))) : X mLi_counting 22 [(0, .ref v0), (1, .ref v1), (2, .int v2), (3, .int v3), (4, .int v4)] [.int w0] M b (QI K) := by
  refine x_wf (fun hw => ?_)
  obtain ⟨s1, s2, g1_0, g1_1⟩ := h
  have g1_k0 : (w0 = 0) ∨ (¬ w0 = 0 ∧ (gi M r1 (v4).toNatClampNeg) < (gi M v1 1)) → X mLi_counting 49 [(0, .ref v0), (1, .ref v1), (2, .int v2), (3, .int v3), (4, .int v4)] [] M b (QI K) := fun q => by
    have h := g1_0 q
    refine x_iinc (pc := 49) dLi_counting_49 (q := 4) rfl (v := v4 + 1) rfl (by decide) (L' := [(4, .int (v4 + 1)), (0, .ref v0), (1, .ref v1), (2, .int v2), (3, .int v3)]) rfl ?_
    refine x_goto (pc := 52) dLi_counting_52 (t := 9) rfl ?_
    exact x_loc [1, 2, 3, 4, 0] rfl h
  refine x_if_eq (pc := 22) dLi_counting_22 (t := 49) rfl (fun q1 => ?_) (fun q1 => ?_)
  · exact g1_k0 (Or.inl q1)
  · refine x_aload_n (pc := 25) dLi_counting_25 rfl (q := 0) rfl ?_
    refine x_getR (pc := 26) dLi_counting_26 kv0 flLi_17 rfl e1 ?_
    refine x_iload (pc := 29) dLi_counting_29 (q := 4) rfl ?_
    refine x_aldIj (pc := 31) (j := (v4).toNatClampNeg) (Or.inl ⟨rfl, rfl⟩) dLi_counting_31 (wfk hw e1 kv0) ak_13 rfl (s1 q1) ?_
    refine x_aload_n (pc := 32) dLi_counting_32 rfl (q := 1) rfl ?_
    refine x_getI (pc := 33) dLi_counting_33 kv1 flLi_168 rfl ?_
    refine x_icmp_lt (pc := 36) dLi_counting_36 (t := 49) rfl (fun q2 => ?_) (fun q2 => ?_)
    · exact g1_k0 (Or.inr ⟨q1, q2⟩)
    · refine x_iload_n (pc := 39) dLi_counting_39 rfl (q := 3) rfl ?_
      refine x_aload_n (pc := 40) dLi_counting_40 rfl (q := 0) rfl ?_
      refine x_getR (pc := 41) dLi_counting_41 kv0 flLi_36 rfl e2 ?_
      refine x_iload (pc := 44) dLi_counting_44 (q := 4) rfl ?_
      refine x_aldIj (pc := 46) (j := (v4).toNatClampNeg) (Or.inl ⟨rfl, rfl⟩) dLi_counting_46 (wfk hw e2 kv0) ak_13 rfl (s2 ⟨q1, q2⟩) ?_
      refine x_ior (pc := 47) dLi_counting_47 ?_
      have h := g1_1 ⟨q1, q2⟩
      refine x_istore_n (pc := 48) dLi_counting_48 rfl (by decide) (L' := [(3, .int (v3 ||| (gi M r2 (v4).toNatClampNeg))), (0, .ref v0), (1, .ref v1), (2, .int v2), (4, .int v4)]) rfl ?_
      refine x_iinc (pc := 49) dLi_counting_49 (q := 4) rfl (v := v4 + 1) rfl (by decide) (L' := [(4, .int (v4 + 1)), (3, .int (v3 ||| (gi M r2 (v4).toNatClampNeg))), (0, .ref v0), (1, .ref v1), (2, .int v2)]) rfl ?_
      refine x_goto (pc := 52) dLi_counting_52 (t := 9) rfl ?_
      exact x_loc [2, 3, 4, 1, 0] rfl h

theorem dLi_mainWords_0 : decode (mB mLi_mainWords) 0 = .ok (.iconst 0, 1) := op3 (by decide +kernel)
theorem dLi_mainWords_1 : decode (mB mLi_mainWords) 1 = .ok (.istore_n 2, 1) := op61 (by decide +kernel)
theorem dLi_mainWords_2 : decode (mB mLi_mainWords) 2 = .ok (.iconst 0, 1) := op3 (by decide +kernel)
theorem dLi_mainWords_3 : decode (mB mLi_mainWords) 3 = .ok (.istore_n 3, 1) := op62 (by decide +kernel)
theorem dLi_mainWords_4 : decode (mB mLi_mainWords) 4 = .ok (.iload_n 3, 1) := op29 (by decide +kernel)
theorem dLi_mainWords_5 : decode (mB mLi_mainWords) 5 = .ok (.bipush 8, 2) := op16 8 (by decide +kernel)
theorem dLi_mainWords_7 : decode (mB mLi_mainWords) 7 = .ok (.if_icmp .ge 30, 3) := op162 0 30 (by decide +kernel)
theorem dLi_mainWords_10 : decode (mB mLi_mainWords) 10 = .ok (.iload_n 2, 1) := op28 (by decide +kernel)
theorem dLi_mainWords_11 : decode (mB mLi_mainWords) 11 = .ok (.aload_n 1, 1) := op43 (by decide +kernel)
theorem dLi_mainWords_12 : decode (mB mLi_mainWords) 12 = .ok (.iload_n 3, 1) := op29 (by decide +kernel)
theorem dLi_mainWords_13 : decode (mB mLi_mainWords) 13 = .ok (.invokevirtual 177, 3) := op182 0 177 (by decide +kernel)
theorem dLi_mainWords_16 : decode (mB mLi_mainWords) 16 = .ok (.ifCond .eq 12, 3) := op153 0 12 (by decide +kernel)
theorem dLi_mainWords_19 : decode (mB mLi_mainWords) 19 = .ok (.aload_n 0, 1) := op42 (by decide +kernel)
theorem dLi_mainWords_20 : decode (mB mLi_mainWords) 20 = .ok (.getfield 33, 3) := op180 0 33 (by decide +kernel)
theorem dLi_mainWords_23 : decode (mB mLi_mainWords) 23 = .ok (.iload_n 3, 1) := op29 (by decide +kernel)
theorem dLi_mainWords_24 : decode (mB mLi_mainWords) 24 = .ok (.iaload, 1) := op46 (by decide +kernel)
theorem dLi_mainWords_25 : decode (mB mLi_mainWords) 25 = .ok (.goto 4, 3) := op167 0 4 (by decide +kernel)
theorem dLi_mainWords_28 : decode (mB mLi_mainWords) 28 = .ok (.iconst 0, 1) := op3 (by decide +kernel)
theorem dLi_mainWords_29 : decode (mB mLi_mainWords) 29 = .ok (.ior, 1) := op128 (by decide +kernel)
theorem dLi_mainWords_30 : decode (mB mLi_mainWords) 30 = .ok (.istore_n 2, 1) := op61 (by decide +kernel)
theorem dLi_mainWords_31 : decode (mB mLi_mainWords) 31 = .ok (.iinc 3 1, 3) := op132 3 1 (by decide +kernel)
theorem dLi_mainWords_34 : decode (mB mLi_mainWords) 34 = .ok (.goto (-30), 3) := op167 255 226 (by decide +kernel)
theorem dLi_mainWords_37 : decode (mB mLi_mainWords) 37 = .ok (.iload_n 2, 1) := op28 (by decide +kernel)
theorem dLi_mainWords_38 : decode (mB mLi_mainWords) 38 = .ok (.ireturn, 1) := op172 (by decide +kernel)

theorem vLi_mainWords_0 {M : Mm} {b : Nat × Nat} {K : Int32 → Mm → Prop} {v0 : Nat} {v1 : Nat}  
    (h : X mLi_mainWords 4 [(0, .ref v0), (1, .ref v1), (2, .int 0), (3, .int 0)] [] M b (QI K)) : X mLi_mainWords 0 [(0, .ref v0), (1, .ref v1)] [] M b (QI K) := by
  refine x_wf (fun hw => ?_)
  refine x_iconst (pc := 0) dLi_mainWords_0 (v := 0) rfl ?_
  refine x_istore_n (pc := 1) dLi_mainWords_1 rfl (by decide) (L' := [(2, .int 0), (0, .ref v0), (1, .ref v1)]) rfl ?_
  refine x_iconst (pc := 2) dLi_mainWords_2 (v := 0) rfl ?_
  refine x_istore_n (pc := 3) dLi_mainWords_3 rfl (by decide) (L' := [(3, .int 0), (2, .int 0), (0, .ref v0), (1, .ref v1)]) rfl ?_
  exact x_loc [2, 3, 1, 0] rfl h

theorem vLi_mainWords_4 {M : Mm} {b : Nat × Nat} {K : Int32 → Mm → Prop} {v0 : Nat} {v1 : Nat} {v2 : Int32} {v3 : Int32} (kv1 : v1 % 64 = 3) 
    (h : (8 ≤ v3 → (K v2 M)) ∧ (¬ 8 ≤ v3 → (CI mRu_isMain [.ref v1, .int v3] M (fun rv N => X mLi_mainWords 16 [(0, .ref v0), (1, .ref v1), (3, .int v3)] [.int rv, .int v2] N b (QI K))))) : X mLi_mainWords 4 [(0, .ref v0), (1, .ref v1), (2, .int v2), (3, .int v3)] [] M b (QI K) := by
  refine x_wf (fun hw => ?_)
  refine x_iload_n (pc := 4) dLi_mainWords_4 rfl (q := 3) rfl ?_
  refine x_bipush (pc := 5) dLi_mainWords_5 (v := 8) rfl ?_
  obtain ⟨g1_0, g1_1⟩ := h
  refine x_icmp_ge (pc := 7) dLi_mainWords_7 (t := 37) rfl (fun q1 => ?_) (fun q1 => ?_)
  · refine x_iload_n (pc := 37) dLi_mainWords_37 rfl (q := 2) rfl ?_
    have h := g1_0 q1
    exact x_retQI (pc := 38) dLi_mainWords_38 rfl rfl h
  · refine x_iload_n (pc := 10) dLi_mainWords_10 rfl (q := 2) rfl ?_
    refine x_aload_n (pc := 11) dLi_mainWords_11 rfl (q := 1) rfl ?_
    refine x_iload_n (pc := 12) dLi_mainWords_12 rfl (q := 3) rfl ?_
    have h := g1_1 q1
    exact x_invV (pc := 13) dLi_mainWords_13 (c := 3) (S := [.int v2]) (As := [.int v3]) mlLi_177 hRu_isMain rfl (by decide) rfl kv1 ⟨by decide, by decide⟩ ⟨Nat.zero_le _, Nat.zero_le _⟩ rfl (Nat.le_of_ble_eq_true rfl) (aftI (b' := b) ⟨Nat.le_refl _, Nat.le_refl _⟩ (fun rv N h => x_loc [0, 1, 3] rfl h) h)

theorem vLi_mainWords_16 {M : Mm} {b : Nat × Nat} {K : Int32 → Mm → Prop} {v0 : Nat} {v1 : Nat} {v3 : Int32} {w0 : Int32} {w1 : Int32} {r1 : Nat} (kv0 : v0 % 64 = 1) (e1 : gr M v0 7 = some r1)
    (h : (¬ w0 = 0 → vp_in v3 8) ∧ (X mLi_mainWords 4 [(0, .ref v0), (1, .ref v1), (2, .int (w1 ||| (if w0 = 0 then 0 else (gi M r1 (v3).toNatClampNeg) : Int32))), (3, .int (v3 + 1))] [] M b (QI K))) : X mLi_mainWords 16 [(0, .ref v0), (1, .ref v1), (3, .int v3)] [.int w0, .int w1] M b (QI K) := by
  refine x_wf (fun hw => ?_)
  obtain ⟨s1, h⟩ := h
  suffices hJ : X mLi_mainWords 29 [(0, .ref v0), (1, .ref v1), (3, .int v3)] [.int (if w0 = 0 then 0 else (gi M r1 (v3).toNatClampNeg) : Int32), .int w1] M b (QI K) by
    refine x_if_eq (pc := 16) dLi_mainWords_16 (t := 28) rfl (fun q1 => ?_) (fun q1 => ?_)
    · refine x_iconst (pc := 28) dLi_mainWords_28 (v := 0) rfl ?_
      first | (rw [if_pos q1] at hJ; exact hJ) | (simp only [if_pos q1] at hJ ⊢; exact hJ)
    · refine x_aload_n (pc := 19) dLi_mainWords_19 rfl (q := 0) rfl ?_
      refine x_getR (pc := 20) dLi_mainWords_20 kv0 flLi_33 rfl e1 ?_
      refine x_iload_n (pc := 23) dLi_mainWords_23 rfl (q := 2) rfl ?_
      refine x_aldIj (pc := 24) (j := (v3).toNatClampNeg) (Or.inl ⟨rfl, rfl⟩) dLi_mainWords_24 (wfk hw e1 kv0) ak_13 rfl (s1 q1) ?_
      refine x_goto (pc := 25) dLi_mainWords_25 (t := 29) rfl ?_
      first | (rw [if_neg q1] at hJ; exact hJ) | (simp only [if_neg q1] at hJ ⊢; exact hJ)
  refine x_ior (pc := 29) dLi_mainWords_29 ?_
  refine x_istore_n (pc := 30) dLi_mainWords_30 rfl (by decide) (L' := [(2, .int (w1 ||| (if w0 = 0 then 0 else (gi M r1 (v3).toNatClampNeg) : Int32))), (0, .ref v0), (1, .ref v1), (3, .int v3)]) rfl ?_
  refine x_iinc (pc := 31) dLi_mainWords_31 (q := 3) rfl (v := v3 + 1) rfl (by decide) (L' := [(3, .int (v3 + 1)), (2, .int (w1 ||| (if w0 = 0 then 0 else (gi M r1 (v3).toNatClampNeg) : Int32))), (0, .ref v0), (1, .ref v1)]) rfl ?_
  refine x_goto (pc := 34) dLi_mainWords_34 (t := 4) rfl ?_
  exact x_loc [2, 3, 1, 0] rfl h

theorem dLi_tellingBooks_0 : decode (mB mLi_tellingBooks) 0 = .ok (.aload_n 0, 1) := op42 (by decide +kernel)
theorem dLi_tellingBooks_1 : decode (mB mLi_tellingBooks) 1 = .ok (.aload_n 1, 1) := op43 (by decide +kernel)
theorem dLi_tellingBooks_2 : decode (mB mLi_tellingBooks) 2 = .ok (.invokevirtual 164, 3) := op182 0 164 (by decide +kernel)
theorem dLi_tellingBooks_5 : decode (mB mLi_tellingBooks) 5 = .ok (.aload_n 0, 1) := op42 (by decide +kernel)
theorem dLi_tellingBooks_6 : decode (mB mLi_tellingBooks) 6 = .ok (.getfield 83, 3) := op180 0 83 (by decide +kernel)
theorem dLi_tellingBooks_9 : decode (mB mLi_tellingBooks) 9 = .ok (.ior, 1) := op128 (by decide +kernel)
theorem dLi_tellingBooks_10 : decode (mB mLi_tellingBooks) 10 = .ok (.iconst (-1), 1) := op2 (by decide +kernel)
theorem dLi_tellingBooks_11 : decode (mB mLi_tellingBooks) 11 = .ok (.ixor, 1) := op130 (by decide +kernel)
theorem dLi_tellingBooks_12 : decode (mB mLi_tellingBooks) 12 = .ok (.istore_n 2, 1) := op61 (by decide +kernel)
theorem dLi_tellingBooks_13 : decode (mB mLi_tellingBooks) 13 = .ok (.iconst 0, 1) := op3 (by decide +kernel)
theorem dLi_tellingBooks_14 : decode (mB mLi_tellingBooks) 14 = .ok (.istore_n 3, 1) := op62 (by decide +kernel)
theorem dLi_tellingBooks_15 : decode (mB mLi_tellingBooks) 15 = .ok (.iconst 0, 1) := op3 (by decide +kernel)
theorem dLi_tellingBooks_16 : decode (mB mLi_tellingBooks) 16 = .ok (.istore 4, 2) := op54 4 (by decide +kernel)
theorem dLi_tellingBooks_18 : decode (mB mLi_tellingBooks) 18 = .ok (.iload 4, 2) := op21 4 (by decide +kernel)
theorem dLi_tellingBooks_20 : decode (mB mLi_tellingBooks) 20 = .ok (.bipush 8, 2) := op16 8 (by decide +kernel)
theorem dLi_tellingBooks_22 : decode (mB mLi_tellingBooks) 22 = .ok (.if_icmp .ge 42, 3) := op162 0 42 (by decide +kernel)
theorem dLi_tellingBooks_25 : decode (mB mLi_tellingBooks) 25 = .ok (.aload_n 0, 1) := op42 (by decide +kernel)
theorem dLi_tellingBooks_26 : decode (mB mLi_tellingBooks) 26 = .ok (.getfield 17, 3) := op180 0 17 (by decide +kernel)
theorem dLi_tellingBooks_29 : decode (mB mLi_tellingBooks) 29 = .ok (.iload 4, 2) := op21 4 (by decide +kernel)
theorem dLi_tellingBooks_31 : decode (mB mLi_tellingBooks) 31 = .ok (.iaload, 1) := op46 (by decide +kernel)
theorem dLi_tellingBooks_32 : decode (mB mLi_tellingBooks) 32 = .ok (.aload_n 1, 1) := op43 (by decide +kernel)
theorem dLi_tellingBooks_33 : decode (mB mLi_tellingBooks) 33 = .ok (.getfield 168, 3) := op180 0 168 (by decide +kernel)
theorem dLi_tellingBooks_36 : decode (mB mLi_tellingBooks) 36 = .ok (.if_icmp .lt 22, 3) := op161 0 22 (by decide +kernel)
theorem dLi_tellingBooks_39 : decode (mB mLi_tellingBooks) 39 = .ok (.aload_n 0, 1) := op42 (by decide +kernel)
theorem dLi_tellingBooks_40 : decode (mB mLi_tellingBooks) 40 = .ok (.getfield 36, 3) := op180 0 36 (by decide +kernel)
theorem dLi_tellingBooks_43 : decode (mB mLi_tellingBooks) 43 = .ok (.iload 4, 2) := op21 4 (by decide +kernel)
theorem dLi_tellingBooks_45 : decode (mB mLi_tellingBooks) 45 = .ok (.iaload, 1) := op46 (by decide +kernel)
theorem dLi_tellingBooks_46 : decode (mB mLi_tellingBooks) 46 = .ok (.iload_n 2, 1) := op28 (by decide +kernel)
theorem dLi_tellingBooks_47 : decode (mB mLi_tellingBooks) 47 = .ok (.iand, 1) := op126 (by decide +kernel)
theorem dLi_tellingBooks_48 : decode (mB mLi_tellingBooks) 48 = .ok (.ifCond .eq 10, 3) := op153 0 10 (by decide +kernel)
theorem dLi_tellingBooks_51 : decode (mB mLi_tellingBooks) 51 = .ok (.iload_n 3, 1) := op29 (by decide +kernel)
theorem dLi_tellingBooks_52 : decode (mB mLi_tellingBooks) 52 = .ok (.iconst 1, 1) := op4 (by decide +kernel)
theorem dLi_tellingBooks_53 : decode (mB mLi_tellingBooks) 53 = .ok (.iload 4, 2) := op21 4 (by decide +kernel)
theorem dLi_tellingBooks_55 : decode (mB mLi_tellingBooks) 55 = .ok (.ishl, 1) := op120 (by decide +kernel)
theorem dLi_tellingBooks_56 : decode (mB mLi_tellingBooks) 56 = .ok (.ior, 1) := op128 (by decide +kernel)
theorem dLi_tellingBooks_57 : decode (mB mLi_tellingBooks) 57 = .ok (.istore_n 3, 1) := op62 (by decide +kernel)
theorem dLi_tellingBooks_58 : decode (mB mLi_tellingBooks) 58 = .ok (.iinc 4 1, 3) := op132 4 1 (by decide +kernel)
theorem dLi_tellingBooks_61 : decode (mB mLi_tellingBooks) 61 = .ok (.goto (-43), 3) := op167 255 213 (by decide +kernel)
theorem dLi_tellingBooks_64 : decode (mB mLi_tellingBooks) 64 = .ok (.iload_n 3, 1) := op29 (by decide +kernel)
theorem dLi_tellingBooks_65 : decode (mB mLi_tellingBooks) 65 = .ok (.ireturn, 1) := op172 (by decide +kernel)

theorem vLi_tellingBooks_0 {M : Mm} {b : Nat × Nat} {K : Int32 → Mm → Prop} {v0 : Nat} {v1 : Nat} (kv0 : v0 % 64 = 1) 
    (h : CI mLi_mainWords [.ref v0, .ref v1] M (fun rv N => X mLi_tellingBooks 5 [(0, .ref v0), (1, .ref v1)] [.int rv] N b (QI K))) : X mLi_tellingBooks 0 [(0, .ref v0), (1, .ref v1)] [] M b (QI K) := by
  refine x_wf (fun hw => ?_)
  refine x_aload_n (pc := 0) dLi_tellingBooks_0 rfl (q := 0) rfl ?_
  refine x_aload_n (pc := 1) dLi_tellingBooks_1 rfl (q := 1) rfl ?_
  exact x_invV (pc := 2) dLi_tellingBooks_2 (c := 1) (S := []) (As := [.ref v1]) mlLi_164 hLi_mainWords rfl (by decide) rfl kv0 ⟨by decide, by decide⟩ ⟨Nat.zero_le _, Nat.zero_le _⟩ rfl (Nat.le_of_ble_eq_true rfl) (aftI (b' := b) ⟨Nat.le_refl _, Nat.le_refl _⟩ (fun rv N h => h) h)

theorem vLi_tellingBooks_5 {M : Mm} {b : Nat × Nat} {K : Int32 → Mm → Prop} {v0 : Nat} {v1 : Nat} {w0 : Int32} (kv0 : v0 % 64 = 1) 
    (h : X mLi_tellingBooks 18 [(0, .ref v0), (1, .ref v1), (2, .int ((w0 ||| (gi M v0 10)) ^^^ (-1))), (3, .int 0), (4, .int 0)] [] M b (QI K)) : X mLi_tellingBooks 5 [(0, .ref v0), (1, .ref v1)] [.int w0] M b (QI K) := by
  refine x_wf (fun hw => ?_)
  refine x_aload_n (pc := 5) dLi_tellingBooks_5 rfl (q := 0) rfl ?_
  refine x_getI (pc := 6) dLi_tellingBooks_6 kv0 flLi_83 rfl ?_
  refine x_ior (pc := 9) dLi_tellingBooks_9 ?_
  refine x_iconst (pc := 10) dLi_tellingBooks_10 (v := (-1)) rfl ?_
  refine x_ixor (pc := 11) dLi_tellingBooks_11 ?_
  refine x_istore_n (pc := 12) dLi_tellingBooks_12 rfl (by decide) (L' := [(2, .int ((w0 ||| (gi M v0 10)) ^^^ (-1))), (0, .ref v0), (1, .ref v1)]) rfl ?_
  refine x_iconst (pc := 13) dLi_tellingBooks_13 (v := 0) rfl ?_
  refine x_istore_n (pc := 14) dLi_tellingBooks_14 rfl (by decide) (L' := [(3, .int 0), (2, .int ((w0 ||| (gi M v0 10)) ^^^ (-1))), (0, .ref v0), (1, .ref v1)]) rfl ?_
  refine x_iconst (pc := 15) dLi_tellingBooks_15 (v := 0) rfl ?_
  refine x_istore (pc := 16) dLi_tellingBooks_16 (by decide) (L' := [(4, .int 0), (3, .int 0), (2, .int ((w0 ||| (gi M v0 10)) ^^^ (-1))), (0, .ref v0), (1, .ref v1)]) rfl ?_
  exact x_loc [3, 4, 2, 1, 0] rfl h

theorem vLi_tellingBooks_18 {M : Mm} {b : Nat × Nat} {K : Int32 → Mm → Prop} {v0 : Nat} {v1 : Nat} {v2 : Int32} {v3 : Int32} {v4 : Int32} {r1 : Nat} {r2 : Nat} (kv0 : v0 % 64 = 1) (kv1 : v1 % 64 = 3) (e1 : gr M v0 2 = some r1) (e2 : gr M v0 8 = some r2)
    (h : (¬ 8 ≤ v4 → vp_in v4 8) ∧ (¬ 8 ≤ v4 ∧ ¬ (gi M r1 (v4).toNatClampNeg) < (gi M v1 1) → vp_in v4 8) ∧ (8 ≤ v4 → (K v3 M)) ∧ (((¬ 8 ≤ v4 ∧ (gi M r1 (v4).toNatClampNeg) < (gi M v1 1)) ∨ (¬ 8 ≤ v4 ∧ ¬ (gi M r1 (v4).toNatClampNeg) < (gi M v1 1) ∧ ((gi M r2 (v4).toNatClampNeg) &&& v2) = 0)) → (X mLi_tellingBooks 18 [(0, .ref v0), (1, .ref v1), (2, .int v2), (3, .int v3), (4, .int (v4 + 1))] [] M b (QI K))) ∧ ((¬ 8 ≤ v4 ∧ ¬ (gi M r1 (v4).toNatClampNeg) < (gi M v1 1) ∧ ¬ ((gi M r2 (v4).toNatClampNeg) &&& v2) = 0) → (X mLi_tellingBooks 18 [(0, .ref v0), (1, .ref v1), (2, .int v2), (3, .int (v3 ||| ((1 : Int32) <<< (v4 &&& 31)))), (4, .int (v4 + 1))] [] M b (QI K)))) : X mLi_tellingBooks 18 [(0, .ref v0), (1, .ref v1), (2, .int v2), (3, .int v3), (4, .int v4)] [] M b (QI K) := by
  refine x_wf (fun hw => ?_)
  refine x_iload (pc := 18) dLi_tellingBooks_18 (q := 4) rfl ?_
  refine x_bipush (pc := 20) dLi_tellingBooks_20 (v := 8) rfl ?_
  obtain ⟨s1, s2, g1_0, g1_1, g1_2⟩ := h
  have g1_k1 : (¬ 8 ≤ v4 ∧ (gi M r1 (v4).toNatClampNeg) < (gi M v1 1)) ∨ (¬ 8 ≤ v4 ∧ ¬ (gi M r1 (v4).toNatClampNeg) < (gi M v1 1) ∧ ((gi M r2 (v4).toNatClampNeg) &&& v2) = 0) → X mLi_tellingBooks 58 [(0, .ref v0), (1, .ref v1), (2, .int v2), (3, .int v3), (4, .int v4)] [] M b (QI K) := fun q => by
    have h := g1_1 q
    refine x_iinc (pc := 58) dLi_tellingBooks_58 (q := 4) rfl (v := v4 + 1) rfl (by decide) (L' := [(4, .int (v4 + 1)), (0, .ref v0), (1, .ref v1), (2, .int v2), (3, .int v3)]) rfl ?_
    refine x_goto (pc := 61) dLi_tellingBooks_61 (t := 18) rfl ?_
    exact x_loc [1, 2, 3, 4, 0] rfl h
  refine x_icmp_ge (pc := 22) dLi_tellingBooks_22 (t := 64) rfl (fun q1 => ?_) (fun q1 => ?_)
  · refine x_iload_n (pc := 64) dLi_tellingBooks_64 rfl (q := 3) rfl ?_
    have h := g1_0 q1
    exact x_retQI (pc := 65) dLi_tellingBooks_65 rfl rfl h
  · refine x_aload_n (pc := 25) dLi_tellingBooks_25 rfl (q := 0) rfl ?_
    refine x_getR (pc := 26) dLi_tellingBooks_26 kv0 flLi_17 rfl e1 ?_
    refine x_iload (pc := 29) dLi_tellingBooks_29 (q := 4) rfl ?_
    refine x_aldIj (pc := 31) (j := (v4).toNatClampNeg) (Or.inl ⟨rfl, rfl⟩) dLi_tellingBooks_31 (wfk hw e1 kv0) ak_13 rfl (s1 q1) ?_
    refine x_aload_n (pc := 32) dLi_tellingBooks_32 rfl (q := 1) rfl ?_
    refine x_getI (pc := 33) dLi_tellingBooks_33 kv1 flLi_168 rfl ?_
    refine x_icmp_lt (pc := 36) dLi_tellingBooks_36 (t := 58) rfl (fun q2 => ?_) (fun q2 => ?_)
    · exact g1_k1 (Or.inl ⟨q1, q2⟩)
    · refine x_aload_n (pc := 39) dLi_tellingBooks_39 rfl (q := 0) rfl ?_
      refine x_getR (pc := 40) dLi_tellingBooks_40 kv0 flLi_36 rfl e2 ?_
      refine x_iload (pc := 43) dLi_tellingBooks_43 (q := 4) rfl ?_
      refine x_aldIj (pc := 45) (j := (v4).toNatClampNeg) (Or.inl ⟨rfl, rfl⟩) dLi_tellingBooks_45 (wfk hw e2 kv0) ak_13 rfl (s2 ⟨q1, q2⟩) ?_
      refine x_iload_n (pc := 46) dLi_tellingBooks_46 rfl (q := 2) rfl ?_
      refine x_iand (pc := 47) dLi_tellingBooks_47 ?_
      refine x_if_eq (pc := 48) dLi_tellingBooks_48 (t := 58) rfl (fun q3 => ?_) (fun q3 => ?_)
      · exact g1_k1 (Or.inr ⟨q1, q2, q3⟩)
      · refine x_iload_n (pc := 51) dLi_tellingBooks_51 rfl (q := 3) rfl ?_
        refine x_iconst (pc := 52) dLi_tellingBooks_52 (v := 1) rfl ?_
        refine x_iload (pc := 53) dLi_tellingBooks_53 (q := 4) rfl ?_
        refine x_ishl (pc := 55) dLi_tellingBooks_55 ?_
        refine x_ior (pc := 56) dLi_tellingBooks_56 ?_
        have h := g1_2 ⟨q1, q2, q3⟩
        refine x_istore_n (pc := 57) dLi_tellingBooks_57 rfl (by decide) (L' := [(3, .int (v3 ||| ((1 : Int32) <<< (v4 &&& 31)))), (0, .ref v0), (1, .ref v1), (2, .int v2), (4, .int v4)]) rfl ?_
        refine x_iinc (pc := 58) dLi_tellingBooks_58 (q := 4) rfl (v := v4 + 1) rfl (by decide) (L' := [(4, .int (v4 + 1)), (3, .int (v3 ||| ((1 : Int32) <<< (v4 &&& 31)))), (0, .ref v0), (1, .ref v1), (2, .int v2)]) rfl ?_
        refine x_goto (pc := 61) dLi_tellingBooks_61 (t := 18) rfl ?_
        exact x_loc [2, 3, 4, 1, 0] rfl h

