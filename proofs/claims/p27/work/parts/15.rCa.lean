theorem dC_init_0 : decode (mB mC_init) 0 = .ok (.aload_n 0, 1) := op42 (by decide +kernel)
theorem dC_init_1 : decode (mB mC_init) 1 = .ok (.invokespecial 3, 3) := op183 0 3 (by decide +kernel)
theorem dC_init_4 : decode (mB mC_init) 4 = .ok (.aload_n 0, 1) := op42 (by decide +kernel)
theorem dC_init_5 : decode (mB mC_init) 5 = .ok (.new 9, 3) := op187 0 9 (by decide +kernel)
theorem dC_init_8 : decode (mB mC_init) 8 = .ok (.dup, 1) := op89 (by decide +kernel)
theorem dC_init_9 : decode (mB mC_init) 9 = .ok (.invokespecial 11, 3) := op183 0 11 (by decide +kernel)
theorem dC_init_12 : decode (mB mC_init) 12 = .ok (.putfield 12, 3) := op181 0 12 (by decide +kernel)
theorem dC_init_15 : decode (mB mC_init) 15 = .ok (.aload_n 0, 1) := op42 (by decide +kernel)
theorem dC_init_16 : decode (mB mC_init) 16 = .ok (.new 16, 3) := op187 0 16 (by decide +kernel)
theorem dC_init_19 : decode (mB mC_init) 19 = .ok (.dup, 1) := op89 (by decide +kernel)
theorem dC_init_20 : decode (mB mC_init) 20 = .ok (.aload_n 0, 1) := op42 (by decide +kernel)
theorem dC_init_21 : decode (mB mC_init) 21 = .ok (.getfield 12, 3) := op180 0 12 (by decide +kernel)
theorem dC_init_24 : decode (mB mC_init) 24 = .ok (.invokespecial 18, 3) := op183 0 18 (by decide +kernel)
theorem dC_init_27 : decode (mB mC_init) 27 = .ok (.putfield 21, 3) := op181 0 21 (by decide +kernel)
theorem dC_init_30 : decode (mB mC_init) 30 = .ok (.aload_n 0, 1) := op42 (by decide +kernel)
theorem dC_init_31 : decode (mB mC_init) 31 = .ok (.new 25, 3) := op187 0 25 (by decide +kernel)
theorem dC_init_34 : decode (mB mC_init) 34 = .ok (.dup, 1) := op89 (by decide +kernel)
theorem dC_init_35 : decode (mB mC_init) 35 = .ok (.aload_n 0, 1) := op42 (by decide +kernel)
theorem dC_init_36 : decode (mB mC_init) 36 = .ok (.getfield 21, 3) := op180 0 21 (by decide +kernel)
theorem dC_init_39 : decode (mB mC_init) 39 = .ok (.invokespecial 27, 3) := op183 0 27 (by decide +kernel)
theorem dC_init_42 : decode (mB mC_init) 42 = .ok (.putfield 30, 3) := op181 0 30 (by decide +kernel)
theorem dC_init_45 : decode (mB mC_init) 45 = .ok (.aload_n 0, 1) := op42 (by decide +kernel)
theorem dC_init_46 : decode (mB mC_init) 46 = .ok (.new 34, 3) := op187 0 34 (by decide +kernel)
theorem dC_init_49 : decode (mB mC_init) 49 = .ok (.dup, 1) := op89 (by decide +kernel)
theorem dC_init_50 : decode (mB mC_init) 50 = .ok (.aload_n 0, 1) := op42 (by decide +kernel)
theorem dC_init_51 : decode (mB mC_init) 51 = .ok (.getfield 21, 3) := op180 0 21 (by decide +kernel)
theorem dC_init_54 : decode (mB mC_init) 54 = .ok (.invokespecial 36, 3) := op183 0 36 (by decide +kernel)
theorem dC_init_57 : decode (mB mC_init) 57 = .ok (.putfield 37, 3) := op181 0 37 (by decide +kernel)
theorem dC_init_60 : decode (mB mC_init) 60 = .ok (.aload_n 0, 1) := op42 (by decide +kernel)
theorem dC_init_61 : decode (mB mC_init) 61 = .ok (.new 41, 3) := op187 0 41 (by decide +kernel)
theorem dC_init_64 : decode (mB mC_init) 64 = .ok (.dup, 1) := op89 (by decide +kernel)
theorem dC_init_65 : decode (mB mC_init) 65 = .ok (.invokespecial 43, 3) := op183 0 43 (by decide +kernel)
theorem dC_init_68 : decode (mB mC_init) 68 = .ok (.putfield 44, 3) := op181 0 44 (by decide +kernel)
theorem dC_init_71 : decode (mB mC_init) 71 = .ok (.aload_n 0, 1) := op42 (by decide +kernel)
theorem dC_init_72 : decode (mB mC_init) 72 = .ok (.new 41, 3) := op187 0 41 (by decide +kernel)
theorem dC_init_75 : decode (mB mC_init) 75 = .ok (.dup, 1) := op89 (by decide +kernel)
theorem dC_init_76 : decode (mB mC_init) 76 = .ok (.invokespecial 43, 3) := op183 0 43 (by decide +kernel)
theorem dC_init_79 : decode (mB mC_init) 79 = .ok (.putfield 48, 3) := op181 0 48 (by decide +kernel)
theorem dC_init_82 : decode (mB mC_init) 82 = .ok (.aload_n 0, 1) := op42 (by decide +kernel)
theorem dC_init_83 : decode (mB mC_init) 83 = .ok (.new 51, 3) := op187 0 51 (by decide +kernel)
theorem dC_init_86 : decode (mB mC_init) 86 = .ok (.dup, 1) := op89 (by decide +kernel)
theorem dC_init_87 : decode (mB mC_init) 87 = .ok (.invokespecial 53, 3) := op183 0 53 (by decide +kernel)
theorem dC_init_90 : decode (mB mC_init) 90 = .ok (.putfield 54, 3) := op181 0 54 (by decide +kernel)
theorem dC_init_93 : decode (mB mC_init) 93 = .ok (.aload_n 0, 1) := op42 (by decide +kernel)
theorem dC_init_94 : decode (mB mC_init) 94 = .ok (.new 51, 3) := op187 0 51 (by decide +kernel)
theorem dC_init_97 : decode (mB mC_init) 97 = .ok (.dup, 1) := op89 (by decide +kernel)
theorem dC_init_98 : decode (mB mC_init) 98 = .ok (.invokespecial 53, 3) := op183 0 53 (by decide +kernel)
theorem dC_init_101 : decode (mB mC_init) 101 = .ok (.putfield 58, 3) := op181 0 58 (by decide +kernel)
theorem dC_init_104 : decode (mB mC_init) 104 = .ok (.aload_n 0, 1) := op42 (by decide +kernel)
theorem dC_init_105 : decode (mB mC_init) 105 = .ok (.new 51, 3) := op187 0 51 (by decide +kernel)
theorem dC_init_108 : decode (mB mC_init) 108 = .ok (.dup, 1) := op89 (by decide +kernel)
theorem dC_init_109 : decode (mB mC_init) 109 = .ok (.invokespecial 53, 3) := op183 0 53 (by decide +kernel)
theorem dC_init_112 : decode (mB mC_init) 112 = .ok (.putfield 61, 3) := op181 0 61 (by decide +kernel)
theorem dC_init_115 : decode (mB mC_init) 115 = .ok (.aload_n 0, 1) := op42 (by decide +kernel)
theorem dC_init_116 : decode (mB mC_init) 116 = .ok (.sipush 255, 3) := op17 0 255 (by decide +kernel)
theorem dC_init_119 : decode (mB mC_init) 119 = .ok (.putfield 64, 3) := op181 0 64 (by decide +kernel)
theorem dC_init_122 : decode (mB mC_init) 122 = .ok (.aload_n 0, 1) := op42 (by decide +kernel)
theorem dC_init_123 : decode (mB mC_init) 123 = .ok (.new 68, 3) := op187 0 68 (by decide +kernel)
theorem dC_init_126 : decode (mB mC_init) 126 = .ok (.dup, 1) := op89 (by decide +kernel)
theorem dC_init_127 : decode (mB mC_init) 127 = .ok (.aload_n 0, 1) := op42 (by decide +kernel)
theorem dC_init_128 : decode (mB mC_init) 128 = .ok (.getfield 44, 3) := op180 0 44 (by decide +kernel)
theorem dC_init_131 : decode (mB mC_init) 131 = .ok (.aload_n 0, 1) := op42 (by decide +kernel)
theorem dC_init_132 : decode (mB mC_init) 132 = .ok (.getfield 54, 3) := op180 0 54 (by decide +kernel)
theorem dC_init_135 : decode (mB mC_init) 135 = .ok (.invokespecial 70, 3) := op183 0 70 (by decide +kernel)
theorem dC_init_138 : decode (mB mC_init) 138 = .ok (.putfield 73, 3) := op181 0 73 (by decide +kernel)
theorem dC_init_141 : decode (mB mC_init) 141 = .ok (.aload_n 0, 1) := op42 (by decide +kernel)
theorem dC_init_142 : decode (mB mC_init) 142 = .ok (.new 77, 3) := op187 0 77 (by decide +kernel)
theorem dC_init_145 : decode (mB mC_init) 145 = .ok (.dup, 1) := op89 (by decide +kernel)
theorem dC_init_146 : decode (mB mC_init) 146 = .ok (.aload_n 0, 1) := op42 (by decide +kernel)
theorem dC_init_147 : decode (mB mC_init) 147 = .ok (.getfield 73, 3) := op180 0 73 (by decide +kernel)
theorem dC_init_150 : decode (mB mC_init) 150 = .ok (.invokespecial 79, 3) := op183 0 79 (by decide +kernel)
theorem dC_init_153 : decode (mB mC_init) 153 = .ok (.putfield 82, 3) := op181 0 82 (by decide +kernel)
theorem dC_init_156 : decode (mB mC_init) 156 = .ok (.aload_n 0, 1) := op42 (by decide +kernel)
theorem dC_init_157 : decode (mB mC_init) 157 = .ok (.iconst 4, 1) := op7 (by decide +kernel)
theorem dC_init_158 : decode (mB mC_init) 158 = .ok (.anewarray 86, 3) := op189 0 86 (by decide +kernel)
theorem dC_init_161 : decode (mB mC_init) 161 = .ok (.putfield 88, 3) := op181 0 88 (by decide +kernel)
theorem dC_init_164 : decode (mB mC_init) 164 = .ok (.iconst 0, 1) := op3 (by decide +kernel)
theorem dC_init_165 : decode (mB mC_init) 165 = .ok (.istore_n 1, 1) := op60 (by decide +kernel)
theorem dC_init_166 : decode (mB mC_init) 166 = .ok (.iload_n 1, 1) := op27 (by decide +kernel)
theorem dC_init_167 : decode (mB mC_init) 167 = .ok (.iconst 4, 1) := op7 (by decide +kernel)
theorem dC_init_168 : decode (mB mC_init) 168 = .ok (.if_icmp .ge 22, 3) := op162 0 22 (by decide +kernel)
theorem dC_init_171 : decode (mB mC_init) 171 = .ok (.aload_n 0, 1) := op42 (by decide +kernel)
theorem dC_init_172 : decode (mB mC_init) 172 = .ok (.getfield 88, 3) := op180 0 88 (by decide +kernel)
theorem dC_init_175 : decode (mB mC_init) 175 = .ok (.iload_n 1, 1) := op27 (by decide +kernel)
theorem dC_init_176 : decode (mB mC_init) 176 = .ok (.new 86, 3) := op187 0 86 (by decide +kernel)
theorem dC_init_179 : decode (mB mC_init) 179 = .ok (.dup, 1) := op89 (by decide +kernel)
theorem dC_init_180 : decode (mB mC_init) 180 = .ok (.invokespecial 92, 3) := op183 0 92 (by decide +kernel)
theorem dC_init_183 : decode (mB mC_init) 183 = .ok (.aastore, 1) := op83 (by decide +kernel)
theorem dC_init_184 : decode (mB mC_init) 184 = .ok (.iinc 1 1, 3) := op132 1 1 (by decide +kernel)
theorem dC_init_187 : decode (mB mC_init) 187 = .ok (.goto (-21), 3) := op167 255 235 (by decide +kernel)
theorem dC_init_190 : decode (mB mC_init) 190 = .ok (.return_, 1) := op177 (by decide +kernel)

theorem vC_init_0 {M : Mm} {b : Nat × Nat} {K : Mm → Prop} {v0 : Nat}  
    (h : X mC_init 4 [(0, .ref v0)] [] M b (QV K)) : X mC_init 0 [(0, .ref v0)] [] M b (QV K) := by
  refine x_wf (fun hw => ?_)
  refine x_aload_n (pc := 0) dC_init_0 rfl (q := 0) rfl ?_
  refine x_obj (pc := 1) dC_init_1 mlC_3 h_obj.1 h_obj.2 (by decide) (Nat.le_of_ble_eq_true rfl) ?_
  exact h

theorem vC_init_4 {M : Mm} {b b' : Nat × Nat} (hb : b'.1 + 2 ≤ b.1 ∧ b'.2 + 402 ≤ b.2) {K : Mm → Prop} {v0 : Nat}  
    (h : CV mTa_init [.ref (64 * M.1.1.length + 6)] (nw M 6) (fun N => X mC_init 12 [(0, .ref v0)] [.ref (64 * M.1.1.length + 6), .ref v0] N b' (QV K))) : X mC_init 4 [(0, .ref v0)] [] M b (QV K) := by
  refine x_wf (fun hw => ?_)
  refine x_aload_n (pc := 4) dC_init_4 rfl (q := 0) rfl ?_
  refine x_newB (pc := 5) dC_init_5 (c := 6) (by decide) clC_9 (b' := (b'.1 + 1, b'.2 + 400)) (by have := hb; simp only [show kN 6 = 2 from rfl]; omega) ?_
  refine x_dup (pc := 8) dC_init_8 rfl ?_
  exact x_invI (pc := 9) dC_init_9 (S := [.ref (64 * M.1.1.length + 6), .ref v0]) (As := []) mlC_11 hTa_init rfl (by rw [(nwk M.1.1.length 6 (by decide))]; decide) ⟨by decide, by decide⟩ (by have := hb; constructor <;> (simp only [show mC mTa_init = 1 from rfl, show mS mTa_init = 400 from rfl]; omega)) rfl (Nat.le_of_ble_eq_true rfl) (aftV (b' := b') (by have := hb; constructor <;> (simp only [show mC mTa_init = 1 from rfl, show mS mTa_init = 400 from rfl]; omega)) (fun N h => h) h)

theorem vC_init_12 {M : Mm} {b : Nat × Nat} {K : Mm → Prop} {v0 : Nat} {w0 : Nat} {w1 : Nat} (kw1 : w1 % 64 = 10) (kw0 : w0 % 64 = 6) 
    (h : X mC_init 15 [(0, .ref v0)] [] (sr M w1 0 (some w0)) b (QV K)) : X mC_init 12 [(0, .ref v0)] [.ref w0, .ref w1] M b (QV K) := by
  refine x_wf (fun hw => ?_)
  refine x_putR (pc := 12) dC_init_12 kw1 flC_12 (Or.inr ⟨rfl, rfl, rfl⟩) (Or.inl ⟨_, rfl⟩) (by first | exact kw0 | (rw [kw0]; rfl)) (by decide) ?_
  exact h

theorem vC_init_15 {M : Mm} {b b' : Nat × Nat} (hb : b'.1 + 1 ≤ b.1 ∧ b'.2 + 7 ≤ b.2) {K : Mm → Prop} {v0 : Nat} (kv0 : v0 % 64 = 10) 
    (h : ∃ r1 : Nat, gr (nw M 7) v0 0 = some r1 ∧ (CV mTo_init [.ref (64 * M.1.1.length + 7), .ref r1] (nw M 7) (fun N => X mC_init 27 [(0, .ref v0)] [.ref (64 * M.1.1.length + 7), .ref v0] N b' (QV K)))) : X mC_init 15 [(0, .ref v0)] [] M b (QV K) := by
  refine x_wf (fun hw => ?_)
  refine x_aload_n (pc := 15) dC_init_15 rfl (q := 0) rfl ?_
  refine x_newB (pc := 16) dC_init_16 (c := 7) (by decide) clC_16 (b' := b') (by have := hb; simp only [show kN 7 = 7 from rfl]; omega) ?_
  refine x_dup (pc := 19) dC_init_19 rfl ?_
  refine x_aload_n (pc := 20) dC_init_20 rfl (q := 0) rfl ?_
  obtain ⟨r1, s501, h⟩ := h
  refine x_getR (pc := 21) dC_init_21 kv0 flC_12 rfl s501 ?_
  exact x_invI (pc := 24) dC_init_24 (S := [.ref (64 * M.1.1.length + 7), .ref v0]) (As := [.ref r1]) mlC_18 hTo_init rfl (by rw [(nwk M.1.1.length 7 (by decide))]; decide) ⟨by decide, by decide⟩ ⟨Nat.zero_le _, Nat.zero_le _⟩ rfl (Nat.le_of_ble_eq_true rfl) (aftV (b' := b') ⟨Nat.le_refl _, Nat.le_refl _⟩ (fun N h => h) h)

theorem vC_init_27 {M : Mm} {b : Nat × Nat} {K : Mm → Prop} {v0 : Nat} {w0 : Nat} {w1 : Nat} (kw1 : w1 % 64 = 10) (kw0 : w0 % 64 = 7) 
    (h : X mC_init 30 [(0, .ref v0)] [] (sr M w1 1 (some w0)) b (QV K)) : X mC_init 27 [(0, .ref v0)] [.ref w0, .ref w1] M b (QV K) := by
  refine x_wf (fun hw => ?_)
  refine x_putR (pc := 27) dC_init_27 kw1 flC_21 (Or.inr ⟨rfl, rfl, rfl⟩) (Or.inl ⟨_, rfl⟩) (by first | exact kw0 | (rw [kw0]; rfl)) (by decide) ?_
  exact h

theorem vC_init_30 {M : Mm} {b b' : Nat × Nat} (hb : b'.1 + 1 ≤ b.1 ∧ b'.2 + 2 ≤ b.2) {K : Mm → Prop} {v0 : Nat} (kv0 : v0 % 64 = 10) 
    (h : ∃ r1 : Nat, gr (nw M 2) v0 1 = some r1 ∧ (CV mLr_init [.ref (64 * M.1.1.length + 2), .ref r1] (nw M 2) (fun N => X mC_init 42 [(0, .ref v0)] [.ref (64 * M.1.1.length + 2), .ref v0] N b' (QV K)))) : X mC_init 30 [(0, .ref v0)] [] M b (QV K) := by
  refine x_wf (fun hw => ?_)
  refine x_aload_n (pc := 30) dC_init_30 rfl (q := 0) rfl ?_
  refine x_newB (pc := 31) dC_init_31 (c := 2) (by decide) clC_25 (b' := b') (by have := hb; simp only [show kN 2 = 2 from rfl]; omega) ?_
  refine x_dup (pc := 34) dC_init_34 rfl ?_
  refine x_aload_n (pc := 35) dC_init_35 rfl (q := 0) rfl ?_
  obtain ⟨r1, s501, h⟩ := h
  refine x_getR (pc := 36) dC_init_36 kv0 flC_21 rfl s501 ?_
  exact x_invI (pc := 39) dC_init_39 (S := [.ref (64 * M.1.1.length + 2), .ref v0]) (As := [.ref r1]) mlC_27 hLr_init rfl (by rw [(nwk M.1.1.length 2 (by decide))]; decide) ⟨by decide, by decide⟩ ⟨Nat.zero_le _, Nat.zero_le _⟩ rfl (Nat.le_of_ble_eq_true rfl) (aftV (b' := b') ⟨Nat.le_refl _, Nat.le_refl _⟩ (fun N h => h) h)

theorem vC_init_42 {M : Mm} {b : Nat × Nat} {K : Mm → Prop} {v0 : Nat} {w0 : Nat} {w1 : Nat} (kw1 : w1 % 64 = 10) (kw0 : w0 % 64 = 2) 
    (h : X mC_init 45 [(0, .ref v0)] [] (sr M w1 2 (some w0)) b (QV K)) : X mC_init 42 [(0, .ref v0)] [.ref w0, .ref w1] M b (QV K) := by
  refine x_wf (fun hw => ?_)
  refine x_putR (pc := 42) dC_init_42 kw1 flC_30 (Or.inr ⟨rfl, rfl, rfl⟩) (Or.inl ⟨_, rfl⟩) (by first | exact kw0 | (rw [kw0]; rfl)) (by decide) ?_
  exact h

theorem vC_init_45 {M : Mm} {b b' : Nat × Nat} (hb : b'.1 + 1 ≤ b.1 ∧ b'.2 + 1 ≤ b.2) {K : Mm → Prop} {v0 : Nat} (kv0 : v0 % 64 = 10) 
    (h : ∃ r1 : Nat, gr (nw M 4) v0 1 = some r1 ∧ (CV mRr_init [.ref (64 * M.1.1.length + 4), .ref r1] (nw M 4) (fun N => X mC_init 57 [(0, .ref v0)] [.ref (64 * M.1.1.length + 4), .ref v0] N b' (QV K)))) : X mC_init 45 [(0, .ref v0)] [] M b (QV K) := by
  refine x_wf (fun hw => ?_)
  refine x_aload_n (pc := 45) dC_init_45 rfl (q := 0) rfl ?_
  refine x_newB (pc := 46) dC_init_46 (c := 4) (by decide) clC_34 (b' := b') (by have := hb; simp only [show kN 4 = 1 from rfl]; omega) ?_
  refine x_dup (pc := 49) dC_init_49 rfl ?_
  refine x_aload_n (pc := 50) dC_init_50 rfl (q := 0) rfl ?_
  obtain ⟨r1, s501, h⟩ := h
  refine x_getR (pc := 51) dC_init_51 kv0 flC_21 rfl s501 ?_
  exact x_invI (pc := 54) dC_init_54 (S := [.ref (64 * M.1.1.length + 4), .ref v0]) (As := [.ref r1]) mlC_36 hRr_init rfl (by rw [(nwk M.1.1.length 4 (by decide))]; decide) ⟨by decide, by decide⟩ ⟨Nat.zero_le _, Nat.zero_le _⟩ rfl (Nat.le_of_ble_eq_true rfl) (aftV (b' := b') ⟨Nat.le_refl _, Nat.le_refl _⟩ (fun N h => h) h)

theorem vC_init_57 {M : Mm} {b : Nat × Nat} {K : Mm → Prop} {v0 : Nat} {w0 : Nat} {w1 : Nat} (kw1 : w1 % 64 = 10) (kw0 : w0 % 64 = 4) 
    (h : X mC_init 60 [(0, .ref v0)] [] (sr M w1 3 (some w0)) b (QV K)) : X mC_init 57 [(0, .ref v0)] [.ref w0, .ref w1] M b (QV K) := by
  refine x_wf (fun hw => ?_)
  refine x_putR (pc := 57) dC_init_57 kw1 flC_37 (Or.inr ⟨rfl, rfl, rfl⟩) (Or.inl ⟨_, rfl⟩) (by first | exact kw0 | (rw [kw0]; rfl)) (by decide) ?_
  exact h

theorem vC_init_60 {M : Mm} {b b' : Nat × Nat} (hb : b'.1 + 36 ≤ b.1 ∧ b'.2 + 639 ≤ b.2) {K : Mm → Prop} {v0 : Nat}  
    (h : CV mLi_init [.ref (64 * M.1.1.length + 1)] (nw M 1) (fun N => X mC_init 68 [(0, .ref v0)] [.ref (64 * M.1.1.length + 1), .ref v0] N b' (QV K))) : X mC_init 60 [(0, .ref v0)] [] M b (QV K) := by
  refine x_wf (fun hw => ?_)
  refine x_aload_n (pc := 60) dC_init_60 rfl (q := 0) rfl ?_
  refine x_newB (pc := 61) dC_init_61 (c := 1) (by decide) clC_41 (b' := (b'.1 + 35, b'.2 + 623)) (by have := hb; simp only [show kN 1 = 16 from rfl]; omega) ?_
  refine x_dup (pc := 64) dC_init_64 rfl ?_
  exact x_invI (pc := 65) dC_init_65 (S := [.ref (64 * M.1.1.length + 1), .ref v0]) (As := []) mlC_43 hLi_init rfl (by rw [(nwk M.1.1.length 1 (by decide))]; decide) ⟨by decide, by decide⟩ (by have := hb; constructor <;> (simp only [show mC mLi_init = 35 from rfl, show mS mLi_init = 623 from rfl]; omega)) rfl (Nat.le_of_ble_eq_true rfl) (aftV (b' := b') (by have := hb; constructor <;> (simp only [show mC mLi_init = 35 from rfl, show mS mLi_init = 623 from rfl]; omega)) (fun N h => h) h)

theorem vC_init_68 {M : Mm} {b : Nat × Nat} {K : Mm → Prop} {v0 : Nat} {w0 : Nat} {w1 : Nat} (kw1 : w1 % 64 = 10) (kw0 : w0 % 64 = 1) 
    (h : X mC_init 71 [(0, .ref v0)] [] (sr M w1 4 (some w0)) b (QV K)) : X mC_init 68 [(0, .ref v0)] [.ref w0, .ref w1] M b (QV K) := by
  refine x_wf (fun hw => ?_)
  refine x_putR (pc := 68) dC_init_68 kw1 flC_44 (Or.inl rfl) (Or.inl ⟨_, rfl⟩) (by first | exact kw0 | (rw [kw0]; rfl)) (by decide) ?_
  exact h

theorem vC_init_71 {M : Mm} {b b' : Nat × Nat} (hb : b'.1 + 36 ≤ b.1 ∧ b'.2 + 639 ≤ b.2) {K : Mm → Prop} {v0 : Nat}  
    (h : CV mLi_init [.ref (64 * M.1.1.length + 1)] (nw M 1) (fun N => X mC_init 79 [(0, .ref v0)] [.ref (64 * M.1.1.length + 1), .ref v0] N b' (QV K))) : X mC_init 71 [(0, .ref v0)] [] M b (QV K) := by
  refine x_wf (fun hw => ?_)
  refine x_aload_n (pc := 71) dC_init_71 rfl (q := 0) rfl ?_
  refine x_newB (pc := 72) dC_init_72 (c := 1) (by decide) clC_41 (b' := (b'.1 + 35, b'.2 + 623)) (by have := hb; simp only [show kN 1 = 16 from rfl]; omega) ?_
  refine x_dup (pc := 75) dC_init_75 rfl ?_
  exact x_invI (pc := 76) dC_init_76 (S := [.ref (64 * M.1.1.length + 1), .ref v0]) (As := []) mlC_43 hLi_init rfl (by rw [(nwk M.1.1.length 1 (by decide))]; decide) ⟨by decide, by decide⟩ (by have := hb; constructor <;> (simp only [show mC mLi_init = 35 from rfl, show mS mLi_init = 623 from rfl]; omega)) rfl (Nat.le_of_ble_eq_true rfl) (aftV (b' := b') (by have := hb; constructor <;> (simp only [show mC mLi_init = 35 from rfl, show mS mLi_init = 623 from rfl]; omega)) (fun N h => h) h)

theorem vC_init_79 {M : Mm} {b : Nat × Nat} {K : Mm → Prop} {v0 : Nat} {w0 : Nat} {w1 : Nat} (kw1 : w1 % 64 = 10) (kw0 : w0 % 64 = 1) 
    (h : X mC_init 82 [(0, .ref v0)] [] (sr M w1 5 (some w0)) b (QV K)) : X mC_init 79 [(0, .ref v0)] [.ref w0, .ref w1] M b (QV K) := by
  refine x_wf (fun hw => ?_)
  refine x_putR (pc := 79) dC_init_79 kw1 flC_48 (Or.inl rfl) (Or.inl ⟨_, rfl⟩) (by first | exact kw0 | (rw [kw0]; rfl)) (by decide) ?_
  exact h

theorem vC_init_82 {M : Mm} {b b' : Nat × Nat} (hb : b'.1 + 1 ≤ b.1 ∧ b'.2 + 7 ≤ b.2) {K : Mm → Prop} {v0 : Nat}  
    (h : CV mRu_init [.ref (64 * M.1.1.length + 3)] (nw M 3) (fun N => X mC_init 90 [(0, .ref v0)] [.ref (64 * M.1.1.length + 3), .ref v0] N b' (QV K))) : X mC_init 82 [(0, .ref v0)] [] M b (QV K) := by
  refine x_wf (fun hw => ?_)
  refine x_aload_n (pc := 82) dC_init_82 rfl (q := 0) rfl ?_
  refine x_newB (pc := 83) dC_init_83 (c := 3) (by decide) clC_51 (b' := b') (by have := hb; simp only [show kN 3 = 7 from rfl]; omega) ?_
  refine x_dup (pc := 86) dC_init_86 rfl ?_
  exact x_invI (pc := 87) dC_init_87 (S := [.ref (64 * M.1.1.length + 3), .ref v0]) (As := []) mlC_53 hRu_init rfl (by rw [(nwk M.1.1.length 3 (by decide))]; decide) ⟨by decide, by decide⟩ ⟨Nat.zero_le _, Nat.zero_le _⟩ rfl (Nat.le_of_ble_eq_true rfl) (aftV (b' := b') ⟨Nat.le_refl _, Nat.le_refl _⟩ (fun N h => h) h)

theorem vC_init_90 {M : Mm} {b : Nat × Nat} {K : Mm → Prop} {v0 : Nat} {w0 : Nat} {w1 : Nat} (kw1 : w1 % 64 = 10) (kw0 : w0 % 64 = 3) 
    (h : X mC_init 93 [(0, .ref v0)] [] (sr M w1 6 (some w0)) b (QV K)) : X mC_init 90 [(0, .ref v0)] [.ref w0, .ref w1] M b (QV K) := by
  refine x_wf (fun hw => ?_)
  refine x_putR (pc := 90) dC_init_90 kw1 flC_54 (Or.inl rfl) (Or.inl ⟨_, rfl⟩) (by first | exact kw0 | (rw [kw0]; rfl)) (by decide) ?_
  exact h

theorem vC_init_93 {M : Mm} {b b' : Nat × Nat} (hb : b'.1 + 1 ≤ b.1 ∧ b'.2 + 7 ≤ b.2) {K : Mm → Prop} {v0 : Nat}  
    (h : CV mRu_init [.ref (64 * M.1.1.length + 3)] (nw M 3) (fun N => X mC_init 101 [(0, .ref v0)] [.ref (64 * M.1.1.length + 3), .ref v0] N b' (QV K))) : X mC_init 93 [(0, .ref v0)] [] M b (QV K) := by
  refine x_wf (fun hw => ?_)
  refine x_aload_n (pc := 93) dC_init_93 rfl (q := 0) rfl ?_
  refine x_newB (pc := 94) dC_init_94 (c := 3) (by decide) clC_51 (b' := b') (by have := hb; simp only [show kN 3 = 7 from rfl]; omega) ?_
  refine x_dup (pc := 97) dC_init_97 rfl ?_
  exact x_invI (pc := 98) dC_init_98 (S := [.ref (64 * M.1.1.length + 3), .ref v0]) (As := []) mlC_53 hRu_init rfl (by rw [(nwk M.1.1.length 3 (by decide))]; decide) ⟨by decide, by decide⟩ ⟨Nat.zero_le _, Nat.zero_le _⟩ rfl (Nat.le_of_ble_eq_true rfl) (aftV (b' := b') ⟨Nat.le_refl _, Nat.le_refl _⟩ (fun N h => h) h)

theorem vC_init_101 {M : Mm} {b : Nat × Nat} {K : Mm → Prop} {v0 : Nat} {w0 : Nat} {w1 : Nat} (kw1 : w1 % 64 = 10) (kw0 : w0 % 64 = 3) 
    (h : X mC_init 104 [(0, .ref v0)] [] (sr M w1 7 (some w0)) b (QV K)) : X mC_init 101 [(0, .ref v0)] [.ref w0, .ref w1] M b (QV K) := by
  refine x_wf (fun hw => ?_)
  refine x_putR (pc := 101) dC_init_101 kw1 flC_58 (Or.inl rfl) (Or.inl ⟨_, rfl⟩) (by first | exact kw0 | (rw [kw0]; rfl)) (by decide) ?_
  exact h

theorem vC_init_104 {M : Mm} {b b' : Nat × Nat} (hb : b'.1 + 1 ≤ b.1 ∧ b'.2 + 7 ≤ b.2) {K : Mm → Prop} {v0 : Nat}  
    (h : CV mRu_init [.ref (64 * M.1.1.length + 3)] (nw M 3) (fun N => X mC_init 112 [(0, .ref v0)] [.ref (64 * M.1.1.length + 3), .ref v0] N b' (QV K))) : X mC_init 104 [(0, .ref v0)] [] M b (QV K) := by
  refine x_wf (fun hw => ?_)
  refine x_aload_n (pc := 104) dC_init_104 rfl (q := 0) rfl ?_
  refine x_newB (pc := 105) dC_init_105 (c := 3) (by decide) clC_51 (b' := b') (by have := hb; simp only [show kN 3 = 7 from rfl]; omega) ?_
  refine x_dup (pc := 108) dC_init_108 rfl ?_
  exact x_invI (pc := 109) dC_init_109 (S := [.ref (64 * M.1.1.length + 3), .ref v0]) (As := []) mlC_53 hRu_init rfl (by rw [(nwk M.1.1.length 3 (by decide))]; decide) ⟨by decide, by decide⟩ ⟨Nat.zero_le _, Nat.zero_le _⟩ rfl (Nat.le_of_ble_eq_true rfl) (aftV (b' := b') ⟨Nat.le_refl _, Nat.le_refl _⟩ (fun N h => h) h)

theorem vC_init_112 {M : Mm} {b : Nat × Nat} {K : Mm → Prop} {v0 : Nat} {w0 : Nat} {w1 : Nat} (kw1 : w1 % 64 = 10) (kw0 : w0 % 64 = 3) 
    (h : X mC_init 115 [(0, .ref v0)] [] (sr M w1 8 (some w0)) b (QV K)) : X mC_init 112 [(0, .ref v0)] [.ref w0, .ref w1] M b (QV K) := by
  refine x_wf (fun hw => ?_)
  refine x_putR (pc := 112) dC_init_112 kw1 flC_61 (Or.inl rfl) (Or.inl ⟨_, rfl⟩) (by first | exact kw0 | (rw [kw0]; rfl)) (by decide) ?_
  exact h

theorem vC_init_115 {M : Mm} {b b' : Nat × Nat} (hb : b'.1 + 2 ≤ b.1 ∧ b'.2 + 18 ≤ b.2) {K : Mm → Prop} {v0 : Nat} (kv0 : v0 % 64 = 10) 
    (h : ∃ r1 : Nat, gr (nw (si M v0 9 255) 8) v0 4 = some r1 ∧ (∃ r2 : Nat, gr (nw (si M v0 9 255) 8) v0 6 = some r2 ∧ (CV mWe_init [.ref (64 * (si M v0 9 255).1.1.length + 8), .ref r1, .ref r2] (nw (si M v0 9 255) 8) (fun N => X mC_init 138 [(0, .ref v0)] [.ref (64 * (si M v0 9 255).1.1.length + 8), .ref v0] N b' (QV K))))) : X mC_init 115 [(0, .ref v0)] [] M b (QV K) := by
  refine x_wf (fun hw => ?_)
  refine x_aload_n (pc := 115) dC_init_115 rfl (q := 0) rfl ?_
  refine x_sipush (pc := 116) dC_init_116 (v := 255) rfl ?_
  refine x_putI (pc := 119) dC_init_119 kv0 flC_64 rfl rfl ?_
  refine x_aload_n (pc := 122) dC_init_122 rfl (q := 0) rfl ?_
  refine x_newB (pc := 123) dC_init_123 (c := 8) (by decide) clC_68 (b' := (b'.1 + 1, b'.2 + 8)) (by have := hb; simp only [show kN 8 = 10 from rfl]; omega) ?_
  refine x_dup (pc := 126) dC_init_126 rfl ?_
  refine x_aload_n (pc := 127) dC_init_127 rfl (q := 0) rfl ?_
  obtain ⟨r1, s501, h⟩ := h
  refine x_getR (pc := 128) dC_init_128 kv0 flC_44 rfl s501 ?_
  refine x_aload_n (pc := 131) dC_init_131 rfl (q := 0) rfl ?_
  obtain ⟨r2, s502, h⟩ := h
  refine x_getR (pc := 132) dC_init_132 kv0 flC_54 rfl s502 ?_
  exact x_invI (pc := 135) dC_init_135 (S := [.ref (64 * (si M v0 9 255).1.1.length + 8), .ref v0]) (As := [.ref r1, .ref r2]) mlC_70 hWe_init rfl (by rw [(nwk (si M v0 9 255).1.1.length 8 (by decide))]; decide) ⟨by decide, by decide⟩ (by have := hb; constructor <;> (simp only [show mC mWe_init = 1 from rfl, show mS mWe_init = 8 from rfl]; omega)) rfl (Nat.le_of_ble_eq_true rfl) (aftV (b' := b') (by have := hb; constructor <;> (simp only [show mC mWe_init = 1 from rfl, show mS mWe_init = 8 from rfl]; omega)) (fun N h => h) h)

theorem vC_init_138 {M : Mm} {b : Nat × Nat} {K : Mm → Prop} {v0 : Nat} {w0 : Nat} {w1 : Nat} (kw1 : w1 % 64 = 10) (kw0 : w0 % 64 = 8) 
    (h : X mC_init 141 [(0, .ref v0)] [] (sr M w1 11 (some w0)) b (QV K)) : X mC_init 138 [(0, .ref v0)] [.ref w0, .ref w1] M b (QV K) := by
  refine x_wf (fun hw => ?_)
  refine x_putR (pc := 138) dC_init_138 kw1 flC_73 (Or.inr ⟨rfl, rfl, rfl⟩) (Or.inl ⟨_, rfl⟩) (by first | exact kw0 | (rw [kw0]; rfl)) (by decide) ?_
  exact h

theorem vC_init_141 {M : Mm} {b b' : Nat × Nat} (hb : b'.1 + 2 ≤ b.1 ∧ b'.2 + 1026 ≤ b.2) {K : Mm → Prop} {v0 : Nat} (kv0 : v0 % 64 = 10) 
    (h : ∃ r1 : Nat, gr (nw M 0) v0 11 = some r1 ∧ (CV mFi_init [.ref (64 * M.1.1.length + 0), .ref r1] (nw M 0) (fun N => X mC_init 153 [(0, .ref v0)] [.ref (64 * M.1.1.length + 0), .ref v0] N b' (QV K)))) : X mC_init 141 [(0, .ref v0)] [] M b (QV K) := by
  refine x_wf (fun hw => ?_)
  refine x_aload_n (pc := 141) dC_init_141 rfl (q := 0) rfl ?_
  refine x_newB (pc := 142) dC_init_142 (c := 0) (by decide) clC_77 (b' := (b'.1 + 1, b'.2 + 1024)) (by have := hb; simp only [show kN 0 = 2 from rfl]; omega) ?_
  refine x_dup (pc := 145) dC_init_145 rfl ?_
  refine x_aload_n (pc := 146) dC_init_146 rfl (q := 0) rfl ?_
  obtain ⟨r1, s501, h⟩ := h
  refine x_getR (pc := 147) dC_init_147 kv0 flC_73 rfl s501 ?_
  exact x_invI (pc := 150) dC_init_150 (S := [.ref (64 * M.1.1.length + 0), .ref v0]) (As := [.ref r1]) mlC_79 hFi_init rfl (by rw [(nwk M.1.1.length 0 (by decide))]; decide) ⟨by decide, by decide⟩ (by have := hb; constructor <;> (simp only [show mC mFi_init = 1 from rfl, show mS mFi_init = 1024 from rfl]; omega)) rfl (Nat.le_of_ble_eq_true rfl) (aftV (b' := b') (by have := hb; constructor <;> (simp only [show mC mFi_init = 1 from rfl, show mS mFi_init = 1024 from rfl]; omega)) (fun N h => h) h)

theorem vC_init_153 {M : Mm} {b : Nat × Nat} {K : Mm → Prop} {v0 : Nat} {w0 : Nat} {w1 : Nat} (kw1 : w1 % 64 = 10) (kw0 : w0 % 64 = 0) 
    (h : X mC_init 156 [(0, .ref v0)] [] (sr M w1 12 (some w0)) b (QV K)) : X mC_init 153 [(0, .ref v0)] [.ref w0, .ref w1] M b (QV K) := by
  refine x_wf (fun hw => ?_)
  refine x_putR (pc := 153) dC_init_153 kw1 flC_82 (Or.inr ⟨rfl, rfl, rfl⟩) (Or.inl ⟨_, rfl⟩) (by first | exact kw0 | (rw [kw0]; rfl)) (by decide) ?_
  exact h

theorem vC_init_156 {M : Mm} {b b' : Nat × Nat} (hb : b'.1 + 1 ≤ b.1 ∧ b'.2 + 4 ≤ b.2) {K : Mm → Prop} {v0 : Nat} (kv0 : v0 % 64 = 10) 
    (h : X mC_init 164 [(0, .ref v0)] [] (sr (nw M 19) v0 13 (some (64 * M.1.1.length + 19))) b' (QV K)) : X mC_init 156 [(0, .ref v0)] [] M b (QV K) := by
  refine x_wf (fun hw => ?_)
  refine x_aload_n (pc := 156) dC_init_156 rfl (q := 0) rfl ?_
  refine x_iconst (pc := 157) dC_init_157 (v := 4) rfl ?_
  refine x_anewB (pc := 158) dC_init_158 ak_19 (Or.inr ⟨rfl, rfl⟩) (by decide) (by decide) (by decide) clC_86 (b' := b') (by have := hb; (try dsimp only); omega) ?_
  refine x_putR (pc := 161) dC_init_161 kv0 flC_88 (Or.inr ⟨rfl, rfl, rfl⟩) (Or.inr ⟨_, rfl⟩) (by first | exact (nwk M.1.1.length 19 (by decide)) | (rw [(nwk M.1.1.length 19 (by decide))]; rfl)) (by decide) ?_
  exact h

theorem vC_init_164 {M : Mm} {b : Nat × Nat} {K : Mm → Prop} {v0 : Nat}  
    (h : X mC_init 166 [(0, .ref v0), (1, .int 0)] [] M b (QV K)) : X mC_init 164 [(0, .ref v0)] [] M b (QV K) := by
  refine x_wf (fun hw => ?_)
  refine x_iconst (pc := 164) dC_init_164 (v := 0) rfl ?_
  refine x_istore_n (pc := 165) dC_init_165 rfl (by decide) (L' := [(1, .int 0), (0, .ref v0)]) rfl ?_
  exact x_loc [1, 0] rfl h

theorem vC_init_166 {M : Mm} {b b' : Nat × Nat} (hb : b'.1 + 2 ≤ b.1 ∧ b'.2 + 43 ≤ b.2) {K : Mm → Prop} {v0 : Nat} {v1 : Int32} {r1 : Nat} (kv0 : v0 % 64 = 10) (e1 : gr M v0 13 = some r1)
    (h : (4 ≤ v1 → (K M)) ∧ (¬ 4 ≤ v1 → (CV mSh_init [.ref (64 * M.1.1.length + 5)] (nw M 5) (fun N => X mC_init 183 [(0, .ref v0), (1, .int v1)] [.ref (64 * M.1.1.length + 5), .int v1, .ref r1] N b' (QV K))))) : X mC_init 166 [(0, .ref v0), (1, .int v1)] [] M b (QV K) := by
  refine x_wf (fun hw => ?_)
  refine x_iload_n (pc := 166) dC_init_166 rfl (q := 1) rfl ?_
  refine x_iconst (pc := 167) dC_init_167 (v := 4) rfl ?_
  obtain ⟨g1_0, g1_1⟩ := h
  refine x_icmp_ge (pc := 168) dC_init_168 (t := 190) rfl (fun q1 => ?_) (fun q1 => ?_)
  · have h := g1_0 q1
    exact x_retQV (pc := 190) dC_init_190 rfl h
  · refine x_aload_n (pc := 171) dC_init_171 rfl (q := 0) rfl ?_
    refine x_getR (pc := 172) dC_init_172 kv0 flC_88 rfl e1 ?_
    refine x_iload_n (pc := 175) dC_init_175 rfl (q := 1) rfl ?_
    have h := g1_1 q1
    refine x_newB (pc := 176) dC_init_176 (c := 5) (by decide) clC_86 (b' := (b'.1 + 1, b'.2 + 40)) (by have := hb; simp only [show kN 5 = 3 from rfl]; omega) ?_
    refine x_dup (pc := 179) dC_init_179 rfl ?_
    exact x_invI (pc := 180) dC_init_180 (S := [.ref (64 * M.1.1.length + 5), .int v1, .ref r1]) (As := []) mlC_92 hSh_init rfl (by rw [(nwk M.1.1.length 5 (by decide))]; decide) ⟨by decide, by decide⟩ (by have := hb; constructor <;> (simp only [show mC mSh_init = 1 from rfl, show mS mSh_init = 40 from rfl]; omega)) rfl (Nat.le_of_ble_eq_true rfl) (aftV (b' := b') (by have := hb; constructor <;> (simp only [show mC mSh_init = 1 from rfl, show mS mSh_init = 40 from rfl]; omega)) (fun N h => h) h)

theorem vC_init_183 {M : Mm} {b : Nat × Nat} {K : Mm → Prop} {v0 : Nat} {v1 : Int32} {w0 : Nat} {w1 : Int32} {w2 : Nat} (kw2 : w2 % 64 = 19) (kw0 : w0 % 64 = 5) 
    (h : vp_in w1 4 ∧ (X mC_init 166 [(0, .ref v0), (1, .int (v1 + 1))] [] (sr M w2 (w1).toNatClampNeg (some w0)) b (QV K))) : X mC_init 183 [(0, .ref v0), (1, .int v1)] [.ref w0, .int w1, .ref w2] M b (QV K) := by
  refine x_wf (fun hw => ?_)
  obtain ⟨s501, h⟩ := h
  refine x_astR (pc := 183) (Or.inr ⟨rfl, rfl⟩) dC_init_183 kw2 ak_19 kw0 rfl s501 ?_
  refine x_iinc (pc := 184) dC_init_184 (q := 1) rfl (v := v1 + 1) rfl (by decide) (L' := [(1, .int (v1 + 1)), (0, .ref v0)]) rfl ?_
  refine x_goto (pc := 187) dC_init_187 (t := 166) rfl ?_
  exact x_loc [1, 0] rfl h

theorem dC_holds_0 : decode (mB mC_holds) 0 = .ok (.iload_n 0, 1) := op26 (by decide +kernel)
theorem dC_holds_1 : decode (mB mC_holds) 1 = .ok (.iload_n 1, 1) := op27 (by decide +kernel)
theorem dC_holds_2 : decode (mB mC_holds) 2 = .ok (.iushr, 1) := op124 (by decide +kernel)
theorem dC_holds_3 : decode (mB mC_holds) 3 = .ok (.iconst 1, 1) := op4 (by decide +kernel)
theorem dC_holds_4 : decode (mB mC_holds) 4 = .ok (.iand, 1) := op126 (by decide +kernel)
theorem dC_holds_5 : decode (mB mC_holds) 5 = .ok (.iconst 1, 1) := op4 (by decide +kernel)
theorem dC_holds_6 : decode (mB mC_holds) 6 = .ok (.if_icmp .ne 7, 3) := op160 0 7 (by decide +kernel)
theorem dC_holds_9 : decode (mB mC_holds) 9 = .ok (.iconst 1, 1) := op4 (by decide +kernel)
theorem dC_holds_10 : decode (mB mC_holds) 10 = .ok (.goto 4, 3) := op167 0 4 (by decide +kernel)
theorem dC_holds_13 : decode (mB mC_holds) 13 = .ok (.iconst 0, 1) := op3 (by decide +kernel)
theorem dC_holds_14 : decode (mB mC_holds) 14 = .ok (.ireturn, 1) := op172 (by decide +kernel)

theorem vC_holds_0 {M : Mm} {b : Nat × Nat} {K : Int32 → Mm → Prop} {v0 : Int32} {v1 : Int32}  
    (h : K (if ((ushr v0 v1) &&& 1) = 1 then 1 else 0 : Int32) M) : X mC_holds 0 [(0, .int v0), (1, .int v1)] [] M b (QI K) := by
  refine x_wf (fun hw => ?_)
  refine x_iload_n (pc := 0) dC_holds_0 rfl (q := 0) rfl ?_
  refine x_iload_n (pc := 1) dC_holds_1 rfl (q := 1) rfl ?_
  refine x_iushr (pc := 2) dC_holds_2 ?_
  refine x_iconst (pc := 3) dC_holds_3 (v := 1) rfl ?_
  refine x_iand (pc := 4) dC_holds_4 ?_
  refine x_iconst (pc := 5) dC_holds_5 (v := 1) rfl ?_
  suffices hJ : X mC_holds 14 [(0, .int v0), (1, .int v1)] [.int (if ((ushr v0 v1) &&& 1) = 1 then 1 else 0 : Int32)] M b (QI K) by
    refine x_icmp_ne (pc := 6) dC_holds_6 (t := 13) rfl (fun q1 => ?_) (fun q1 => ?_)
    · refine x_iconst (pc := 13) dC_holds_13 (v := 0) rfl ?_
      first | (rw [if_neg q1] at hJ; exact hJ) | (simp only [if_neg q1] at hJ ⊢; exact hJ)
    · refine x_iconst (pc := 9) dC_holds_9 (v := 1) rfl ?_
      refine x_goto (pc := 10) dC_holds_10 (t := 14) rfl ?_
      first | (rw [if_pos q1] at hJ; exact hJ) | (simp only [if_pos q1] at hJ ⊢; exact hJ)
  exact x_retQI (pc := 14) dC_holds_14 rfl (by (repeat' split) <;> rfl) h

theorem dC_agreed_0 : decode (mB mC_agreed) 0 = .ok (.iload_n 1, 1) := op27 (by decide +kernel)
theorem dC_agreed_1 : decode (mB mC_agreed) 1 = .ok (.ifCond .ne 14, 3) := op154 0 14 (by decide +kernel)
theorem dC_agreed_4 : decode (mB mC_agreed) 4 = .ok (.iload_n 0, 1) := op26 (by decide +kernel)
theorem dC_agreed_5 : decode (mB mC_agreed) 5 = .ok (.ifCond .ne 8, 3) := op154 0 8 (by decide +kernel)
theorem dC_agreed_8 : decode (mB mC_agreed) 8 = .ok (.bipush (-4), 2) := op16 252 (by decide +kernel)
theorem dC_agreed_10 : decode (mB mC_agreed) 10 = .ok (.goto 4, 3) := op167 0 4 (by decide +kernel)
theorem dC_agreed_13 : decode (mB mC_agreed) 13 = .ok (.iconst 1, 1) := op4 (by decide +kernel)
theorem dC_agreed_14 : decode (mB mC_agreed) 14 = .ok (.ireturn, 1) := op172 (by decide +kernel)
theorem dC_agreed_15 : decode (mB mC_agreed) 15 = .ok (.iload_n 0, 1) := op26 (by decide +kernel)
theorem dC_agreed_16 : decode (mB mC_agreed) 16 = .ok (.ifCond .ne 7, 3) := op154 0 7 (by decide +kernel)
theorem dC_agreed_19 : decode (mB mC_agreed) 19 = .ok (.iconst 0, 1) := op3 (by decide +kernel)
theorem dC_agreed_20 : decode (mB mC_agreed) 20 = .ok (.goto 5, 3) := op167 0 5 (by decide +kernel)
theorem dC_agreed_23 : decode (mB mC_agreed) 23 = .ok (.bipush (-4), 2) := op16 252 (by decide +kernel)
theorem dC_agreed_25 : decode (mB mC_agreed) 25 = .ok (.ireturn, 1) := op172 (by decide +kernel)

theorem vC_agreed_0 {M : Mm} {b : Nat × Nat} {K : Int32 → Mm → Prop} {v0 : Int32} {v1 : Int32}  
    (h : ((¬ v1 = 0 ∧ ¬ v0 = 0) → (K (-4) M)) ∧ ((¬ v1 = 0 ∧ v0 = 0) → (K 0 M)) ∧ ((v1 = 0 ∧ ¬ v0 = 0) → (K 1 M)) ∧ ((v1 = 0 ∧ v0 = 0) → (K (-4) M))) : X mC_agreed 0 [(0, .int v0), (1, .int v1)] [] M b (QI K) := by
  refine x_wf (fun hw => ?_)
  refine x_iload_n (pc := 0) dC_agreed_0 rfl (q := 1) rfl ?_
  obtain ⟨g1_0, g1_1, g1_2, g1_3⟩ := h
  refine x_if_ne (pc := 1) dC_agreed_1 (t := 15) rfl (fun q1 => ?_) (fun q1 => ?_)
  · refine x_iload_n (pc := 15) dC_agreed_15 rfl (q := 0) rfl ?_
    refine x_if_ne (pc := 16) dC_agreed_16 (t := 23) rfl (fun q2 => ?_) (fun q2 => ?_)
    · refine x_bipush (pc := 23) dC_agreed_23 (v := (-4)) rfl ?_
      have h := g1_0 ⟨q1, q2⟩
      exact x_retQI (pc := 25) dC_agreed_25 rfl rfl h
    · refine x_iconst (pc := 19) dC_agreed_19 (v := 0) rfl ?_
      refine x_goto (pc := 20) dC_agreed_20 (t := 25) rfl ?_
      have h := g1_1 ⟨q1, q2⟩
      exact x_retQI (pc := 25) dC_agreed_25 rfl rfl h
  · refine x_iload_n (pc := 4) dC_agreed_4 rfl (q := 0) rfl ?_
    refine x_if_ne (pc := 5) dC_agreed_5 (t := 13) rfl (fun q3 => ?_) (fun q3 => ?_)
    · refine x_iconst (pc := 13) dC_agreed_13 (v := 1) rfl ?_
      have h := g1_2 ⟨q1, q3⟩
      exact x_retQI (pc := 14) dC_agreed_14 rfl rfl h
    · refine x_bipush (pc := 8) dC_agreed_8 (v := (-4)) rfl ?_
      refine x_goto (pc := 10) dC_agreed_10 (t := 14) rfl ?_
      have h := g1_3 ⟨q1, q3⟩
      exact x_retQI (pc := 14) dC_agreed_14 rfl rfl h

theorem dC_feed_0 : decode (mB mC_feed) 0 = .ok (.aload_n 0, 1) := op42 (by decide +kernel)
theorem dC_feed_1 : decode (mB mC_feed) 1 = .ok (.getfield 12, 3) := op180 0 12 (by decide +kernel)
theorem dC_feed_4 : decode (mB mC_feed) 4 = .ok (.lload_n 1, 1) := op31 (by decide +kernel)
theorem dC_feed_5 : decode (mB mC_feed) 5 = .ok (.invokevirtual 93, 3) := op182 0 93 (by decide +kernel)
theorem dC_feed_8 : decode (mB mC_feed) 8 = .ok (.ifCond .eq 13, 3) := op153 0 13 (by decide +kernel)
theorem dC_feed_11 : decode (mB mC_feed) 11 = .ok (.aload_n 0, 1) := op42 (by decide +kernel)
theorem dC_feed_12 : decode (mB mC_feed) 12 = .ok (.getfield 12, 3) := op180 0 12 (by decide +kernel)
theorem dC_feed_15 : decode (mB mC_feed) 15 = .ok (.getfield 97, 3) := op180 0 97 (by decide +kernel)
theorem dC_feed_18 : decode (mB mC_feed) 18 = .ok (.goto 5, 3) := op167 0 5 (by decide +kernel)
theorem dC_feed_21 : decode (mB mC_feed) 21 = .ok (.bipush (-3), 2) := op16 253 (by decide +kernel)
theorem dC_feed_23 : decode (mB mC_feed) 23 = .ok (.ireturn, 1) := op172 (by decide +kernel)

theorem vC_feed_0 {M : Mm} {b : Nat × Nat} {K : Int32 → Mm → Prop} {v0 : Nat} {v1 : Int64} {r1 : Nat} (kv0 : v0 % 64 = 10) (e1 : gr M v0 0 = some r1)
    (h : CI mTa_append [.ref r1, .long v1] M (fun rv N => X mC_feed 8 [(0, .ref v0)] [.int rv] N b (QI K))) : X mC_feed 0 [(0, .ref v0), (1, .long v1)] [] M b (QI K) := by
  refine x_wf (fun hw => ?_)
  refine x_aload_n (pc := 0) dC_feed_0 rfl (q := 0) rfl ?_
  refine x_getR (pc := 1) dC_feed_1 kv0 flC_12 rfl e1 ?_
  refine x_lload_n (pc := 4) dC_feed_4 rfl (q := 1) rfl ?_
  exact x_invV (pc := 5) dC_feed_5 (c := 6) (S := []) (As := [.long v1]) mlC_93 hTa_append rfl (by decide) rfl (wfk hw e1 kv0) ⟨by decide, by decide⟩ ⟨Nat.zero_le _, Nat.zero_le _⟩ rfl (Nat.le_of_ble_eq_true rfl) (aftI (b' := b) ⟨Nat.le_refl _, Nat.le_refl _⟩ (fun rv N h => x_loc [0] rfl h) h)

theorem vC_feed_8 {M : Mm} {b : Nat × Nat} {K : Int32 → Mm → Prop} {v0 : Nat} {w0 : Int32} {r1 : Nat} (kv0 : v0 % 64 = 10) (e1 : gr M v0 0 = some r1)
    (h : K (if w0 = 0 then (-3) else (gi M r1 1) : Int32) M) : X mC_feed 8 [(0, .ref v0)] [.int w0] M b (QI K) := by
  refine x_wf (fun hw => ?_)
  suffices hJ : X mC_feed 23 [(0, .ref v0)] [.int (if w0 = 0 then (-3) else (gi M r1 1) : Int32)] M b (QI K) by
    refine x_if_eq (pc := 8) dC_feed_8 (t := 21) rfl (fun q1 => ?_) (fun q1 => ?_)
    · refine x_bipush (pc := 21) dC_feed_21 (v := (-3)) rfl ?_
      first | (rw [if_pos q1] at hJ; exact hJ) | (simp only [if_pos q1] at hJ ⊢; exact hJ)
    · refine x_aload_n (pc := 11) dC_feed_11 rfl (q := 0) rfl ?_
      refine x_getR (pc := 12) dC_feed_12 kv0 flC_12 rfl e1 ?_
      refine x_getI (pc := 15) dC_feed_15 (wfk hw e1 kv0) flC_97 rfl ?_
      refine x_goto (pc := 18) dC_feed_18 (t := 23) rfl ?_
      first | (rw [if_neg q1] at hJ; exact hJ) | (simp only [if_neg q1] at hJ ⊢; exact hJ)
  exact x_retQI (pc := 23) dC_feed_23 rfl rfl h

theorem dC_end_0 : decode (mB mC_end) 0 = .ok (.iload_n 1, 1) := op27 (by decide +kernel)
theorem dC_end_1 : decode (mB mC_end) 1 = .ok (.ifCond .lt 14, 3) := op155 0 14 (by decide +kernel)
theorem dC_end_4 : decode (mB mC_end) 4 = .ok (.iload_n 1, 1) := op27 (by decide +kernel)
theorem dC_end_5 : decode (mB mC_end) 5 = .ok (.aload_n 0, 1) := op42 (by decide +kernel)
theorem dC_end_6 : decode (mB mC_end) 6 = .ok (.getfield 12, 3) := op180 0 12 (by decide +kernel)
theorem dC_end_9 : decode (mB mC_end) 9 = .ok (.getfield 97, 3) := op180 0 97 (by decide +kernel)
theorem dC_end_12 : decode (mB mC_end) 12 = .ok (.if_icmp .le 5, 3) := op164 0 5 (by decide +kernel)
theorem dC_end_15 : decode (mB mC_end) 15 = .ok (.iconst (-1), 1) := op2 (by decide +kernel)
theorem dC_end_16 : decode (mB mC_end) 16 = .ok (.ireturn, 1) := op172 (by decide +kernel)
theorem dC_end_17 : decode (mB mC_end) 17 = .ok (.aload_n 0, 1) := op42 (by decide +kernel)
theorem dC_end_18 : decode (mB mC_end) 18 = .ok (.getfield 12, 3) := op180 0 12 (by decide +kernel)
theorem dC_end_21 : decode (mB mC_end) 21 = .ok (.getfield 97, 3) := op180 0 97 (by decide +kernel)
theorem dC_end_24 : decode (mB mC_end) 24 = .ok (.istore_n 2, 1) := op61 (by decide +kernel)
theorem dC_end_25 : decode (mB mC_end) 25 = .ok (.aload_n 0, 1) := op42 (by decide +kernel)
theorem dC_end_26 : decode (mB mC_end) 26 = .ok (.getfield 12, 3) := op180 0 12 (by decide +kernel)
theorem dC_end_29 : decode (mB mC_end) 29 = .ok (.iload_n 1, 1) := op27 (by decide +kernel)
theorem dC_end_30 : decode (mB mC_end) 30 = .ok (.putfield 97, 3) := op181 0 97 (by decide +kernel)
theorem dC_end_33 : decode (mB mC_end) 33 = .ok (.iload_n 2, 1) := op28 (by decide +kernel)
theorem dC_end_34 : decode (mB mC_end) 34 = .ok (.ireturn, 1) := op172 (by decide +kernel)

theorem vC_end_0 {M : Mm} {b : Nat × Nat} {K : Int32 → Mm → Prop} {v0 : Nat} {v1 : Int32} {r1 : Nat} (kv0 : v0 % 64 = 10) (e1 : gr M v0 0 = some r1)
    (h : (((v1 < 0) ∨ (¬ v1 < 0 ∧ ¬ v1 ≤ (gi M r1 1))) → (K (-1) M)) ∧ ((¬ v1 < 0 ∧ v1 ≤ (gi M r1 1)) → (K (gi M r1 1) (si M r1 1 v1)))) : X mC_end 0 [(0, .ref v0), (1, .int v1)] [] M b (QI K) := by
  refine x_wf (fun hw => ?_)
  refine x_iload_n (pc := 0) dC_end_0 rfl (q := 1) rfl ?_
  obtain ⟨g1_0, g1_1⟩ := h
  have g1_k0 : (v1 < 0) ∨ (¬ v1 < 0 ∧ ¬ v1 ≤ (gi M r1 1)) → X mC_end 15 [(0, .ref v0), (1, .int v1)] [] M b (QI K) := fun q => by
    have h := g1_0 q
    refine x_iconst (pc := 15) dC_end_15 (v := (-1)) rfl ?_
    exact x_retQI (pc := 16) dC_end_16 rfl rfl h
  refine x_if_lt (pc := 1) dC_end_1 (t := 15) rfl (fun q1 => ?_) (fun q1 => ?_)
  · exact g1_k0 (Or.inl q1)
  · refine x_iload_n (pc := 4) dC_end_4 rfl (q := 1) rfl ?_
    refine x_aload_n (pc := 5) dC_end_5 rfl (q := 0) rfl ?_
    refine x_getR (pc := 6) dC_end_6 kv0 flC_12 rfl e1 ?_
    refine x_getI (pc := 9) dC_end_9 (wfk hw e1 kv0) flC_97 rfl ?_
    refine x_icmp_le (pc := 12) dC_end_12 (t := 17) rfl (fun q2 => ?_) (fun q2 => ?_)
    · refine x_aload_n (pc := 17) dC_end_17 rfl (q := 0) rfl ?_
      refine x_getR (pc := 18) dC_end_18 kv0 flC_12 rfl e1 ?_
      refine x_getI (pc := 21) dC_end_21 (wfk hw e1 kv0) flC_97 rfl ?_
      have h := g1_1 ⟨q1, q2⟩
      refine x_istore_n (pc := 24) dC_end_24 rfl (by decide) (L' := [(2, .int (gi M r1 1)), (0, .ref v0), (1, .int v1)]) rfl ?_
      refine x_aload_n (pc := 25) dC_end_25 rfl (q := 1) rfl ?_
      refine x_getR (pc := 26) dC_end_26 kv0 flC_12 rfl e1 ?_
      refine x_iload_n (pc := 29) dC_end_29 rfl (q := 2) rfl ?_
      refine x_putI (pc := 30) dC_end_30 (wfk hw e1 kv0) flC_97 rfl rfl ?_
      refine x_iload_n (pc := 33) dC_end_33 rfl (q := 0) rfl ?_
      exact x_retQI (pc := 34) dC_end_34 rfl rfl h
    · exact g1_k0 (Or.inr ⟨q1, q2⟩)

theorem dC_library_0 : decode (mB mC_library) 0 = .ok (.aload_n 0, 1) := op42 (by decide +kernel)
theorem dC_library_1 : decode (mB mC_library) 1 = .ok (.getfield 30, 3) := op180 0 30 (by decide +kernel)
theorem dC_library_4 : decode (mB mC_library) 4 = .ok (.aload_n 0, 1) := op42 (by decide +kernel)
theorem dC_library_5 : decode (mB mC_library) 5 = .ok (.getfield 48, 3) := op180 0 48 (by decide +kernel)
theorem dC_library_8 : decode (mB mC_library) 8 = .ok (.invokevirtual 100, 3) := op182 0 100 (by decide +kernel)
theorem dC_library_11 : decode (mB mC_library) 11 = .ok (.istore_n 1, 1) := op60 (by decide +kernel)
theorem dC_library_12 : decode (mB mC_library) 12 = .ok (.iload_n 1, 1) := op27 (by decide +kernel)
theorem dC_library_13 : decode (mB mC_library) 13 = .ok (.ifCond .lt 35, 3) := op155 0 35 (by decide +kernel)
theorem dC_library_16 : decode (mB mC_library) 16 = .ok (.aload_n 0, 1) := op42 (by decide +kernel)
theorem dC_library_17 : decode (mB mC_library) 17 = .ok (.getfield 48, 3) := op180 0 48 (by decide +kernel)
theorem dC_library_20 : decode (mB mC_library) 20 = .ok (.invokevirtual 104, 3) := op182 0 104 (by decide +kernel)
theorem dC_library_23 : decode (mB mC_library) 23 = .ok (.aload_n 0, 1) := op42 (by decide +kernel)
theorem dC_library_24 : decode (mB mC_library) 24 = .ok (.getfield 44, 3) := op180 0 44 (by decide +kernel)
theorem dC_library_27 : decode (mB mC_library) 27 = .ok (.astore_n 2, 1) := op77 (by decide +kernel)
theorem dC_library_28 : decode (mB mC_library) 28 = .ok (.aload_n 0, 1) := op42 (by decide +kernel)
theorem dC_library_29 : decode (mB mC_library) 29 = .ok (.aload_n 0, 1) := op42 (by decide +kernel)
theorem dC_library_30 : decode (mB mC_library) 30 = .ok (.getfield 48, 3) := op180 0 48 (by decide +kernel)
theorem dC_library_33 : decode (mB mC_library) 33 = .ok (.putfield 44, 3) := op181 0 44 (by decide +kernel)
theorem dC_library_36 : decode (mB mC_library) 36 = .ok (.aload_n 0, 1) := op42 (by decide +kernel)
theorem dC_library_37 : decode (mB mC_library) 37 = .ok (.aload_n 2, 1) := op44 (by decide +kernel)
theorem dC_library_38 : decode (mB mC_library) 38 = .ok (.putfield 48, 3) := op181 0 48 (by decide +kernel)
theorem dC_library_41 : decode (mB mC_library) 41 = .ok (.aload_n 0, 1) := op42 (by decide +kernel)
theorem dC_library_42 : decode (mB mC_library) 42 = .ok (.sipush 255, 3) := op17 0 255 (by decide +kernel)
theorem dC_library_45 : decode (mB mC_library) 45 = .ok (.putfield 64, 3) := op181 0 64 (by decide +kernel)
theorem dC_library_48 : decode (mB mC_library) 48 = .ok (.aload_n 0, 1) := op42 (by decide +kernel)
theorem dC_library_49 : decode (mB mC_library) 49 = .ok (.iload_n 1, 1) := op27 (by decide +kernel)
theorem dC_library_50 : decode (mB mC_library) 50 = .ok (.invokevirtual 107, 3) := op182 0 107 (by decide +kernel)
theorem dC_library_53 : decode (mB mC_library) 53 = .ok (.ireturn, 1) := op172 (by decide +kernel)

theorem vC_library_0 {M : Mm} {b : Nat × Nat} {K : Int32 → Mm → Prop} {v0 : Nat} {r1 : Nat} {r2 : Nat} (kv0 : v0 % 64 = 10) (e1 : gr M v0 2 = some r1) (e2 : gr M v0 5 = some r2)
    (h : CI mLr_readInto [.ref r1, .ref r2] M (fun rv N => X mC_library 11 [(0, .ref v0)] [.int rv] N b (QI K))) : X mC_library 0 [(0, .ref v0)] [] M b (QI K) := by
  refine x_wf (fun hw => ?_)
  refine x_aload_n (pc := 0) dC_library_0 rfl (q := 0) rfl ?_
  refine x_getR (pc := 1) dC_library_1 kv0 flC_30 rfl e1 ?_
  refine x_aload_n (pc := 4) dC_library_4 rfl (q := 0) rfl ?_
  refine x_getR (pc := 5) dC_library_5 kv0 flC_48 rfl e2 ?_
  exact x_invV (pc := 8) dC_library_8 (c := 2) (S := []) (As := [.ref r2]) mlC_100 hLr_readInto rfl (by decide) rfl (wfk hw e1 kv0) ⟨by decide, by decide⟩ ⟨Nat.zero_le _, Nat.zero_le _⟩ rfl (Nat.le_of_ble_eq_true rfl) (aftI (b' := b) ⟨Nat.le_refl _, Nat.le_refl _⟩ (fun rv N h => h) h)

theorem vC_library_11 {M : Mm} {b : Nat × Nat} {K : Int32 → Mm → Prop} {v0 : Nat} {w0 : Int32} {r1 : Nat} (kv0 : v0 % 64 = 10) (e1 : gr M v0 5 = some r1)
    (h : (w0 < 0 → (X mC_library 48 [(0, .ref v0), (1, .int w0)] [] M b (QI K))) ∧ (¬ w0 < 0 → (CV mLi_settle [.ref r1] M (fun N => X mC_library 23 [(0, .ref v0), (1, .int w0)] [] N b (QI K))))) : X mC_library 11 [(0, .ref v0)] [.int w0] M b (QI K) := by
  refine x_wf (fun hw => ?_)
  refine x_istore_n (pc := 11) dC_library_11 rfl (by decide) (L' := [(1, .int w0), (0, .ref v0)]) rfl ?_
  refine x_iload_n (pc := 12) dC_library_12 rfl (q := 0) rfl ?_
  obtain ⟨g1_0, g1_1⟩ := h
  refine x_if_lt (pc := 13) dC_library_13 (t := 48) rfl (fun q1 => ?_) (fun q1 => ?_)
  · have h := g1_0 q1
    exact x_loc [1, 0] rfl h
  · refine x_aload_n (pc := 16) dC_library_16 rfl (q := 1) rfl ?_
    refine x_getR (pc := 17) dC_library_17 kv0 flC_48 rfl e1 ?_
    have h := g1_1 q1
    exact x_invV (pc := 20) dC_library_20 (c := 1) (S := []) (As := []) mlC_104 hLi_settle rfl (by decide) rfl (wfk hw e1 kv0) ⟨by decide, by decide⟩ ⟨Nat.zero_le _, Nat.zero_le _⟩ rfl (Nat.le_of_ble_eq_true rfl) (aftV (b' := b) ⟨Nat.le_refl _, Nat.le_refl _⟩ (fun N h => x_loc [1, 0] rfl h) h)

theorem vC_library_23 {M : Mm} {b : Nat × Nat} {K : Int32 → Mm → Prop} {v0 : Nat} {v1 : Int32} {r1 : Nat} {r2 : Nat} (kv0 : v0 % 64 = 10) (e1 : gr M v0 4 = some r1) (e2 : gr M v0 5 = some r2)
    (h : X mC_library 48 [(0, .ref v0), (1, .int v1)] [] (si (sr (sr M v0 4 (some r2)) v0 5 (some r1)) v0 9 255) b (QI K)) : X mC_library 23 [(0, .ref v0), (1, .int v1)] [] M b (QI K) := by
  refine x_wf (fun hw => ?_)
  refine x_aload_n (pc := 23) dC_library_23 rfl (q := 0) rfl ?_
  refine x_getR (pc := 24) dC_library_24 kv0 flC_44 rfl e1 ?_
  refine x_astore_n (pc := 27) dC_library_27 rfl (by decide) (L' := [(2, .ref r1), (0, .ref v0), (1, .int v1)]) rfl ?_
  refine x_aload_n (pc := 28) dC_library_28 rfl (q := 1) rfl ?_
  refine x_aload_n (pc := 29) dC_library_29 rfl (q := 1) rfl ?_
  refine x_getR (pc := 30) dC_library_30 kv0 flC_48 rfl e2 ?_
  refine x_putR (pc := 33) dC_library_33 kv0 flC_44 (Or.inl rfl) (Or.inl ⟨_, rfl⟩) (by first | exact (wfk hw e2 kv0) | (rw [(wfk hw e2 kv0)]; rfl)) (by decide) ?_
  refine x_aload_n (pc := 36) dC_library_36 rfl (q := 1) rfl ?_
  refine x_aload_n (pc := 37) dC_library_37 rfl (q := 0) rfl ?_
  refine x_putR (pc := 38) dC_library_38 kv0 flC_48 (Or.inl rfl) (Or.inl ⟨_, rfl⟩) (by first | exact (wfk hw e1 kv0) | (rw [(wfk hw e1 kv0)]; rfl)) (by decide) ?_
  refine x_aload_n (pc := 41) dC_library_41 rfl (q := 1) rfl ?_
  refine x_sipush (pc := 42) dC_library_42 (v := 255) rfl ?_
  refine x_putI (pc := 45) dC_library_45 kv0 flC_64 rfl rfl ?_
  exact x_loc [1, 2] rfl h

theorem vC_library_48 {M : Mm} {b : Nat × Nat} {K : Int32 → Mm → Prop} {v0 : Nat} {v1 : Int32} (kv0 : v0 % 64 = 10) 
    (h : CI mC_afterText [.ref v0, .int v1] M (fun rv N => X mC_library 53 [] [.int rv] N b (QI K))) : X mC_library 48 [(0, .ref v0), (1, .int v1)] [] M b (QI K) := by
  refine x_wf (fun hw => ?_)
  refine x_aload_n (pc := 48) dC_library_48 rfl (q := 0) rfl ?_
  refine x_iload_n (pc := 49) dC_library_49 rfl (q := 1) rfl ?_
  exact x_invV (pc := 50) dC_library_50 (c := 10) (S := []) (As := [.int v1]) mlC_107 hC_afterText rfl (by decide) rfl kv0 ⟨by decide, by decide⟩ ⟨Nat.zero_le _, Nat.zero_le _⟩ rfl (Nat.le_of_ble_eq_true rfl) (aftI (b' := b) ⟨Nat.le_refl _, Nat.le_refl _⟩ (fun rv N h => x_loc [] rfl h) h)

theorem vC_library_53 {M : Mm} {b : Nat × Nat} {K : Int32 → Mm → Prop} {w0 : Int32}  
    (h : K w0 M) : X mC_library 53 [] [.int w0] M b (QI K) := by
  refine x_wf (fun hw => ?_)
  exact x_retQI (pc := 53) dC_library_53 rfl rfl h

theorem dC_afterText_0 : decode (mB mC_afterText) 0 = .ok (.aload_n 0, 1) := op42 (by decide +kernel)
theorem dC_afterText_1 : decode (mB mC_afterText) 1 = .ok (.getfield 12, 3) := op180 0 12 (by decide +kernel)
theorem dC_afterText_4 : decode (mB mC_afterText) 4 = .ok (.iconst 0, 1) := op3 (by decide +kernel)
theorem dC_afterText_5 : decode (mB mC_afterText) 5 = .ok (.putfield 97, 3) := op181 0 97 (by decide +kernel)
theorem dC_afterText_8 : decode (mB mC_afterText) 8 = .ok (.aload_n 0, 1) := op42 (by decide +kernel)
theorem dC_afterText_9 : decode (mB mC_afterText) 9 = .ok (.aload_n 0, 1) := op42 (by decide +kernel)
theorem dC_afterText_10 : decode (mB mC_afterText) 10 = .ok (.getfield 21, 3) := op180 0 21 (by decide +kernel)
theorem dC_afterText_13 : decode (mB mC_afterText) 13 = .ok (.getfield 114, 3) := op180 0 114 (by decide +kernel)
theorem dC_afterText_16 : decode (mB mC_afterText) 16 = .ok (.putfield 117, 3) := op181 0 117 (by decide +kernel)
theorem dC_afterText_19 : decode (mB mC_afterText) 19 = .ok (.iload_n 1, 1) := op27 (by decide +kernel)
theorem dC_afterText_20 : decode (mB mC_afterText) 20 = .ok (.ifCond .lt 7, 3) := op155 0 7 (by decide +kernel)
theorem dC_afterText_23 : decode (mB mC_afterText) 23 = .ok (.iload_n 1, 1) := op27 (by decide +kernel)
theorem dC_afterText_24 : decode (mB mC_afterText) 24 = .ok (.goto 13, 3) := op167 0 13 (by decide +kernel)
theorem dC_afterText_27 : decode (mB mC_afterText) 27 = .ok (.bipush (-10), 2) := op16 246 (by decide +kernel)
theorem dC_afterText_29 : decode (mB mC_afterText) 29 = .ok (.aload_n 0, 1) := op42 (by decide +kernel)
theorem dC_afterText_30 : decode (mB mC_afterText) 30 = .ok (.getfield 21, 3) := op180 0 21 (by decide +kernel)
theorem dC_afterText_33 : decode (mB mC_afterText) 33 = .ok (.getfield 120, 3) := op180 0 120 (by decide +kernel)
theorem dC_afterText_36 : decode (mB mC_afterText) 36 = .ok (.isub, 1) := op100 (by decide +kernel)
theorem dC_afterText_37 : decode (mB mC_afterText) 37 = .ok (.ireturn, 1) := op172 (by decide +kernel)

theorem vC_afterText_0 {M : Mm} {b : Nat × Nat} {K : Int32 → Mm → Prop} {v0 : Nat} {v1 : Int32} {r1 : Nat} {r2 : Nat} (kv0 : v0 % 64 = 10) (e1 : gr M v0 0 = some r1) (e2 : gr M v0 1 = some r2)
    (h : K (if v1 < 0 then ((-10) - (gi (si (si M r1 1 0) v0 10 (gi (si M r1 1 0) r2 5)) r2 6)) else v1 : Int32) (si (si M r1 1 0) v0 10 (gi (si M r1 1 0) r2 5))) : X mC_afterText 0 [(0, .ref v0), (1, .int v1)] [] M b (QI K) := by
  refine x_wf (fun hw => ?_)
  refine x_aload_n (pc := 0) dC_afterText_0 rfl (q := 0) rfl ?_
  refine x_getR (pc := 1) dC_afterText_1 kv0 flC_12 rfl e1 ?_
  refine x_iconst (pc := 4) dC_afterText_4 (v := 0) rfl ?_
  refine x_putI (pc := 5) dC_afterText_5 (wfk hw e1 kv0) flC_97 rfl rfl ?_
  refine x_aload_n (pc := 8) dC_afterText_8 rfl (q := 0) rfl ?_
  refine x_aload_n (pc := 9) dC_afterText_9 rfl (q := 0) rfl ?_
  refine x_getR (pc := 10) dC_afterText_10 kv0 flC_21 rfl e2 ?_
  refine x_getI (pc := 13) dC_afterText_13 (wfk hw e2 kv0) flC_114 rfl ?_
  refine x_putI (pc := 16) dC_afterText_16 kv0 flC_117 rfl rfl ?_
  refine x_iload_n (pc := 19) dC_afterText_19 rfl (q := 1) rfl ?_
  suffices hJ : X mC_afterText 37 [(0, .ref v0), (1, .int v1)] [.int (if v1 < 0 then ((-10) - (gi (si (si M r1 1 0) v0 10 (gi (si M r1 1 0) r2 5)) r2 6)) else v1 : Int32)] (si (si M r1 1 0) v0 10 (gi (si M r1 1 0) r2 5)) b (QI K) by
    refine x_if_lt (pc := 20) dC_afterText_20 (t := 27) rfl (fun q1 => ?_) (fun q1 => ?_)
    · refine x_bipush (pc := 27) dC_afterText_27 (v := (-10)) rfl ?_
      refine x_aload_n (pc := 29) dC_afterText_29 rfl (q := 0) rfl ?_
      refine x_getR (pc := 30) dC_afterText_30 kv0 flC_21 rfl e2 ?_
      refine x_getI (pc := 33) dC_afterText_33 (wfk hw e2 kv0) flC_120 rfl ?_
      refine x_isub (pc := 36) dC_afterText_36 ?_
      first | (rw [if_pos q1] at hJ; exact hJ) | (simp only [if_pos q1] at hJ ⊢; exact hJ)
    · refine x_iload_n (pc := 23) dC_afterText_23 rfl (q := 1) rfl ?_
      refine x_goto (pc := 24) dC_afterText_24 (t := 37) rfl ?_
      first | (rw [if_neg q1] at hJ; exact hJ) | (simp only [if_neg q1] at hJ ⊢; exact hJ)
  exact x_retQI (pc := 37) dC_afterText_37 rfl rfl h

theorem dC_rule_0 : decode (mB mC_rule) 0 = .ok (.aload_n 0, 1) := op42 (by decide +kernel)
theorem dC_rule_1 : decode (mB mC_rule) 1 = .ok (.getfield 37, 3) := op180 0 37 (by decide +kernel)
theorem dC_rule_4 : decode (mB mC_rule) 4 = .ok (.aload_n 0, 1) := op42 (by decide +kernel)
theorem dC_rule_5 : decode (mB mC_rule) 5 = .ok (.getfield 61, 3) := op180 0 61 (by decide +kernel)
theorem dC_rule_8 : decode (mB mC_rule) 8 = .ok (.invokevirtual 111, 3) := op182 0 111 (by decide +kernel)
theorem dC_rule_11 : decode (mB mC_rule) 11 = .ok (.istore_n 1, 1) := op60 (by decide +kernel)
theorem dC_rule_12 : decode (mB mC_rule) 12 = .ok (.iload_n 1, 1) := op27 (by decide +kernel)
theorem dC_rule_13 : decode (mB mC_rule) 13 = .ok (.ifCond .lt 21, 3) := op155 0 21 (by decide +kernel)
theorem dC_rule_16 : decode (mB mC_rule) 16 = .ok (.aload_n 0, 1) := op42 (by decide +kernel)
theorem dC_rule_17 : decode (mB mC_rule) 17 = .ok (.getfield 54, 3) := op180 0 54 (by decide +kernel)
theorem dC_rule_20 : decode (mB mC_rule) 20 = .ok (.astore_n 2, 1) := op77 (by decide +kernel)
theorem dC_rule_21 : decode (mB mC_rule) 21 = .ok (.aload_n 0, 1) := op42 (by decide +kernel)
theorem dC_rule_22 : decode (mB mC_rule) 22 = .ok (.aload_n 0, 1) := op42 (by decide +kernel)
theorem dC_rule_23 : decode (mB mC_rule) 23 = .ok (.getfield 61, 3) := op180 0 61 (by decide +kernel)
theorem dC_rule_26 : decode (mB mC_rule) 26 = .ok (.putfield 54, 3) := op181 0 54 (by decide +kernel)
theorem dC_rule_29 : decode (mB mC_rule) 29 = .ok (.aload_n 0, 1) := op42 (by decide +kernel)
theorem dC_rule_30 : decode (mB mC_rule) 30 = .ok (.aload_n 2, 1) := op44 (by decide +kernel)
theorem dC_rule_31 : decode (mB mC_rule) 31 = .ok (.putfield 61, 3) := op181 0 61 (by decide +kernel)
theorem dC_rule_34 : decode (mB mC_rule) 34 = .ok (.aload_n 0, 1) := op42 (by decide +kernel)
theorem dC_rule_35 : decode (mB mC_rule) 35 = .ok (.iload_n 1, 1) := op27 (by decide +kernel)
theorem dC_rule_36 : decode (mB mC_rule) 36 = .ok (.invokevirtual 107, 3) := op182 0 107 (by decide +kernel)
theorem dC_rule_39 : decode (mB mC_rule) 39 = .ok (.ireturn, 1) := op172 (by decide +kernel)

theorem vC_rule_0 {M : Mm} {b : Nat × Nat} {K : Int32 → Mm → Prop} {v0 : Nat} {r1 : Nat} {r2 : Nat} (kv0 : v0 % 64 = 10) (e1 : gr M v0 3 = some r1) (e2 : gr M v0 8 = some r2)
    (h : CI mRr_readInto [.ref r1, .ref r2] M (fun rv N => X mC_rule 11 [(0, .ref v0)] [.int rv] N b (QI K))) : X mC_rule 0 [(0, .ref v0)] [] M b (QI K) := by
  refine x_wf (fun hw => ?_)
  refine x_aload_n (pc := 0) dC_rule_0 rfl (q := 0) rfl ?_
  refine x_getR (pc := 1) dC_rule_1 kv0 flC_37 rfl e1 ?_
  refine x_aload_n (pc := 4) dC_rule_4 rfl (q := 0) rfl ?_
  refine x_getR (pc := 5) dC_rule_5 kv0 flC_61 rfl e2 ?_
  exact x_invV (pc := 8) dC_rule_8 (c := 4) (S := []) (As := [.ref r2]) mlC_111 hRr_readInto rfl (by decide) rfl (wfk hw e1 kv0) ⟨by decide, by decide⟩ ⟨Nat.zero_le _, Nat.zero_le _⟩ rfl (Nat.le_of_ble_eq_true rfl) (aftI (b' := b) ⟨Nat.le_refl _, Nat.le_refl _⟩ (fun rv N h => h) h)

theorem vC_rule_11 {M : Mm} {b : Nat × Nat} {K : Int32 → Mm → Prop} {v0 : Nat} {w0 : Int32} {r1 : Nat} {r2 : Nat} (kv0 : v0 % 64 = 10) (e1 : gr M v0 6 = some r1) (e2 : gr M v0 8 = some r2)
    (h : (w0 < 0 → (X mC_rule 34 [(0, .ref v0), (1, .int w0)] [] M b (QI K))) ∧ (¬ w0 < 0 → (X mC_rule 34 [(0, .ref v0), (1, .int w0)] [] (sr (sr M v0 6 (some r2)) v0 8 (some r1)) b (QI K)))) : X mC_rule 11 [(0, .ref v0)] [.int w0] M b (QI K) := by
  refine x_wf (fun hw => ?_)
  refine x_istore_n (pc := 11) dC_rule_11 rfl (by decide) (L' := [(1, .int w0), (0, .ref v0)]) rfl ?_
  refine x_iload_n (pc := 12) dC_rule_12 rfl (q := 0) rfl ?_
  obtain ⟨g1_0, g1_1⟩ := h
  refine x_if_lt (pc := 13) dC_rule_13 (t := 34) rfl (fun q1 => ?_) (fun q1 => ?_)
  · have h := g1_0 q1
    exact x_loc [1, 0] rfl h
  · refine x_aload_n (pc := 16) dC_rule_16 rfl (q := 1) rfl ?_
    refine x_getR (pc := 17) dC_rule_17 kv0 flC_54 rfl e1 ?_
    have h := g1_1 q1
    refine x_astore_n (pc := 20) dC_rule_20 rfl (by decide) (L' := [(2, .ref r1), (1, .int w0), (0, .ref v0)]) rfl ?_
    refine x_aload_n (pc := 21) dC_rule_21 rfl (q := 2) rfl ?_
    refine x_aload_n (pc := 22) dC_rule_22 rfl (q := 2) rfl ?_
    refine x_getR (pc := 23) dC_rule_23 kv0 flC_61 rfl e2 ?_
    refine x_putR (pc := 26) dC_rule_26 kv0 flC_54 (Or.inl rfl) (Or.inl ⟨_, rfl⟩) (by first | exact (wfk hw e2 kv0) | (rw [(wfk hw e2 kv0)]; rfl)) (by decide) ?_
    refine x_aload_n (pc := 29) dC_rule_29 rfl (q := 2) rfl ?_
    refine x_aload_n (pc := 30) dC_rule_30 rfl (q := 0) rfl ?_
    refine x_putR (pc := 31) dC_rule_31 kv0 flC_61 (Or.inl rfl) (Or.inl ⟨_, rfl⟩) (by first | exact (wfk hw e1 kv0) | (rw [(wfk hw e1 kv0)]; rfl)) (by decide) ?_
    exact x_loc [2, 1] rfl h

theorem vC_rule_34 {M : Mm} {b : Nat × Nat} {K : Int32 → Mm → Prop} {v0 : Nat} {v1 : Int32} (kv0 : v0 % 64 = 10) 
    (h : CI mC_afterText [.ref v0, .int v1] M (fun rv N => X mC_rule 39 [] [.int rv] N b (QI K))) : X mC_rule 34 [(0, .ref v0), (1, .int v1)] [] M b (QI K) := by
  refine x_wf (fun hw => ?_)
  refine x_aload_n (pc := 34) dC_rule_34 rfl (q := 0) rfl ?_
  refine x_iload_n (pc := 35) dC_rule_35 rfl (q := 1) rfl ?_
  exact x_invV (pc := 36) dC_rule_36 (c := 10) (S := []) (As := [.int v1]) mlC_107 hC_afterText rfl (by decide) rfl kv0 ⟨by decide, by decide⟩ ⟨Nat.zero_le _, Nat.zero_le _⟩ rfl (Nat.le_of_ble_eq_true rfl) (aftI (b' := b) ⟨Nat.le_refl _, Nat.le_refl _⟩ (fun rv N h => x_loc [] rfl h) h)

theorem vC_rule_39 {M : Mm} {b : Nat × Nat} {K : Int32 → Mm → Prop} {w0 : Int32}  
    (h : K w0 M) : X mC_rule 39 [] [.int w0] M b (QI K) := by
  refine x_wf (fun hw => ?_)
  exact x_retQI (pc := 39) dC_rule_39 rfl rfl h

theorem dC_fault_0 : decode (mB mC_fault) 0 = .ok (.aload_n 0, 1) := op42 (by decide +kernel)
theorem dC_fault_1 : decode (mB mC_fault) 1 = .ok (.getfield 117, 3) := op180 0 117 (by decide +kernel)
theorem dC_fault_4 : decode (mB mC_fault) 4 = .ok (.ireturn, 1) := op172 (by decide +kernel)

theorem vC_fault_0 {M : Mm} {b : Nat × Nat} {K : Int32 → Mm → Prop} {v0 : Nat} (kv0 : v0 % 64 = 10) 
    (h : K (gi M v0 10) M) : X mC_fault 0 [(0, .ref v0)] [] M b (QI K) := by
  refine x_wf (fun hw => ?_)
  refine x_aload_n (pc := 0) dC_fault_0 rfl (q := 0) rfl ?_
  refine x_getI (pc := 1) dC_fault_1 kv0 flC_117 rfl ?_
  exact x_retQI (pc := 4) dC_fault_4 rfl rfl h

theorem dC_weighs_0 : decode (mB mC_weighs) 0 = .ok (.iload_n 1, 1) := op27 (by decide +kernel)
theorem dC_weighs_1 : decode (mB mC_weighs) 1 = .ok (.tableswitch 107 0 6 #[43, 51, 59, 75, 83, 91, 99], 43) := by decide +kernel
theorem dC_weighs_44 : decode (mB mC_weighs) 44 = .ok (.aload_n 0, 1) := op42 (by decide +kernel)
theorem dC_weighs_45 : decode (mB mC_weighs) 45 = .ok (.getfield 54, 3) := op180 0 54 (by decide +kernel)
theorem dC_weighs_48 : decode (mB mC_weighs) 48 = .ok (.getfield 123, 3) := op180 0 123 (by decide +kernel)
theorem dC_weighs_51 : decode (mB mC_weighs) 51 = .ok (.ireturn, 1) := op172 (by decide +kernel)
theorem dC_weighs_52 : decode (mB mC_weighs) 52 = .ok (.aload_n 0, 1) := op42 (by decide +kernel)
theorem dC_weighs_53 : decode (mB mC_weighs) 53 = .ok (.getfield 54, 3) := op180 0 54 (by decide +kernel)
theorem dC_weighs_56 : decode (mB mC_weighs) 56 = .ok (.getfield 126, 3) := op180 0 126 (by decide +kernel)
theorem dC_weighs_59 : decode (mB mC_weighs) 59 = .ok (.ireturn, 1) := op172 (by decide +kernel)
theorem dC_weighs_60 : decode (mB mC_weighs) 60 = .ok (.aload_n 0, 1) := op42 (by decide +kernel)
theorem dC_weighs_61 : decode (mB mC_weighs) 61 = .ok (.getfield 54, 3) := op180 0 54 (by decide +kernel)
theorem dC_weighs_64 : decode (mB mC_weighs) 64 = .ok (.getfield 129, 3) := op180 0 129 (by decide +kernel)
theorem dC_weighs_67 : decode (mB mC_weighs) 67 = .ok (.ifCond .eq 7, 3) := op153 0 7 (by decide +kernel)
theorem dC_weighs_70 : decode (mB mC_weighs) 70 = .ok (.iconst 1, 1) := op4 (by decide +kernel)
theorem dC_weighs_71 : decode (mB mC_weighs) 71 = .ok (.goto 4, 3) := op167 0 4 (by decide +kernel)
theorem dC_weighs_74 : decode (mB mC_weighs) 74 = .ok (.iconst 0, 1) := op3 (by decide +kernel)
theorem dC_weighs_75 : decode (mB mC_weighs) 75 = .ok (.ireturn, 1) := op172 (by decide +kernel)
theorem dC_weighs_76 : decode (mB mC_weighs) 76 = .ok (.aload_n 0, 1) := op42 (by decide +kernel)
theorem dC_weighs_77 : decode (mB mC_weighs) 77 = .ok (.getfield 54, 3) := op180 0 54 (by decide +kernel)
theorem dC_weighs_80 : decode (mB mC_weighs) 80 = .ok (.getfield 133, 3) := op180 0 133 (by decide +kernel)
theorem dC_weighs_83 : decode (mB mC_weighs) 83 = .ok (.ireturn, 1) := op172 (by decide +kernel)
theorem dC_weighs_84 : decode (mB mC_weighs) 84 = .ok (.aload_n 0, 1) := op42 (by decide +kernel)
theorem dC_weighs_85 : decode (mB mC_weighs) 85 = .ok (.getfield 54, 3) := op180 0 54 (by decide +kernel)
theorem dC_weighs_88 : decode (mB mC_weighs) 88 = .ok (.getfield 136, 3) := op180 0 136 (by decide +kernel)
theorem dC_weighs_91 : decode (mB mC_weighs) 91 = .ok (.ireturn, 1) := op172 (by decide +kernel)
theorem dC_weighs_92 : decode (mB mC_weighs) 92 = .ok (.aload_n 0, 1) := op42 (by decide +kernel)
theorem dC_weighs_93 : decode (mB mC_weighs) 93 = .ok (.getfield 54, 3) := op180 0 54 (by decide +kernel)
theorem dC_weighs_96 : decode (mB mC_weighs) 96 = .ok (.getfield 139, 3) := op180 0 139 (by decide +kernel)
theorem dC_weighs_99 : decode (mB mC_weighs) 99 = .ok (.ireturn, 1) := op172 (by decide +kernel)
theorem dC_weighs_100 : decode (mB mC_weighs) 100 = .ok (.aload_n 0, 1) := op42 (by decide +kernel)
theorem dC_weighs_101 : decode (mB mC_weighs) 101 = .ok (.getfield 54, 3) := op180 0 54 (by decide +kernel)
theorem dC_weighs_104 : decode (mB mC_weighs) 104 = .ok (.getfield 142, 3) := op180 0 142 (by decide +kernel)
theorem dC_weighs_107 : decode (mB mC_weighs) 107 = .ok (.ireturn, 1) := op172 (by decide +kernel)
theorem dC_weighs_108 : decode (mB mC_weighs) 108 = .ok (.iconst (-1), 1) := op2 (by decide +kernel)
theorem dC_weighs_109 : decode (mB mC_weighs) 109 = .ok (.ireturn, 1) := op172 (by decide +kernel)

theorem vC_weighs_0 {M : Mm} {b : Nat × Nat} {K : Int32 → Mm → Prop} {v0 : Nat} {v1 : Int32} {r1 : Nat} (kv0 : v0 % 64 = 10) (e1 : gr M v0 6 = some r1)
    (h : (v1 = 0 → (K (gi M r1 0) M)) ∧ (v1 = 1 → (K (gi M r1 1) M)) ∧ (v1 = 2 → (K (if (gi M r1 2) = 0 then 0 else 1 : Int32) M)) ∧ (v1 = 3 → (K (gi M r1 3) M)) ∧ (v1 = 4 → (K (gi M r1 4) M)) ∧ (v1 = 5 → (K (gi M r1 5) M)) ∧ (v1 = 6 → (K (gi M r1 6) M)) ∧ (¬ v1 = 0 ∧ ¬ v1 = 1 ∧ ¬ v1 = 2 ∧ ¬ v1 = 3 ∧ ¬ v1 = 4 ∧ ¬ v1 = 5 ∧ ¬ v1 = 6 → (K (-1) M))) : X mC_weighs 0 [(0, .ref v0), (1, .int v1)] [] M b (QI K) := by
  refine x_wf (fun hw => ?_)
  refine x_iload_n (pc := 0) dC_weighs_0 rfl (q := 1) rfl ?_
  obtain ⟨g1_0, g1_1, g1_2, g1_3, g1_4, g1_5, g1_6, g1_7⟩ := h
  by_cases q1 : v1 = 0
  · refine x_tblIn (pc := 1) dC_weighs_1 (by rw [q1]; decide) (by rw [q1]; decide) (off := 43) (by rw [q1]; rfl) (t := 44) rfl ?_
    have h := g1_0 q1
    refine x_aload_n (pc := 44) dC_weighs_44 rfl (q := 0) rfl ?_
    refine x_getR (pc := 45) dC_weighs_45 kv0 flC_54 rfl e1 ?_
    refine x_getI (pc := 48) dC_weighs_48 (wfk hw e1 kv0) flC_123 rfl ?_
    exact x_retQI (pc := 51) dC_weighs_51 rfl rfl h
  by_cases q2 : v1 = 1
  · refine x_tblIn (pc := 1) dC_weighs_1 (by rw [q2]; decide) (by rw [q2]; decide) (off := 51) (by rw [q2]; rfl) (t := 52) rfl ?_
    have h := g1_1 q2
    refine x_aload_n (pc := 52) dC_weighs_52 rfl (q := 0) rfl ?_
    refine x_getR (pc := 53) dC_weighs_53 kv0 flC_54 rfl e1 ?_
    refine x_getI (pc := 56) dC_weighs_56 (wfk hw e1 kv0) flC_126 rfl ?_
    exact x_retQI (pc := 59) dC_weighs_59 rfl rfl h
  by_cases q3 : v1 = 2
  · refine x_tblIn (pc := 1) dC_weighs_1 (by rw [q3]; decide) (by rw [q3]; decide) (off := 59) (by rw [q3]; rfl) (t := 60) rfl ?_
    have h := g1_2 q3
    refine x_aload_n (pc := 60) dC_weighs_60 rfl (q := 0) rfl ?_
    refine x_getR (pc := 61) dC_weighs_61 kv0 flC_54 rfl e1 ?_
    refine x_getI (pc := 64) dC_weighs_64 (wfk hw e1 kv0) flC_129 rfl ?_
    suffices hJ : X mC_weighs 75 [(0, .ref v0), (1, .int v1)] [.int (if (gi M r1 2) = 0 then 0 else 1 : Int32)] M b (QI K) by
      refine x_if_eq (pc := 67) dC_weighs_67 (t := 74) rfl (fun q4 => ?_) (fun q4 => ?_)
      · refine x_iconst (pc := 74) dC_weighs_74 (v := 0) rfl ?_
        first | (rw [if_pos q4] at hJ; exact hJ) | (simp only [if_pos q4] at hJ ⊢; exact hJ)
      · refine x_iconst (pc := 70) dC_weighs_70 (v := 1) rfl ?_
        refine x_goto (pc := 71) dC_weighs_71 (t := 75) rfl ?_
        first | (rw [if_neg q4] at hJ; exact hJ) | (simp only [if_neg q4] at hJ ⊢; exact hJ)
    exact x_retQI (pc := 75) dC_weighs_75 rfl rfl h
  by_cases q5 : v1 = 3
  · refine x_tblIn (pc := 1) dC_weighs_1 (by rw [q5]; decide) (by rw [q5]; decide) (off := 75) (by rw [q5]; rfl) (t := 76) rfl ?_
    have h := g1_3 q5
    refine x_aload_n (pc := 76) dC_weighs_76 rfl (q := 0) rfl ?_
    refine x_getR (pc := 77) dC_weighs_77 kv0 flC_54 rfl e1 ?_
    refine x_getI (pc := 80) dC_weighs_80 (wfk hw e1 kv0) flC_133 rfl ?_
    exact x_retQI (pc := 83) dC_weighs_83 rfl rfl h
  by_cases q6 : v1 = 4
  · refine x_tblIn (pc := 1) dC_weighs_1 (by rw [q6]; decide) (by rw [q6]; decide) (off := 83) (by rw [q6]; rfl) (t := 84) rfl ?_
    have h := g1_4 q6
    refine x_aload_n (pc := 84) dC_weighs_84 rfl (q := 0) rfl ?_
    refine x_getR (pc := 85) dC_weighs_85 kv0 flC_54 rfl e1 ?_
    refine x_getI (pc := 88) dC_weighs_88 (wfk hw e1 kv0) flC_136 rfl ?_
    exact x_retQI (pc := 91) dC_weighs_91 rfl rfl h
  by_cases q7 : v1 = 5
  · refine x_tblIn (pc := 1) dC_weighs_1 (by rw [q7]; decide) (by rw [q7]; decide) (off := 91) (by rw [q7]; rfl) (t := 92) rfl ?_
    have h := g1_5 q7
    refine x_aload_n (pc := 92) dC_weighs_92 rfl (q := 0) rfl ?_
    refine x_getR (pc := 93) dC_weighs_93 kv0 flC_54 rfl e1 ?_
    refine x_getI (pc := 96) dC_weighs_96 (wfk hw e1 kv0) flC_139 rfl ?_
    exact x_retQI (pc := 99) dC_weighs_99 rfl rfl h
  by_cases q8 : v1 = 6
  · refine x_tblIn (pc := 1) dC_weighs_1 (by rw [q8]; decide) (by rw [q8]; decide) (off := 99) (by rw [q8]; rfl) (t := 100) rfl ?_
    have h := g1_6 q8
    refine x_aload_n (pc := 100) dC_weighs_100 rfl (q := 0) rfl ?_
    refine x_getR (pc := 101) dC_weighs_101 kv0 flC_54 rfl e1 ?_
    refine x_getI (pc := 104) dC_weighs_104 (wfk hw e1 kv0) flC_142 rfl ?_
    exact x_retQI (pc := 107) dC_weighs_107 rfl rfl h
  have h := g1_7 ⟨q1, q2, q3, q5, q6, q7, q8⟩
  have hout : (v1).toInt < 0 ∨ 6 < (v1).toInt := tblout (fun (k : Int) h1 h2 => by
    rcases (show k = 0 ∨ k = 1 ∨ k = 2 ∨ k = 3 ∨ k = 4 ∨ k = 5 ∨ k = 6 by omega) with rfl | rfl | rfl | rfl | rfl | rfl | rfl
    · exact q1
    · exact q2
    · exact q3
    · exact q5
    · exact q6
    · exact q7
    · exact q8)
  refine x_tblOut (pc := 1) dC_weighs_1 hout (t := 108) rfl ?_
  refine x_iconst (pc := 108) dC_weighs_108 (v := (-1)) rfl ?_
  exact x_retQI (pc := 109) dC_weighs_109 rfl rfl h

theorem dC_word_0 : decode (mB mC_word) 0 = .ok (.aload_n 0, 1) := op42 (by decide +kernel)
theorem dC_word_1 : decode (mB mC_word) 1 = .ok (.iload_n 1, 1) := op27 (by decide +kernel)
theorem dC_word_2 : decode (mB mC_word) 2 = .ok (.invokevirtual 145, 3) := op182 0 145 (by decide +kernel)
theorem dC_word_5 : decode (mB mC_word) 5 = .ok (.ifCond .ne 5, 3) := op154 0 5 (by decide +kernel)
theorem dC_word_8 : decode (mB mC_word) 8 = .ok (.iconst (-1), 1) := op2 (by decide +kernel)
theorem dC_word_9 : decode (mB mC_word) 9 = .ok (.ireturn, 1) := op172 (by decide +kernel)
theorem dC_word_10 : decode (mB mC_word) 10 = .ok (.aload_n 0, 1) := op42 (by decide +kernel)
theorem dC_word_11 : decode (mB mC_word) 11 = .ok (.getfield 44, 3) := op180 0 44 (by decide +kernel)
theorem dC_word_14 : decode (mB mC_word) 14 = .ok (.getfield 149, 3) := op180 0 149 (by decide +kernel)
theorem dC_word_17 : decode (mB mC_word) 17 = .ok (.iload_n 1, 1) := op27 (by decide +kernel)
theorem dC_word_18 : decode (mB mC_word) 18 = .ok (.aaload, 1) := op50 (by decide +kernel)
theorem dC_word_19 : decode (mB mC_word) 19 = .ok (.astore_n 3, 1) := op78 (by decide +kernel)
theorem dC_word_20 : decode (mB mC_word) 20 = .ok (.iload_n 2, 1) := op28 (by decide +kernel)
theorem dC_word_21 : decode (mB mC_word) 21 = .ok (.tableswitch 96 0 8 #[51, 56, 61, 66, 71, 76, 81, 86, 91], 51) := by decide +kernel
theorem dC_word_72 : decode (mB mC_word) 72 = .ok (.aload_n 3, 1) := op45 (by decide +kernel)
theorem dC_word_73 : decode (mB mC_word) 73 = .ok (.getfield 153, 3) := op180 0 153 (by decide +kernel)
theorem dC_word_76 : decode (mB mC_word) 76 = .ok (.ireturn, 1) := op172 (by decide +kernel)
theorem dC_word_77 : decode (mB mC_word) 77 = .ok (.aload_n 3, 1) := op45 (by decide +kernel)
theorem dC_word_78 : decode (mB mC_word) 78 = .ok (.getfield 158, 3) := op180 0 158 (by decide +kernel)
theorem dC_word_81 : decode (mB mC_word) 81 = .ok (.ireturn, 1) := op172 (by decide +kernel)
theorem dC_word_82 : decode (mB mC_word) 82 = .ok (.aload_n 3, 1) := op45 (by decide +kernel)
theorem dC_word_83 : decode (mB mC_word) 83 = .ok (.getfield 161, 3) := op180 0 161 (by decide +kernel)
theorem dC_word_86 : decode (mB mC_word) 86 = .ok (.ireturn, 1) := op172 (by decide +kernel)
theorem dC_word_87 : decode (mB mC_word) 87 = .ok (.aload_n 3, 1) := op45 (by decide +kernel)
theorem dC_word_88 : decode (mB mC_word) 88 = .ok (.getfield 164, 3) := op180 0 164 (by decide +kernel)
theorem dC_word_91 : decode (mB mC_word) 91 = .ok (.ireturn, 1) := op172 (by decide +kernel)
theorem dC_word_92 : decode (mB mC_word) 92 = .ok (.aload_n 3, 1) := op45 (by decide +kernel)
theorem dC_word_93 : decode (mB mC_word) 93 = .ok (.getfield 167, 3) := op180 0 167 (by decide +kernel)
theorem dC_word_96 : decode (mB mC_word) 96 = .ok (.ireturn, 1) := op172 (by decide +kernel)
theorem dC_word_97 : decode (mB mC_word) 97 = .ok (.aload_n 3, 1) := op45 (by decide +kernel)
theorem dC_word_98 : decode (mB mC_word) 98 = .ok (.getfield 170, 3) := op180 0 170 (by decide +kernel)
theorem dC_word_101 : decode (mB mC_word) 101 = .ok (.ireturn, 1) := op172 (by decide +kernel)
theorem dC_word_102 : decode (mB mC_word) 102 = .ok (.aload_n 3, 1) := op45 (by decide +kernel)
theorem dC_word_103 : decode (mB mC_word) 103 = .ok (.getfield 173, 3) := op180 0 173 (by decide +kernel)
theorem dC_word_106 : decode (mB mC_word) 106 = .ok (.ireturn, 1) := op172 (by decide +kernel)
theorem dC_word_107 : decode (mB mC_word) 107 = .ok (.aload_n 3, 1) := op45 (by decide +kernel)
theorem dC_word_108 : decode (mB mC_word) 108 = .ok (.getfield 176, 3) := op180 0 176 (by decide +kernel)
theorem dC_word_111 : decode (mB mC_word) 111 = .ok (.ireturn, 1) := op172 (by decide +kernel)
theorem dC_word_112 : decode (mB mC_word) 112 = .ok (.aload_n 3, 1) := op45 (by decide +kernel)
theorem dC_word_113 : decode (mB mC_word) 113 = .ok (.getfield 179, 3) := op180 0 179 (by decide +kernel)
theorem dC_word_116 : decode (mB mC_word) 116 = .ok (.ireturn, 1) := op172 (by decide +kernel)
theorem dC_word_117 : decode (mB mC_word) 117 = .ok (.iconst (-1), 1) := op2 (by decide +kernel)
theorem dC_word_118 : decode (mB mC_word) 118 = .ok (.ireturn, 1) := op172 (by decide +kernel)

theorem vC_word_0 {M : Mm} {b : Nat × Nat} {K : Int32 → Mm → Prop} {v0 : Nat} {v1 : Int32} {v2 : Int32} (kv0 : v0 % 64 = 10) 
    (h : CI mC_isWord [.ref v0, .int v1] M (fun rv N => X mC_word 5 [(0, .ref v0), (1, .int v1), (2, .int v2)] [.int rv] N b (QI K))) : X mC_word 0 [(0, .ref v0), (1, .int v1), (2, .int v2)] [] M b (QI K) := by
  refine x_wf (fun hw => ?_)
  refine x_aload_n (pc := 0) dC_word_0 rfl (q := 0) rfl ?_
  refine x_iload_n (pc := 1) dC_word_1 rfl (q := 1) rfl ?_
  exact x_invV (pc := 2) dC_word_2 (c := 10) (S := []) (As := [.int v1]) mlC_145 hC_isWord rfl (by decide) rfl kv0 ⟨by decide, by decide⟩ ⟨Nat.zero_le _, Nat.zero_le _⟩ rfl (Nat.le_of_ble_eq_true rfl) (aftI (b' := b) ⟨Nat.le_refl _, Nat.le_refl _⟩ (fun rv N h => h) h)

theorem vC_word_5 {M : Mm} {b : Nat × Nat} {K : Int32 → Mm → Prop} {v0 : Nat} {v1 : Int32} {v2 : Int32} {w0 : Int32} {r1 : Nat} {r2 : Nat} (kv0 : v0 % 64 = 10) (e1 : gr M v0 4 = some r1) (e2 : gr M r1 0 = some r2)
    (h : (¬ w0 = 0 → (vp_in v1 24 ∧ (∃ r3 : Nat, gr M r2 (v1).toNatClampNeg = some r3 ∧ ((v2 = 0 → (K (gi M r3 0) M)) ∧ (v2 = 1 → (K (gi M r3 1) M)) ∧ (v2 = 2 → (K (gi M r3 2) M)) ∧ (v2 = 3 → (K (gi M r3 3) M)) ∧ (v2 = 4 → (K (gi M r3 4) M)) ∧ (v2 = 5 → (K (gi M r3 5) M)) ∧ (v2 = 6 → (K (gi M r3 6) M)) ∧ (v2 = 7 → (K (gi M r3 8) M)) ∧ (v2 = 8 → (K (gi M r3 9) M)) ∧ (¬ v2 = 0 ∧ ¬ v2 = 1 ∧ ¬ v2 = 2 ∧ ¬ v2 = 3 ∧ ¬ v2 = 4 ∧ ¬ v2 = 5 ∧ ¬ v2 = 6 ∧ ¬ v2 = 7 ∧ ¬ v2 = 8 → (K (-1) M)))))) ∧ (w0 = 0 → (K (-1) M))) : X mC_word 5 [(0, .ref v0), (1, .int v1), (2, .int v2)] [.int w0] M b (QI K) := by
  refine x_wf (fun hw => ?_)
  obtain ⟨g1_0, g1_1⟩ := h
  refine x_if_ne (pc := 5) dC_word_5 (t := 10) rfl (fun q1 => ?_) (fun q1 => ?_)
  · refine x_aload_n (pc := 10) dC_word_10 rfl (q := 0) rfl ?_
    refine x_getR (pc := 11) dC_word_11 kv0 flC_44 rfl e1 ?_
    refine x_getR (pc := 14) dC_word_14 (wfk hw e1 kv0) flC_149 rfl e2 ?_
    refine x_iload_n (pc := 17) dC_word_17 rfl (q := 1) rfl ?_
    have h := g1_0 q1
    obtain ⟨s501, h⟩ := h
    obtain ⟨r3, s502, h⟩ := h
    refine x_aldR (pc := 18) (Or.inl rfl) dC_word_18 (wfk hw e2 (wfk hw e1 kv0)) ak_18 s501 s502 ?_
    refine x_astore_n (pc := 19) dC_word_19 rfl (by decide) (L' := [(3, .ref r3), (0, .ref v0), (1, .int v1), (2, .int v2)]) rfl ?_
    refine x_iload_n (pc := 20) dC_word_20 rfl (q := 3) rfl ?_
    obtain ⟨g2_0, g2_1, g2_2, g2_3, g2_4, g2_5, g2_6, g2_7, g2_8, g2_9⟩ := h
    by_cases q2 : v2 = 0
    · refine x_tblIn (pc := 21) dC_word_21 (by rw [q2]; decide) (by rw [q2]; decide) (off := 51) (by rw [q2]; rfl) (t := 72) rfl ?_
      have h := g2_0 q2
      refine x_aload_n (pc := 72) dC_word_72 rfl (q := 0) rfl ?_
      refine x_getI (pc := 73) dC_word_73 (wfk hw s502 (wfk hw e2 (wfk hw e1 kv0))) flC_153 rfl ?_
      exact x_retQI (pc := 76) dC_word_76 rfl rfl h
    by_cases q3 : v2 = 1
    · refine x_tblIn (pc := 21) dC_word_21 (by rw [q3]; decide) (by rw [q3]; decide) (off := 56) (by rw [q3]; rfl) (t := 77) rfl ?_
      have h := g2_1 q3
      refine x_aload_n (pc := 77) dC_word_77 rfl (q := 0) rfl ?_
      refine x_getI (pc := 78) dC_word_78 (wfk hw s502 (wfk hw e2 (wfk hw e1 kv0))) flC_158 rfl ?_
      exact x_retQI (pc := 81) dC_word_81 rfl rfl h
    by_cases q4 : v2 = 2
    · refine x_tblIn (pc := 21) dC_word_21 (by rw [q4]; decide) (by rw [q4]; decide) (off := 61) (by rw [q4]; rfl) (t := 82) rfl ?_
      have h := g2_2 q4
      refine x_aload_n (pc := 82) dC_word_82 rfl (q := 0) rfl ?_
      refine x_getI (pc := 83) dC_word_83 (wfk hw s502 (wfk hw e2 (wfk hw e1 kv0))) flC_161 rfl ?_
      exact x_retQI (pc := 86) dC_word_86 rfl rfl h
    by_cases q5 : v2 = 3
    · refine x_tblIn (pc := 21) dC_word_21 (by rw [q5]; decide) (by rw [q5]; decide) (off := 66) (by rw [q5]; rfl) (t := 87) rfl ?_
      have h := g2_3 q5
      refine x_aload_n (pc := 87) dC_word_87 rfl (q := 0) rfl ?_
      refine x_getI (pc := 88) dC_word_88 (wfk hw s502 (wfk hw e2 (wfk hw e1 kv0))) flC_164 rfl ?_
      exact x_retQI (pc := 91) dC_word_91 rfl rfl h
    by_cases q6 : v2 = 4
    · refine x_tblIn (pc := 21) dC_word_21 (by rw [q6]; decide) (by rw [q6]; decide) (off := 71) (by rw [q6]; rfl) (t := 92) rfl ?_
      have h := g2_4 q6
      refine x_aload_n (pc := 92) dC_word_92 rfl (q := 0) rfl ?_
      refine x_getI (pc := 93) dC_word_93 (wfk hw s502 (wfk hw e2 (wfk hw e1 kv0))) flC_167 rfl ?_
      exact x_retQI (pc := 96) dC_word_96 rfl rfl h
    by_cases q7 : v2 = 5
    · refine x_tblIn (pc := 21) dC_word_21 (by rw [q7]; decide) (by rw [q7]; decide) (off := 76) (by rw [q7]; rfl) (t := 97) rfl ?_
      have h := g2_5 q7
      refine x_aload_n (pc := 97) dC_word_97 rfl (q := 0) rfl ?_
      refine x_getI (pc := 98) dC_word_98 (wfk hw s502 (wfk hw e2 (wfk hw e1 kv0))) flC_170 rfl ?_
      exact x_retQI (pc := 101) dC_word_101 rfl rfl h
    by_cases q8 : v2 = 6
    · refine x_tblIn (pc := 21) dC_word_21 (by rw [q8]; decide) (by rw [q8]; decide) (off := 81) (by rw [q8]; rfl) (t := 102) rfl ?_
      have h := g2_6 q8
      refine x_aload_n (pc := 102) dC_word_102 rfl (q := 0) rfl ?_
      refine x_getI (pc := 103) dC_word_103 (wfk hw s502 (wfk hw e2 (wfk hw e1 kv0))) flC_173 rfl ?_
      exact x_retQI (pc := 106) dC_word_106 rfl rfl h
    by_cases q9 : v2 = 7
    · refine x_tblIn (pc := 21) dC_word_21 (by rw [q9]; decide) (by rw [q9]; decide) (off := 86) (by rw [q9]; rfl) (t := 107) rfl ?_
      have h := g2_7 q9
      refine x_aload_n (pc := 107) dC_word_107 rfl (q := 0) rfl ?_
      refine x_getI (pc := 108) dC_word_108 (wfk hw s502 (wfk hw e2 (wfk hw e1 kv0))) flC_176 rfl ?_
      exact x_retQI (pc := 111) dC_word_111 rfl rfl h
    by_cases q10 : v2 = 8
    · refine x_tblIn (pc := 21) dC_word_21 (by rw [q10]; decide) (by rw [q10]; decide) (off := 91) (by rw [q10]; rfl) (t := 112) rfl ?_
      have h := g2_8 q10
      refine x_aload_n (pc := 112) dC_word_112 rfl (q := 0) rfl ?_
      refine x_getI (pc := 113) dC_word_113 (wfk hw s502 (wfk hw e2 (wfk hw e1 kv0))) flC_179 rfl ?_
      exact x_retQI (pc := 116) dC_word_116 rfl rfl h
    have h := g2_9 ⟨q2, q3, q4, q5, q6, q7, q8, q9, q10⟩
    have hout : (v2).toInt < 0 ∨ 8 < (v2).toInt := tblout (fun (k : Int) h1 h2 => by
      rcases (show k = 0 ∨ k = 1 ∨ k = 2 ∨ k = 3 ∨ k = 4 ∨ k = 5 ∨ k = 6 ∨ k = 7 ∨ k = 8 by omega) with rfl | rfl | rfl | rfl | rfl | rfl | rfl | rfl | rfl
      · exact q2
      · exact q3
      · exact q4
      · exact q5
      · exact q6
      · exact q7
      · exact q8
      · exact q9
      · exact q10)
    refine x_tblOut (pc := 21) dC_word_21 hout (t := 117) rfl ?_
    refine x_iconst (pc := 117) dC_word_117 (v := (-1)) rfl ?_
    exact x_retQI (pc := 118) dC_word_118 rfl rfl h
  · refine x_iconst (pc := 8) dC_word_8 (v := (-1)) rfl ?_
    have h := g1_1 q1
    exact x_retQI (pc := 9) dC_word_9 rfl rfl h

theorem dC_isWord_0 : decode (mB mC_isWord) 0 = .ok (.iload_n 1, 1) := op27 (by decide +kernel)
theorem dC_isWord_1 : decode (mB mC_isWord) 1 = .ok (.ifCond .lt 18, 3) := op155 0 18 (by decide +kernel)
theorem dC_isWord_4 : decode (mB mC_isWord) 4 = .ok (.iload_n 1, 1) := op27 (by decide +kernel)
theorem dC_isWord_5 : decode (mB mC_isWord) 5 = .ok (.aload_n 0, 1) := op42 (by decide +kernel)
theorem dC_isWord_6 : decode (mB mC_isWord) 6 = .ok (.getfield 44, 3) := op180 0 44 (by decide +kernel)
theorem dC_isWord_9 : decode (mB mC_isWord) 9 = .ok (.getfield 353, 3) := op180 1 97 (by decide +kernel)
theorem dC_isWord_12 : decode (mB mC_isWord) 12 = .ok (.if_icmp .ge 7, 3) := op162 0 7 (by decide +kernel)
theorem dC_isWord_15 : decode (mB mC_isWord) 15 = .ok (.iconst 1, 1) := op4 (by decide +kernel)
theorem dC_isWord_16 : decode (mB mC_isWord) 16 = .ok (.goto 4, 3) := op167 0 4 (by decide +kernel)
theorem dC_isWord_19 : decode (mB mC_isWord) 19 = .ok (.iconst 0, 1) := op3 (by decide +kernel)
theorem dC_isWord_20 : decode (mB mC_isWord) 20 = .ok (.ireturn, 1) := op172 (by decide +kernel)

theorem vC_isWord_0 {M : Mm} {b : Nat × Nat} {K : Int32 → Mm → Prop} {v0 : Nat} {v1 : Int32} {r1 : Nat} (kv0 : v0 % 64 = 10) (e1 : gr M v0 4 = some r1)
    (h : (((v1 < 0) ∨ (¬ v1 < 0 ∧ (gi M r1 1) ≤ v1)) → (K 0 M)) ∧ ((¬ v1 < 0 ∧ ¬ (gi M r1 1) ≤ v1) → (K 1 M))) : X mC_isWord 0 [(0, .ref v0), (1, .int v1)] [] M b (QI K) := by
  refine x_wf (fun hw => ?_)
  refine x_iload_n (pc := 0) dC_isWord_0 rfl (q := 1) rfl ?_
  obtain ⟨g1_0, g1_1⟩ := h
  have g1_k0 : (v1 < 0) ∨ (¬ v1 < 0 ∧ (gi M r1 1) ≤ v1) → X mC_isWord 19 [(0, .ref v0), (1, .int v1)] [] M b (QI K) := fun q => by
    have h := g1_0 q
    refine x_iconst (pc := 19) dC_isWord_19 (v := 0) rfl ?_
    exact x_retQI (pc := 20) dC_isWord_20 rfl (by (repeat' split) <;> rfl) h
  refine x_if_lt (pc := 1) dC_isWord_1 (t := 19) rfl (fun q1 => ?_) (fun q1 => ?_)
  · exact g1_k0 (Or.inl q1)
  · refine x_iload_n (pc := 4) dC_isWord_4 rfl (q := 1) rfl ?_
    refine x_aload_n (pc := 5) dC_isWord_5 rfl (q := 0) rfl ?_
    refine x_getR (pc := 6) dC_isWord_6 kv0 flC_44 rfl e1 ?_
    refine x_getI (pc := 9) dC_isWord_9 (wfk hw e1 kv0) flC_353 rfl ?_
    refine x_icmp_ge (pc := 12) dC_isWord_12 (t := 19) rfl (fun q2 => ?_) (fun q2 => ?_)
    · exact g1_k0 (Or.inr ⟨q1, q2⟩)
    · refine x_iconst (pc := 15) dC_isWord_15 (v := 1) rfl ?_
      refine x_goto (pc := 16) dC_isWord_16 (t := 20) rfl ?_
      have h := g1_1 ⟨q1, q2⟩
      exact x_retQI (pc := 20) dC_isWord_20 rfl (by (repeat' split) <;> rfl) h

theorem dC_says_0 : decode (mB mC_says) 0 = .ok (.aload_n 0, 1) := op42 (by decide +kernel)
theorem dC_says_1 : decode (mB mC_says) 1 = .ok (.iload_n 1, 1) := op27 (by decide +kernel)
theorem dC_says_2 : decode (mB mC_says) 2 = .ok (.invokevirtual 145, 3) := op182 0 145 (by decide +kernel)
theorem dC_says_5 : decode (mB mC_says) 5 = .ok (.ifCond .eq 10, 3) := op153 0 10 (by decide +kernel)
theorem dC_says_8 : decode (mB mC_says) 8 = .ok (.iload_n 2, 1) := op28 (by decide +kernel)
theorem dC_says_9 : decode (mB mC_says) 9 = .ok (.invokestatic 182, 3) := op184 0 182 (by decide +kernel)
theorem dC_says_12 : decode (mB mC_says) 12 = .ok (.ifCond .ne 5, 3) := op154 0 5 (by decide +kernel)
theorem dC_says_15 : decode (mB mC_says) 15 = .ok (.iconst (-1), 1) := op2 (by decide +kernel)
theorem dC_says_16 : decode (mB mC_says) 16 = .ok (.ireturn, 1) := op172 (by decide +kernel)
theorem dC_says_17 : decode (mB mC_says) 17 = .ok (.aload_n 0, 1) := op42 (by decide +kernel)
theorem dC_says_18 : decode (mB mC_says) 18 = .ok (.getfield 44, 3) := op180 0 44 (by decide +kernel)
theorem dC_says_21 : decode (mB mC_says) 21 = .ok (.iload_n 1, 1) := op27 (by decide +kernel)
theorem dC_says_22 : decode (mB mC_says) 22 = .ok (.iload_n 2, 1) := op28 (by decide +kernel)
theorem dC_says_23 : decode (mB mC_says) 23 = .ok (.invokevirtual 185, 3) := op182 0 185 (by decide +kernel)
theorem dC_says_26 : decode (mB mC_says) 26 = .ok (.ireturn, 1) := op172 (by decide +kernel)

theorem vC_says_0 {M : Mm} {b : Nat × Nat} {K : Int32 → Mm → Prop} {v0 : Nat} {v1 : Int32} {v2 : Int32} (kv0 : v0 % 64 = 10) 
    (h : CI mC_isWord [.ref v0, .int v1] M (fun rv N => X mC_says 5 [(0, .ref v0), (1, .int v1), (2, .int v2)] [.int rv] N b (QI K))) : X mC_says 0 [(0, .ref v0), (1, .int v1), (2, .int v2)] [] M b (QI K) := by
  refine x_wf (fun hw => ?_)
  refine x_aload_n (pc := 0) dC_says_0 rfl (q := 0) rfl ?_
  refine x_iload_n (pc := 1) dC_says_1 rfl (q := 1) rfl ?_
  exact x_invV (pc := 2) dC_says_2 (c := 10) (S := []) (As := [.int v1]) mlC_145 hC_isWord rfl (by decide) rfl kv0 ⟨by decide, by decide⟩ ⟨Nat.zero_le _, Nat.zero_le _⟩ rfl (Nat.le_of_ble_eq_true rfl) (aftI (b' := b) ⟨Nat.le_refl _, Nat.le_refl _⟩ (fun rv N h => h) h)

theorem vC_says_5 {M : Mm} {b : Nat × Nat} {K : Int32 → Mm → Prop} {v0 : Nat} {v1 : Int32} {v2 : Int32} {w0 : Int32}  
    (h : (w0 = 0 → (K (-1) M)) ∧ (¬ w0 = 0 → (CI mC_isCase [.int v2] M (fun rv N => X mC_says 12 [(0, .ref v0), (1, .int v1), (2, .int v2)] [.int rv] N b (QI K))))) : X mC_says 5 [(0, .ref v0), (1, .int v1), (2, .int v2)] [.int w0] M b (QI K) := by
  refine x_wf (fun hw => ?_)
  obtain ⟨g1_0, g1_1⟩ := h
  refine x_if_eq (pc := 5) dC_says_5 (t := 15) rfl (fun q1 => ?_) (fun q1 => ?_)
  · have h := g1_0 q1
    refine x_iconst (pc := 15) dC_says_15 (v := (-1)) rfl ?_
    exact x_retQI (pc := 16) dC_says_16 rfl rfl h
  · refine x_iload_n (pc := 8) dC_says_8 rfl (q := 2) rfl ?_
    have h := g1_1 q1
    exact x_invS (pc := 9) dC_says_9 (S := []) (As := [.int v2]) mlC_182 hC_isCase rfl ⟨by decide, by decide⟩ ⟨Nat.zero_le _, Nat.zero_le _⟩ rfl (Nat.le_of_ble_eq_true rfl) (aftI (b' := b) ⟨Nat.le_refl _, Nat.le_refl _⟩ (fun rv N h => h) h)

theorem vC_says_12 {M : Mm} {b : Nat × Nat} {K : Int32 → Mm → Prop} {v0 : Nat} {v1 : Int32} {v2 : Int32} {w0 : Int32} {r1 : Nat} (kv0 : v0 % 64 = 10) (e1 : gr M v0 4 = some r1)
    (h : (¬ w0 = 0 → (CI mLi_saying [.ref r1, .int v1, .int v2] M (fun rv N => X mC_says 26 [] [.int rv] N b (QI K)))) ∧ (w0 = 0 → (K (-1) M))) : X mC_says 12 [(0, .ref v0), (1, .int v1), (2, .int v2)] [.int w0] M b (QI K) := by
  refine x_wf (fun hw => ?_)
  obtain ⟨g1_0, g1_1⟩ := h
  refine x_if_ne (pc := 12) dC_says_12 (t := 17) rfl (fun q1 => ?_) (fun q1 => ?_)
  · refine x_aload_n (pc := 17) dC_says_17 rfl (q := 0) rfl ?_
    refine x_getR (pc := 18) dC_says_18 kv0 flC_44 rfl e1 ?_
    refine x_iload_n (pc := 21) dC_says_21 rfl (q := 1) rfl ?_
    refine x_iload_n (pc := 22) dC_says_22 rfl (q := 2) rfl ?_
    have h := g1_0 q1
    exact x_invV (pc := 23) dC_says_23 (c := 1) (S := []) (As := [.int v1, .int v2]) mlC_185 hLi_saying rfl (by decide) rfl (wfk hw e1 kv0) ⟨by decide, by decide⟩ ⟨Nat.zero_le _, Nat.zero_le _⟩ rfl (Nat.le_of_ble_eq_true rfl) (aftI (b' := b) ⟨Nat.le_refl _, Nat.le_refl _⟩ (fun rv N h => x_loc [] rfl h) h)
  · have h := g1_1 q1
    refine x_iconst (pc := 15) dC_says_15 (v := (-1)) rfl ?_
    exact x_retQI (pc := 16) dC_says_16 rfl rfl h

theorem vC_says_26 {M : Mm} {b : Nat × Nat} {K : Int32 → Mm → Prop} {w0 : Int32}  
    (h : K w0 M) : X mC_says 26 [] [.int w0] M b (QI K) := by
  refine x_wf (fun hw => ?_)
  exact x_retQI (pc := 26) dC_says_26 rfl rfl h

theorem dC_isCase_0 : decode (mB mC_isCase) 0 = .ok (.iload_n 0, 1) := op26 (by decide +kernel)
theorem dC_isCase_1 : decode (mB mC_isCase) 1 = .ok (.ifCond .lt 13, 3) := op155 0 13 (by decide +kernel)
theorem dC_isCase_4 : decode (mB mC_isCase) 4 = .ok (.iload_n 0, 1) := op26 (by decide +kernel)
theorem dC_isCase_5 : decode (mB mC_isCase) 5 = .ok (.bipush 64, 2) := op16 64 (by decide +kernel)
theorem dC_isCase_7 : decode (mB mC_isCase) 7 = .ok (.if_icmp .ge 7, 3) := op162 0 7 (by decide +kernel)
theorem dC_isCase_10 : decode (mB mC_isCase) 10 = .ok (.iconst 1, 1) := op4 (by decide +kernel)
theorem dC_isCase_11 : decode (mB mC_isCase) 11 = .ok (.goto 4, 3) := op167 0 4 (by decide +kernel)
theorem dC_isCase_14 : decode (mB mC_isCase) 14 = .ok (.iconst 0, 1) := op3 (by decide +kernel)
theorem dC_isCase_15 : decode (mB mC_isCase) 15 = .ok (.ireturn, 1) := op172 (by decide +kernel)

theorem vC_isCase_0 {M : Mm} {b : Nat × Nat} {K : Int32 → Mm → Prop} {v0 : Int32}  
    (h : (((v0 < 0) ∨ (¬ v0 < 0 ∧ 64 ≤ v0)) → (K 0 M)) ∧ ((¬ v0 < 0 ∧ ¬ 64 ≤ v0) → (K 1 M))) : X mC_isCase 0 [(0, .int v0)] [] M b (QI K) := by
  refine x_wf (fun hw => ?_)
  refine x_iload_n (pc := 0) dC_isCase_0 rfl (q := 0) rfl ?_
  obtain ⟨g1_0, g1_1⟩ := h
  have g1_k0 : (v0 < 0) ∨ (¬ v0 < 0 ∧ 64 ≤ v0) → X mC_isCase 14 [(0, .int v0)] [] M b (QI K) := fun q => by
    have h := g1_0 q
    refine x_iconst (pc := 14) dC_isCase_14 (v := 0) rfl ?_
    exact x_retQI (pc := 15) dC_isCase_15 rfl (by (repeat' split) <;> rfl) h
  refine x_if_lt (pc := 1) dC_isCase_1 (t := 14) rfl (fun q1 => ?_) (fun q1 => ?_)
  · exact g1_k0 (Or.inl q1)
  · refine x_iload_n (pc := 4) dC_isCase_4 rfl (q := 0) rfl ?_
    refine x_bipush (pc := 5) dC_isCase_5 (v := 64) rfl ?_
    refine x_icmp_ge (pc := 7) dC_isCase_7 (t := 14) rfl (fun q2 => ?_) (fun q2 => ?_)
    · exact g1_k0 (Or.inr ⟨q1, q2⟩)
    · refine x_iconst (pc := 10) dC_isCase_10 (v := 1) rfl ?_
      refine x_goto (pc := 11) dC_isCase_11 (t := 15) rfl ?_
      have h := g1_1 ⟨q1, q2⟩
      exact x_retQI (pc := 15) dC_isCase_15 rfl (by (repeat' split) <;> rfl) h

theorem dC_words_0 : decode (mB mC_words) 0 = .ok (.iload_n 1, 1) := op27 (by decide +kernel)
theorem dC_words_1 : decode (mB mC_words) 1 = .ok (.tableswitch 59 0 2 #[27, 35, 43], 27) := by decide +kernel
theorem dC_words_28 : decode (mB mC_words) 28 = .ok (.aload_n 0, 1) := op42 (by decide +kernel)
theorem dC_words_29 : decode (mB mC_words) 29 = .ok (.getfield 44, 3) := op180 0 44 (by decide +kernel)
theorem dC_words_32 : decode (mB mC_words) 32 = .ok (.getfield 189, 3) := op180 0 189 (by decide +kernel)
theorem dC_words_35 : decode (mB mC_words) 35 = .ok (.ireturn, 1) := op172 (by decide +kernel)
theorem dC_words_36 : decode (mB mC_words) 36 = .ok (.aload_n 0, 1) := op42 (by decide +kernel)
theorem dC_words_37 : decode (mB mC_words) 37 = .ok (.getfield 44, 3) := op180 0 44 (by decide +kernel)
theorem dC_words_40 : decode (mB mC_words) 40 = .ok (.getfield 192, 3) := op180 0 192 (by decide +kernel)
theorem dC_words_43 : decode (mB mC_words) 43 = .ok (.ireturn, 1) := op172 (by decide +kernel)
theorem dC_words_44 : decode (mB mC_words) 44 = .ok (.aload_n 0, 1) := op42 (by decide +kernel)
theorem dC_words_45 : decode (mB mC_words) 45 = .ok (.getfield 44, 3) := op180 0 44 (by decide +kernel)
theorem dC_words_48 : decode (mB mC_words) 48 = .ok (.aload_n 0, 1) := op42 (by decide +kernel)
theorem dC_words_49 : decode (mB mC_words) 49 = .ok (.getfield 54, 3) := op180 0 54 (by decide +kernel)
theorem dC_words_52 : decode (mB mC_words) 52 = .ok (.aload_n 0, 1) := op42 (by decide +kernel)
theorem dC_words_53 : decode (mB mC_words) 53 = .ok (.getfield 64, 3) := op180 0 64 (by decide +kernel)
theorem dC_words_56 : decode (mB mC_words) 56 = .ok (.invokevirtual 195, 3) := op182 0 195 (by decide +kernel)
theorem dC_words_59 : decode (mB mC_words) 59 = .ok (.ireturn, 1) := op172 (by decide +kernel)
theorem dC_words_60 : decode (mB mC_words) 60 = .ok (.iconst (-1), 1) := op2 (by decide +kernel)
theorem dC_words_61 : decode (mB mC_words) 61 = .ok (.ireturn, 1) := op172 (by decide +kernel)

theorem vC_words_0 {M : Mm} {b : Nat × Nat} {K : Int32 → Mm → Prop} {v0 : Nat} {v1 : Int32} {r1 : Nat} {r2 : Nat} (kv0 : v0 % 64 = 10) (e1 : gr M v0 4 = some r1) (e2 : gr M v0 6 = some r2)
    (h : (v1 = 0 → (K (gi M r1 12) M)) ∧ (v1 = 1 → (K (gi M r1 13) M)) ∧ (v1 = 2 → (CI mLi_counting [.ref r1, .ref r2, .int (gi M v0 9)] M (fun rv N => X mC_words 59 [] [.int rv] N b (QI K)))) ∧ (¬ v1 = 0 ∧ ¬ v1 = 1 ∧ ¬ v1 = 2 → (K (-1) M))) : X mC_words 0 [(0, .ref v0), (1, .int v1)] [] M b (QI K) := by
  refine x_wf (fun hw => ?_)
  refine x_iload_n (pc := 0) dC_words_0 rfl (q := 1) rfl ?_
  obtain ⟨g1_0, g1_1, g1_2, g1_3⟩ := h
  by_cases q1 : v1 = 0
  · refine x_tblIn (pc := 1) dC_words_1 (by rw [q1]; decide) (by rw [q1]; decide) (off := 27) (by rw [q1]; rfl) (t := 28) rfl ?_
    have h := g1_0 q1
    refine x_aload_n (pc := 28) dC_words_28 rfl (q := 0) rfl ?_
    refine x_getR (pc := 29) dC_words_29 kv0 flC_44 rfl e1 ?_
    refine x_getI (pc := 32) dC_words_32 (wfk hw e1 kv0) flC_189 rfl ?_
    exact x_retQI (pc := 35) dC_words_35 rfl rfl h
  by_cases q2 : v1 = 1
  · refine x_tblIn (pc := 1) dC_words_1 (by rw [q2]; decide) (by rw [q2]; decide) (off := 35) (by rw [q2]; rfl) (t := 36) rfl ?_
    have h := g1_1 q2
    refine x_aload_n (pc := 36) dC_words_36 rfl (q := 0) rfl ?_
    refine x_getR (pc := 37) dC_words_37 kv0 flC_44 rfl e1 ?_
    refine x_getI (pc := 40) dC_words_40 (wfk hw e1 kv0) flC_192 rfl ?_
    exact x_retQI (pc := 43) dC_words_43 rfl rfl h
  by_cases q3 : v1 = 2
  · refine x_tblIn (pc := 1) dC_words_1 (by rw [q3]; decide) (by rw [q3]; decide) (off := 43) (by rw [q3]; rfl) (t := 44) rfl ?_
    have h := g1_2 q3
    refine x_aload_n (pc := 44) dC_words_44 rfl (q := 0) rfl ?_
    refine x_getR (pc := 45) dC_words_45 kv0 flC_44 rfl e1 ?_
    refine x_aload_n (pc := 48) dC_words_48 rfl (q := 0) rfl ?_
    refine x_getR (pc := 49) dC_words_49 kv0 flC_54 rfl e2 ?_
    refine x_aload_n (pc := 52) dC_words_52 rfl (q := 0) rfl ?_
    refine x_getI (pc := 53) dC_words_53 kv0 flC_64 rfl ?_
    exact x_invV (pc := 56) dC_words_56 (c := 1) (S := []) (As := [.ref r2, .int (gi M v0 9)]) mlC_195 hLi_counting rfl (by decide) rfl (wfk hw e1 kv0) ⟨by decide, by decide⟩ ⟨Nat.zero_le _, Nat.zero_le _⟩ rfl (Nat.le_of_ble_eq_true rfl) (aftI (b' := b) ⟨Nat.le_refl _, Nat.le_refl _⟩ (fun rv N h => x_loc [] rfl h) h)
  have h := g1_3 ⟨q1, q2, q3⟩
  have hout : (v1).toInt < 0 ∨ 2 < (v1).toInt := tblout (fun (k : Int) h1 h2 => by
    rcases (show k = 0 ∨ k = 1 ∨ k = 2 by omega) with rfl | rfl | rfl
    · exact q1
    · exact q2
    · exact q3)
  refine x_tblOut (pc := 1) dC_words_1 hout (t := 60) rfl ?_
  refine x_iconst (pc := 60) dC_words_60 (v := (-1)) rfl ?_
  exact x_retQI (pc := 61) dC_words_61 rfl rfl h

theorem vC_words_59 {M : Mm} {b : Nat × Nat} {K : Int32 → Mm → Prop} {w0 : Int32}  
    (h : K w0 M) : X mC_words 59 [] [.int w0] M b (QI K) := by
  refine x_wf (fun hw => ?_)
  exact x_retQI (pc := 59) dC_words_59 rfl rfl h

theorem dC_meets_0 : decode (mB mC_meets) 0 = .ok (.iload_n 1, 1) := op27 (by decide +kernel)
theorem dC_meets_1 : decode (mB mC_meets) 1 = .ok (.invokestatic 182, 3) := op184 0 182 (by decide +kernel)
theorem dC_meets_4 : decode (mB mC_meets) 4 = .ok (.ifCond .ne 5, 3) := op154 0 5 (by decide +kernel)
theorem dC_meets_7 : decode (mB mC_meets) 7 = .ok (.iconst (-1), 1) := op2 (by decide +kernel)
theorem dC_meets_8 : decode (mB mC_meets) 8 = .ok (.ireturn, 1) := op172 (by decide +kernel)
theorem dC_meets_9 : decode (mB mC_meets) 9 = .ok (.iload_n 2, 1) := op28 (by decide +kernel)
theorem dC_meets_10 : decode (mB mC_meets) 10 = .ok (.tableswitch 70 0 2 #[26, 35, 45], 26) := by decide +kernel
theorem dC_meets_36 : decode (mB mC_meets) 36 = .ok (.aload_n 0, 1) := op42 (by decide +kernel)
theorem dC_meets_37 : decode (mB mC_meets) 37 = .ok (.getfield 44, 3) := op180 0 44 (by decide +kernel)
theorem dC_meets_40 : decode (mB mC_meets) 40 = .ok (.iload_n 1, 1) := op27 (by decide +kernel)
theorem dC_meets_41 : decode (mB mC_meets) 41 = .ok (.invokevirtual 199, 3) := op182 0 199 (by decide +kernel)
theorem dC_meets_44 : decode (mB mC_meets) 44 = .ok (.ireturn, 1) := op172 (by decide +kernel)
theorem dC_meets_45 : decode (mB mC_meets) 45 = .ok (.aload_n 0, 1) := op42 (by decide +kernel)
theorem dC_meets_46 : decode (mB mC_meets) 46 = .ok (.getfield 44, 3) := op180 0 44 (by decide +kernel)
theorem dC_meets_49 : decode (mB mC_meets) 49 = .ok (.getfield 202, 3) := op180 0 202 (by decide +kernel)
theorem dC_meets_52 : decode (mB mC_meets) 52 = .ok (.iload_n 1, 1) := op27 (by decide +kernel)
theorem dC_meets_53 : decode (mB mC_meets) 53 = .ok (.iaload, 1) := op46 (by decide +kernel)
theorem dC_meets_54 : decode (mB mC_meets) 54 = .ok (.ireturn, 1) := op172 (by decide +kernel)
theorem dC_meets_55 : decode (mB mC_meets) 55 = .ok (.aload_n 0, 1) := op42 (by decide +kernel)
theorem dC_meets_56 : decode (mB mC_meets) 56 = .ok (.getfield 44, 3) := op180 0 44 (by decide +kernel)
theorem dC_meets_59 : decode (mB mC_meets) 59 = .ok (.iload_n 1, 1) := op27 (by decide +kernel)
theorem dC_meets_60 : decode (mB mC_meets) 60 = .ok (.invokevirtual 199, 3) := op182 0 199 (by decide +kernel)
theorem dC_meets_63 : decode (mB mC_meets) 63 = .ok (.aload_n 0, 1) := op42 (by decide +kernel)
theorem dC_meets_64 : decode (mB mC_meets) 64 = .ok (.getfield 44, 3) := op180 0 44 (by decide +kernel)
theorem dC_meets_67 : decode (mB mC_meets) 67 = .ok (.aload_n 0, 1) := op42 (by decide +kernel)
theorem dC_meets_68 : decode (mB mC_meets) 68 = .ok (.getfield 54, 3) := op180 0 54 (by decide +kernel)
theorem dC_meets_71 : decode (mB mC_meets) 71 = .ok (.aload_n 0, 1) := op42 (by decide +kernel)
theorem dC_meets_72 : decode (mB mC_meets) 72 = .ok (.getfield 64, 3) := op180 0 64 (by decide +kernel)
theorem dC_meets_75 : decode (mB mC_meets) 75 = .ok (.invokevirtual 195, 3) := op182 0 195 (by decide +kernel)
theorem dC_meets_78 : decode (mB mC_meets) 78 = .ok (.iand, 1) := op126 (by decide +kernel)
theorem dC_meets_79 : decode (mB mC_meets) 79 = .ok (.ireturn, 1) := op172 (by decide +kernel)
theorem dC_meets_80 : decode (mB mC_meets) 80 = .ok (.iconst (-1), 1) := op2 (by decide +kernel)
theorem dC_meets_81 : decode (mB mC_meets) 81 = .ok (.ireturn, 1) := op172 (by decide +kernel)

theorem vC_meets_0 {M : Mm} {b : Nat × Nat} {K : Int32 → Mm → Prop} {v0 : Nat} {v1 : Int32} {v2 : Int32}  
    (h : CI mC_isCase [.int v1] M (fun rv N => X mC_meets 4 [(0, .ref v0), (1, .int v1), (2, .int v2)] [.int rv] N b (QI K))) : X mC_meets 0 [(0, .ref v0), (1, .int v1), (2, .int v2)] [] M b (QI K) := by
  refine x_wf (fun hw => ?_)
  refine x_iload_n (pc := 0) dC_meets_0 rfl (q := 1) rfl ?_
  exact x_invS (pc := 1) dC_meets_1 (S := []) (As := [.int v1]) mlC_182 hC_isCase rfl ⟨by decide, by decide⟩ ⟨Nat.zero_le _, Nat.zero_le _⟩ rfl (Nat.le_of_ble_eq_true rfl) (aftI (b' := b) ⟨Nat.le_refl _, Nat.le_refl _⟩ (fun rv N h => h) h)

theorem vC_meets_4 {M : Mm} {b : Nat × Nat} {K : Int32 → Mm → Prop} {v0 : Nat} {v1 : Int32} {v2 : Int32} {w0 : Int32} {r1 : Nat} {r2 : Nat} (kv0 : v0 % 64 = 10) (e1 : gr M v0 4 = some r1) (e2 : gr M r1 3 = some r2)
    (h : (¬ w0 = 0 → ((v2 = 0 → (CI mLi_speaking [.ref r1, .int v1] M (fun rv N => X mC_meets 44 [] [.int rv] N b (QI K)))) ∧ (v2 = 1 → (vp_in v1 64 ∧ (K (gi M r2 (v1).toNatClampNeg) M))) ∧ (v2 = 2 → (CI mLi_speaking [.ref r1, .int v1] M (fun rv N => X mC_meets 63 [(0, .ref v0)] [.int rv] N b (QI K)))) ∧ (¬ v2 = 0 ∧ ¬ v2 = 1 ∧ ¬ v2 = 2 → (K (-1) M)))) ∧ (w0 = 0 → (K (-1) M))) : X mC_meets 4 [(0, .ref v0), (1, .int v1), (2, .int v2)] [.int w0] M b (QI K) := by
  refine x_wf (fun hw => ?_)
  obtain ⟨g1_0, g1_1⟩ := h
  refine x_if_ne (pc := 4) dC_meets_4 (t := 9) rfl (fun q1 => ?_) (fun q1 => ?_)
  · refine x_iload_n (pc := 9) dC_meets_9 rfl (q := 2) rfl ?_
    have h := g1_0 q1
    obtain ⟨g2_0, g2_1, g2_2, g2_3⟩ := h
    by_cases q2 : v2 = 0
    · refine x_tblIn (pc := 10) dC_meets_10 (by rw [q2]; decide) (by rw [q2]; decide) (off := 26) (by rw [q2]; rfl) (t := 36) rfl ?_
      have h := g2_0 q2
      refine x_aload_n (pc := 36) dC_meets_36 rfl (q := 0) rfl ?_
      refine x_getR (pc := 37) dC_meets_37 kv0 flC_44 rfl e1 ?_
      refine x_iload_n (pc := 40) dC_meets_40 rfl (q := 1) rfl ?_
      exact x_invV (pc := 41) dC_meets_41 (c := 1) (S := []) (As := [.int v1]) mlC_199 hLi_speaking rfl (by decide) rfl (wfk hw e1 kv0) ⟨by decide, by decide⟩ ⟨Nat.zero_le _, Nat.zero_le _⟩ rfl (Nat.le_of_ble_eq_true rfl) (aftI (b' := b) ⟨Nat.le_refl _, Nat.le_refl _⟩ (fun rv N h => x_loc [] rfl h) h)
    by_cases q3 : v2 = 1
    · refine x_tblIn (pc := 10) dC_meets_10 (by rw [q3]; decide) (by rw [q3]; decide) (off := 35) (by rw [q3]; rfl) (t := 45) rfl ?_
      have h := g2_1 q3
      refine x_aload_n (pc := 45) dC_meets_45 rfl (q := 0) rfl ?_
      refine x_getR (pc := 46) dC_meets_46 kv0 flC_44 rfl e1 ?_
      refine x_getR (pc := 49) dC_meets_49 (wfk hw e1 kv0) flC_202 rfl e2 ?_
      refine x_iload_n (pc := 52) dC_meets_52 rfl (q := 1) rfl ?_
      obtain ⟨s501, h⟩ := h
      refine x_aldIj (pc := 53) (j := (v1).toNatClampNeg) (Or.inl ⟨rfl, rfl⟩) dC_meets_53 (wfk hw e2 (wfk hw e1 kv0)) ak_14 rfl s501 ?_
      exact x_retQI (pc := 54) dC_meets_54 rfl rfl h
    by_cases q4 : v2 = 2
    · refine x_tblIn (pc := 10) dC_meets_10 (by rw [q4]; decide) (by rw [q4]; decide) (off := 45) (by rw [q4]; rfl) (t := 55) rfl ?_
      have h := g2_2 q4
      refine x_aload_n (pc := 55) dC_meets_55 rfl (q := 0) rfl ?_
      refine x_getR (pc := 56) dC_meets_56 kv0 flC_44 rfl e1 ?_
      refine x_iload_n (pc := 59) dC_meets_59 rfl (q := 1) rfl ?_
      exact x_invV (pc := 60) dC_meets_60 (c := 1) (S := []) (As := [.int v1]) mlC_199 hLi_speaking rfl (by decide) rfl (wfk hw e1 kv0) ⟨by decide, by decide⟩ ⟨Nat.zero_le _, Nat.zero_le _⟩ rfl (Nat.le_of_ble_eq_true rfl) (aftI (b' := b) ⟨Nat.le_refl _, Nat.le_refl _⟩ (fun rv N h => x_loc [0] rfl h) h)
    have h := g2_3 ⟨q2, q3, q4⟩
    have hout : (v2).toInt < 0 ∨ 2 < (v2).toInt := tblout (fun (k : Int) h1 h2 => by
      rcases (show k = 0 ∨ k = 1 ∨ k = 2 by omega) with rfl | rfl | rfl
      · exact q2
      · exact q3
      · exact q4)
    refine x_tblOut (pc := 10) dC_meets_10 hout (t := 80) rfl ?_
    refine x_iconst (pc := 80) dC_meets_80 (v := (-1)) rfl ?_
    exact x_retQI (pc := 81) dC_meets_81 rfl rfl h
  · refine x_iconst (pc := 7) dC_meets_7 (v := (-1)) rfl ?_
    have h := g1_1 q1
    exact x_retQI (pc := 8) dC_meets_8 rfl rfl h

theorem vC_meets_44 {M : Mm} {b : Nat × Nat} {K : Int32 → Mm → Prop} {w0 : Int32}  
    (h : K w0 M) : X mC_meets 44 [] [.int w0] M b (QI K) := by
  refine x_wf (fun hw => ?_)
  exact x_retQI (pc := 44) dC_meets_44 rfl rfl h

theorem vC_meets_63 {M : Mm} {b : Nat × Nat} {K : Int32 → Mm → Prop} {v0 : Nat} {w0 : Int32} {r1 : Nat} {r2 : Nat} (kv0 : v0 % 64 = 10) (e1 : gr M v0 4 = some r1) (e2 : gr M v0 6 = some r2)
    (h : CI mLi_counting [.ref r1, .ref r2, .int (gi M v0 9)] M (fun rv N => X mC_meets 78 [] [.int rv, .int w0] N b (QI K))) : X mC_meets 63 [(0, .ref v0)] [.int w0] M b (QI K) := by
  refine x_wf (fun hw => ?_)
  refine x_aload_n (pc := 63) dC_meets_63 rfl (q := 0) rfl ?_
  refine x_getR (pc := 64) dC_meets_64 kv0 flC_44 rfl e1 ?_
  refine x_aload_n (pc := 67) dC_meets_67 rfl (q := 0) rfl ?_
  refine x_getR (pc := 68) dC_meets_68 kv0 flC_54 rfl e2 ?_
  refine x_aload_n (pc := 71) dC_meets_71 rfl (q := 0) rfl ?_
  refine x_getI (pc := 72) dC_meets_72 kv0 flC_64 rfl ?_
  exact x_invV (pc := 75) dC_meets_75 (c := 1) (S := [.int w0]) (As := [.ref r2, .int (gi M v0 9)]) mlC_195 hLi_counting rfl (by decide) rfl (wfk hw e1 kv0) ⟨by decide, by decide⟩ ⟨Nat.zero_le _, Nat.zero_le _⟩ rfl (Nat.le_of_ble_eq_true rfl) (aftI (b' := b) ⟨Nat.le_refl _, Nat.le_refl _⟩ (fun rv N h => x_loc [] rfl h) h)

theorem vC_meets_78 {M : Mm} {b : Nat × Nat} {K : Int32 → Mm → Prop} {w0 : Int32} {w1 : Int32}  
    (h : K (w1 &&& w0) M) : X mC_meets 78 [] [.int w0, .int w1] M b (QI K) := by
  refine x_wf (fun hw => ?_)
  refine x_iand (pc := 78) dC_meets_78 ?_
  exact x_retQI (pc := 79) dC_meets_79 rfl rfl h

theorem dC_steps_0 : decode (mB mC_steps) 0 = .ok (.aload_n 0, 1) := op42 (by decide +kernel)
theorem dC_steps_1 : decode (mB mC_steps) 1 = .ok (.iload_n 1, 1) := op27 (by decide +kernel)
theorem dC_steps_2 : decode (mB mC_steps) 2 = .ok (.invokevirtual 145, 3) := op182 0 145 (by decide +kernel)
theorem dC_steps_5 : decode (mB mC_steps) 5 = .ok (.ifCond .eq 18, 3) := op153 0 18 (by decide +kernel)
theorem dC_steps_8 : decode (mB mC_steps) 8 = .ok (.aload_n 0, 1) := op42 (by decide +kernel)
theorem dC_steps_9 : decode (mB mC_steps) 9 = .ok (.getfield 44, 3) := op180 0 44 (by decide +kernel)
theorem dC_steps_12 : decode (mB mC_steps) 12 = .ok (.getfield 149, 3) := op180 0 149 (by decide +kernel)
theorem dC_steps_15 : decode (mB mC_steps) 15 = .ok (.iload_n 1, 1) := op27 (by decide +kernel)
theorem dC_steps_16 : decode (mB mC_steps) 16 = .ok (.aaload, 1) := op50 (by decide +kernel)
theorem dC_steps_17 : decode (mB mC_steps) 17 = .ok (.getfield 206, 3) := op180 0 206 (by decide +kernel)
theorem dC_steps_20 : decode (mB mC_steps) 20 = .ok (.goto 4, 3) := op167 0 4 (by decide +kernel)
theorem dC_steps_23 : decode (mB mC_steps) 23 = .ok (.iconst (-1), 1) := op2 (by decide +kernel)
theorem dC_steps_24 : decode (mB mC_steps) 24 = .ok (.ireturn, 1) := op172 (by decide +kernel)

theorem vC_steps_0 {M : Mm} {b : Nat × Nat} {K : Int32 → Mm → Prop} {v0 : Nat} {v1 : Int32} (kv0 : v0 % 64 = 10) 
    (h : CI mC_isWord [.ref v0, .int v1] M (fun rv N => X mC_steps 5 [(0, .ref v0), (1, .int v1)] [.int rv] N b (QI K))) : X mC_steps 0 [(0, .ref v0), (1, .int v1)] [] M b (QI K) := by
  refine x_wf (fun hw => ?_)
  refine x_aload_n (pc := 0) dC_steps_0 rfl (q := 0) rfl ?_
  refine x_iload_n (pc := 1) dC_steps_1 rfl (q := 1) rfl ?_
  exact x_invV (pc := 2) dC_steps_2 (c := 10) (S := []) (As := [.int v1]) mlC_145 hC_isWord rfl (by decide) rfl kv0 ⟨by decide, by decide⟩ ⟨Nat.zero_le _, Nat.zero_le _⟩ rfl (Nat.le_of_ble_eq_true rfl) (aftI (b' := b) ⟨Nat.le_refl _, Nat.le_refl _⟩ (fun rv N h => h) h)

theorem vC_steps_5 {M : Mm} {b : Nat × Nat} {K : Int32 → Mm → Prop} {v0 : Nat} {v1 : Int32} {w0 : Int32} {r1 : Nat} {r2 : Nat} (kv0 : v0 % 64 = 10) (e1 : gr M v0 4 = some r1) (e2 : gr M r1 0 = some r2)
    (h : (w0 = 0 → (K (-1) M)) ∧ (¬ w0 = 0 → (vp_in v1 24 ∧ (∃ r3 : Nat, gr M r2 (v1).toNatClampNeg = some r3 ∧ (K (gi M r3 10) M))))) : X mC_steps 5 [(0, .ref v0), (1, .int v1)] [.int w0] M b (QI K) := by
  refine x_wf (fun hw => ?_)
  obtain ⟨g1_0, g1_1⟩ := h
  refine x_if_eq (pc := 5) dC_steps_5 (t := 23) rfl (fun q1 => ?_) (fun q1 => ?_)
  · refine x_iconst (pc := 23) dC_steps_23 (v := (-1)) rfl ?_
    have h := g1_0 q1
    exact x_retQI (pc := 24) dC_steps_24 rfl rfl h
  · refine x_aload_n (pc := 8) dC_steps_8 rfl (q := 0) rfl ?_
    refine x_getR (pc := 9) dC_steps_9 kv0 flC_44 rfl e1 ?_
    refine x_getR (pc := 12) dC_steps_12 (wfk hw e1 kv0) flC_149 rfl e2 ?_
    refine x_iload_n (pc := 15) dC_steps_15 rfl (q := 1) rfl ?_
    have h := g1_1 q1
    obtain ⟨s501, h⟩ := h
    obtain ⟨r3, s502, h⟩ := h
    refine x_aldR (pc := 16) (Or.inl rfl) dC_steps_16 (wfk hw e2 (wfk hw e1 kv0)) ak_18 s501 s502 ?_
    refine x_getI (pc := 17) dC_steps_17 (wfk hw s502 (wfk hw e2 (wfk hw e1 kv0))) flC_206 rfl ?_
    refine x_goto (pc := 20) dC_steps_20 (t := 24) rfl ?_
    exact x_retQI (pc := 24) dC_steps_24 rfl rfl h

theorem dC_each_0 : decode (mB mC_each) 0 = .ok (.iload_n 1, 1) := op27 (by decide +kernel)
theorem dC_each_1 : decode (mB mC_each) 1 = .ok (.invokestatic 209, 3) := op184 0 209 (by decide +kernel)
theorem dC_each_4 : decode (mB mC_each) 4 = .ok (.ifCond .eq 10, 3) := op153 0 10 (by decide +kernel)
theorem dC_each_7 : decode (mB mC_each) 7 = .ok (.iload_n 2, 1) := op28 (by decide +kernel)
theorem dC_each_8 : decode (mB mC_each) 8 = .ok (.invokestatic 182, 3) := op184 0 182 (by decide +kernel)
theorem dC_each_11 : decode (mB mC_each) 11 = .ok (.ifCond .ne 5, 3) := op154 0 5 (by decide +kernel)
theorem dC_each_14 : decode (mB mC_each) 14 = .ok (.iconst (-1), 1) := op2 (by decide +kernel)
theorem dC_each_15 : decode (mB mC_each) 15 = .ok (.ireturn, 1) := op172 (by decide +kernel)
theorem dC_each_16 : decode (mB mC_each) 16 = .ok (.aload_n 0, 1) := op42 (by decide +kernel)
theorem dC_each_17 : decode (mB mC_each) 17 = .ok (.invokevirtual 212, 3) := op182 0 212 (by decide +kernel)
theorem dC_each_20 : decode (mB mC_each) 20 = .ok (.aload_n 0, 1) := op42 (by decide +kernel)
theorem dC_each_21 : decode (mB mC_each) 21 = .ok (.getfield 73, 3) := op180 0 73 (by decide +kernel)
theorem dC_each_24 : decode (mB mC_each) 24 = .ok (.iload_n 1, 1) := op27 (by decide +kernel)
theorem dC_each_25 : decode (mB mC_each) 25 = .ok (.iload_n 2, 1) := op28 (by decide +kernel)
theorem dC_each_26 : decode (mB mC_each) 26 = .ok (.invokevirtual 215, 3) := op182 0 215 (by decide +kernel)
theorem dC_each_29 : decode (mB mC_each) 29 = .ok (.ireturn, 1) := op172 (by decide +kernel)

theorem vC_each_0 {M : Mm} {b : Nat × Nat} {K : Int32 → Mm → Prop} {v0 : Nat} {v1 : Int32} {v2 : Int32}  
    (h : CI mC_isDoctor [.int v1] M (fun rv N => X mC_each 4 [(0, .ref v0), (1, .int v1), (2, .int v2)] [.int rv] N b (QI K))) : X mC_each 0 [(0, .ref v0), (1, .int v1), (2, .int v2)] [] M b (QI K) := by
  refine x_wf (fun hw => ?_)
  refine x_iload_n (pc := 0) dC_each_0 rfl (q := 1) rfl ?_
  exact x_invS (pc := 1) dC_each_1 (S := []) (As := [.int v1]) mlC_209 hC_isDoctor rfl ⟨by decide, by decide⟩ ⟨Nat.zero_le _, Nat.zero_le _⟩ rfl (Nat.le_of_ble_eq_true rfl) (aftI (b' := b) ⟨Nat.le_refl _, Nat.le_refl _⟩ (fun rv N h => h) h)

theorem vC_each_4 {M : Mm} {b : Nat × Nat} {K : Int32 → Mm → Prop} {v0 : Nat} {v1 : Int32} {v2 : Int32} {w0 : Int32}  
    (h : (w0 = 0 → (K (-1) M)) ∧ (¬ w0 = 0 → (CI mC_isCase [.int v2] M (fun rv N => X mC_each 11 [(0, .ref v0), (1, .int v1), (2, .int v2)] [.int rv] N b (QI K))))) : X mC_each 4 [(0, .ref v0), (1, .int v1), (2, .int v2)] [.int w0] M b (QI K) := by
  refine x_wf (fun hw => ?_)
  obtain ⟨g1_0, g1_1⟩ := h
  refine x_if_eq (pc := 4) dC_each_4 (t := 14) rfl (fun q1 => ?_) (fun q1 => ?_)
  · have h := g1_0 q1
    refine x_iconst (pc := 14) dC_each_14 (v := (-1)) rfl ?_
    exact x_retQI (pc := 15) dC_each_15 rfl rfl h
  · refine x_iload_n (pc := 7) dC_each_7 rfl (q := 2) rfl ?_
    have h := g1_1 q1
    exact x_invS (pc := 8) dC_each_8 (S := []) (As := [.int v2]) mlC_182 hC_isCase rfl ⟨by decide, by decide⟩ ⟨Nat.zero_le _, Nat.zero_le _⟩ rfl (Nat.le_of_ble_eq_true rfl) (aftI (b' := b) ⟨Nat.le_refl _, Nat.le_refl _⟩ (fun rv N h => h) h)

theorem vC_each_11 {M : Mm} {b : Nat × Nat} {K : Int32 → Mm → Prop} {v0 : Nat} {v1 : Int32} {v2 : Int32} {w0 : Int32} (kv0 : v0 % 64 = 10) 
    (h : (¬ w0 = 0 → (CV mC_weighNow [.ref v0] M (fun N => X mC_each 20 [(0, .ref v0), (1, .int v1), (2, .int v2)] [] N b (QI K)))) ∧ (w0 = 0 → (K (-1) M))) : X mC_each 11 [(0, .ref v0), (1, .int v1), (2, .int v2)] [.int w0] M b (QI K) := by
  refine x_wf (fun hw => ?_)
  obtain ⟨g1_0, g1_1⟩ := h
  refine x_if_ne (pc := 11) dC_each_11 (t := 16) rfl (fun q1 => ?_) (fun q1 => ?_)
  · refine x_aload_n (pc := 16) dC_each_16 rfl (q := 0) rfl ?_
    have h := g1_0 q1
    exact x_invV (pc := 17) dC_each_17 (c := 10) (S := []) (As := []) mlC_212 hC_weighNow rfl (by decide) rfl kv0 ⟨by decide, by decide⟩ ⟨Nat.zero_le _, Nat.zero_le _⟩ rfl (Nat.le_of_ble_eq_true rfl) (aftV (b' := b) ⟨Nat.le_refl _, Nat.le_refl _⟩ (fun N h => h) h)
  · have h := g1_1 q1
    refine x_iconst (pc := 14) dC_each_14 (v := (-1)) rfl ?_
    exact x_retQI (pc := 15) dC_each_15 rfl rfl h

theorem vC_each_20 {M : Mm} {b : Nat × Nat} {K : Int32 → Mm → Prop} {v0 : Nat} {v1 : Int32} {v2 : Int32} {r1 : Nat} (kv0 : v0 % 64 = 10) (e1 : gr M v0 11 = some r1)
    (h : CI mWe_opinion [.ref r1, .int v1, .int v2] M (fun rv N => X mC_each 29 [] [.int rv] N b (QI K))) : X mC_each 20 [(0, .ref v0), (1, .int v1), (2, .int v2)] [] M b (QI K) := by
  refine x_wf (fun hw => ?_)
  refine x_aload_n (pc := 20) dC_each_20 rfl (q := 0) rfl ?_
  refine x_getR (pc := 21) dC_each_21 kv0 flC_73 rfl e1 ?_
  refine x_iload_n (pc := 24) dC_each_24 rfl (q := 1) rfl ?_
  refine x_iload_n (pc := 25) dC_each_25 rfl (q := 2) rfl ?_
  exact x_invV (pc := 26) dC_each_26 (c := 8) (S := []) (As := [.int v1, .int v2]) mlC_215 hWe_opinion rfl (by decide) rfl (wfk hw e1 kv0) ⟨by decide, by decide⟩ ⟨Nat.zero_le _, Nat.zero_le _⟩ rfl (Nat.le_of_ble_eq_true rfl) (aftI (b' := b) ⟨Nat.le_refl _, Nat.le_refl _⟩ (fun rv N h => x_loc [] rfl h) h)

theorem vC_each_29 {M : Mm} {b : Nat × Nat} {K : Int32 → Mm → Prop} {w0 : Int32}  
    (h : K w0 M) : X mC_each 29 [] [.int w0] M b (QI K) := by
  refine x_wf (fun hw => ?_)
  exact x_retQI (pc := 29) dC_each_29 rfl rfl h

theorem dC_isDoctor_0 : decode (mB mC_isDoctor) 0 = .ok (.iload_n 0, 1) := op26 (by decide +kernel)
theorem dC_isDoctor_1 : decode (mB mC_isDoctor) 1 = .ok (.ifCond .lt 13, 3) := op155 0 13 (by decide +kernel)
theorem dC_isDoctor_4 : decode (mB mC_isDoctor) 4 = .ok (.iload_n 0, 1) := op26 (by decide +kernel)
theorem dC_isDoctor_5 : decode (mB mC_isDoctor) 5 = .ok (.bipush 8, 2) := op16 8 (by decide +kernel)
theorem dC_isDoctor_7 : decode (mB mC_isDoctor) 7 = .ok (.if_icmp .ge 7, 3) := op162 0 7 (by decide +kernel)
theorem dC_isDoctor_10 : decode (mB mC_isDoctor) 10 = .ok (.iconst 1, 1) := op4 (by decide +kernel)
theorem dC_isDoctor_11 : decode (mB mC_isDoctor) 11 = .ok (.goto 4, 3) := op167 0 4 (by decide +kernel)
theorem dC_isDoctor_14 : decode (mB mC_isDoctor) 14 = .ok (.iconst 0, 1) := op3 (by decide +kernel)
theorem dC_isDoctor_15 : decode (mB mC_isDoctor) 15 = .ok (.ireturn, 1) := op172 (by decide +kernel)

theorem vC_isDoctor_0 {M : Mm} {b : Nat × Nat} {K : Int32 → Mm → Prop} {v0 : Int32}  
    (h : (((v0 < 0) ∨ (¬ v0 < 0 ∧ 8 ≤ v0)) → (K 0 M)) ∧ ((¬ v0 < 0 ∧ ¬ 8 ≤ v0) → (K 1 M))) : X mC_isDoctor 0 [(0, .int v0)] [] M b (QI K) := by
  refine x_wf (fun hw => ?_)
  refine x_iload_n (pc := 0) dC_isDoctor_0 rfl (q := 0) rfl ?_
  obtain ⟨g1_0, g1_1⟩ := h
  have g1_k0 : (v0 < 0) ∨ (¬ v0 < 0 ∧ 8 ≤ v0) → X mC_isDoctor 14 [(0, .int v0)] [] M b (QI K) := fun q => by
    have h := g1_0 q
    refine x_iconst (pc := 14) dC_isDoctor_14 (v := 0) rfl ?_
    exact x_retQI (pc := 15) dC_isDoctor_15 rfl (by (repeat' split) <;> rfl) h
  refine x_if_lt (pc := 1) dC_isDoctor_1 (t := 14) rfl (fun q1 => ?_) (fun q1 => ?_)
  · exact g1_k0 (Or.inl q1)
  · refine x_iload_n (pc := 4) dC_isDoctor_4 rfl (q := 0) rfl ?_
    refine x_bipush (pc := 5) dC_isDoctor_5 (v := 8) rfl ?_
    refine x_icmp_ge (pc := 7) dC_isDoctor_7 (t := 14) rfl (fun q2 => ?_) (fun q2 => ?_)
    · exact g1_k0 (Or.inr ⟨q1, q2⟩)
    · refine x_iconst (pc := 10) dC_isDoctor_10 (v := 1) rfl ?_
      refine x_goto (pc := 11) dC_isDoctor_11 (t := 15) rfl ?_
      have h := g1_1 ⟨q1, q2⟩
      exact x_retQI (pc := 15) dC_isDoctor_15 rfl (by (repeat' split) <;> rfl) h

theorem dC_weighNow_0 : decode (mB mC_weighNow) 0 = .ok (.aload_n 0, 1) := op42 (by decide +kernel)
theorem dC_weighNow_1 : decode (mB mC_weighNow) 1 = .ok (.getfield 73, 3) := op180 0 73 (by decide +kernel)
theorem dC_weighNow_4 : decode (mB mC_weighNow) 4 = .ok (.aload_n 0, 1) := op42 (by decide +kernel)
theorem dC_weighNow_5 : decode (mB mC_weighNow) 5 = .ok (.getfield 44, 3) := op180 0 44 (by decide +kernel)
theorem dC_weighNow_8 : decode (mB mC_weighNow) 8 = .ok (.aload_n 0, 1) := op42 (by decide +kernel)
theorem dC_weighNow_9 : decode (mB mC_weighNow) 9 = .ok (.getfield 54, 3) := op180 0 54 (by decide +kernel)
theorem dC_weighNow_12 : decode (mB mC_weighNow) 12 = .ok (.aload_n 0, 1) := op42 (by decide +kernel)
theorem dC_weighNow_13 : decode (mB mC_weighNow) 13 = .ok (.getfield 64, 3) := op180 0 64 (by decide +kernel)
theorem dC_weighNow_16 : decode (mB mC_weighNow) 16 = .ok (.invokevirtual 285, 3) := op182 1 29 (by decide +kernel)
theorem dC_weighNow_19 : decode (mB mC_weighNow) 19 = .ok (.return_, 1) := op177 (by decide +kernel)

theorem vC_weighNow_0 {M : Mm} {b : Nat × Nat} {K : Mm → Prop} {v0 : Nat} {r1 : Nat} {r2 : Nat} {r3 : Nat} (kv0 : v0 % 64 = 10) (e1 : gr M v0 11 = some r1) (e2 : gr M v0 4 = some r2) (e3 : gr M v0 6 = some r3)
    (h : CV mWe_begin [.ref r1, .ref r2, .ref r3, .int (gi M v0 9)] M (fun N => X mC_weighNow 19 [] [] N b (QV K))) : X mC_weighNow 0 [(0, .ref v0)] [] M b (QV K) := by
  refine x_wf (fun hw => ?_)
  refine x_aload_n (pc := 0) dC_weighNow_0 rfl (q := 0) rfl ?_
  refine x_getR (pc := 1) dC_weighNow_1 kv0 flC_73 rfl e1 ?_
  refine x_aload_n (pc := 4) dC_weighNow_4 rfl (q := 0) rfl ?_
  refine x_getR (pc := 5) dC_weighNow_5 kv0 flC_44 rfl e2 ?_
  refine x_aload_n (pc := 8) dC_weighNow_8 rfl (q := 0) rfl ?_
  refine x_getR (pc := 9) dC_weighNow_9 kv0 flC_54 rfl e3 ?_
  refine x_aload_n (pc := 12) dC_weighNow_12 rfl (q := 0) rfl ?_
  refine x_getI (pc := 13) dC_weighNow_13 kv0 flC_64 rfl ?_
  exact x_invV (pc := 16) dC_weighNow_16 (c := 8) (S := []) (As := [.ref r2, .ref r3, .int (gi M v0 9)]) mlC_285 hWe_begin rfl (by decide) rfl (wfk hw e1 kv0) ⟨by decide, by decide⟩ ⟨Nat.zero_le _, Nat.zero_le _⟩ rfl (Nat.le_of_ble_eq_true rfl) (aftV (b' := b) ⟨Nat.le_refl _, Nat.le_refl _⟩ (fun N h => x_loc [] rfl h) h)

theorem vC_weighNow_19 {M : Mm} {b : Nat × Nat} {K : Mm → Prop}   
    (h : K M) : X mC_weighNow 19 [] [] M b (QV K) := by
  refine x_wf (fun hw => ?_)
  exact x_retQV (pc := 19) dC_weighNow_19 rfl h

theorem dC_clash_0 : decode (mB mC_clash) 0 = .ok (.iload_n 1, 1) := op27 (by decide +kernel)
theorem dC_clash_1 : decode (mB mC_clash) 1 = .ok (.invokestatic 209, 3) := op184 0 209 (by decide +kernel)
theorem dC_clash_4 : decode (mB mC_clash) 4 = .ok (.ifCond .eq 10, 3) := op153 0 10 (by decide +kernel)
theorem dC_clash_7 : decode (mB mC_clash) 7 = .ok (.iload_n 2, 1) := op28 (by decide +kernel)
theorem dC_clash_8 : decode (mB mC_clash) 8 = .ok (.invokestatic 218, 3) := op184 0 218 (by decide +kernel)
theorem dC_clash_11 : decode (mB mC_clash) 11 = .ok (.ifCond .ne 5, 3) := op154 0 5 (by decide +kernel)
theorem dC_clash_14 : decode (mB mC_clash) 14 = .ok (.iconst (-1), 1) := op2 (by decide +kernel)
theorem dC_clash_15 : decode (mB mC_clash) 15 = .ok (.ireturn, 1) := op172 (by decide +kernel)
theorem dC_clash_16 : decode (mB mC_clash) 16 = .ok (.aload_n 0, 1) := op42 (by decide +kernel)
theorem dC_clash_17 : decode (mB mC_clash) 17 = .ok (.invokevirtual 212, 3) := op182 0 212 (by decide +kernel)
theorem dC_clash_20 : decode (mB mC_clash) 20 = .ok (.lconst 0, 1) := op9 (by decide +kernel)
theorem dC_clash_21 : decode (mB mC_clash) 21 = .ok (.lstore_n 3, 1) := op66 (by decide +kernel)
theorem dC_clash_22 : decode (mB mC_clash) 22 = .ok (.iconst 0, 1) := op3 (by decide +kernel)
theorem dC_clash_23 : decode (mB mC_clash) 23 = .ok (.istore 5, 2) := op54 5 (by decide +kernel)
theorem dC_clash_25 : decode (mB mC_clash) 25 = .ok (.iload 5, 2) := op21 5 (by decide +kernel)
theorem dC_clash_27 : decode (mB mC_clash) 27 = .ok (.bipush 64, 2) := op16 64 (by decide +kernel)
theorem dC_clash_29 : decode (mB mC_clash) 29 = .ok (.if_icmp .ge 29, 3) := op162 0 29 (by decide +kernel)
theorem dC_clash_32 : decode (mB mC_clash) 32 = .ok (.aload_n 0, 1) := op42 (by decide +kernel)
theorem dC_clash_33 : decode (mB mC_clash) 33 = .ok (.getfield 73, 3) := op180 0 73 (by decide +kernel)
theorem dC_clash_36 : decode (mB mC_clash) 36 = .ok (.iload_n 1, 1) := op27 (by decide +kernel)
theorem dC_clash_37 : decode (mB mC_clash) 37 = .ok (.iload 5, 2) := op21 5 (by decide +kernel)
theorem dC_clash_39 : decode (mB mC_clash) 39 = .ok (.invokevirtual 221, 3) := op182 0 221 (by decide +kernel)
theorem dC_clash_42 : decode (mB mC_clash) 42 = .ok (.ifCond .eq 10, 3) := op153 0 10 (by decide +kernel)
theorem dC_clash_45 : decode (mB mC_clash) 45 = .ok (.lload_n 3, 1) := op33 (by decide +kernel)
theorem dC_clash_46 : decode (mB mC_clash) 46 = .ok (.lconst 1, 1) := op10 (by decide +kernel)
theorem dC_clash_47 : decode (mB mC_clash) 47 = .ok (.iload 5, 2) := op21 5 (by decide +kernel)
theorem dC_clash_49 : decode (mB mC_clash) 49 = .ok (.lshl, 1) := op121 (by decide +kernel)
theorem dC_clash_50 : decode (mB mC_clash) 50 = .ok (.lor, 1) := op129 (by decide +kernel)
theorem dC_clash_51 : decode (mB mC_clash) 51 = .ok (.lstore_n 3, 1) := op66 (by decide +kernel)
theorem dC_clash_52 : decode (mB mC_clash) 52 = .ok (.iinc 5 1, 3) := op132 5 1 (by decide +kernel)
theorem dC_clash_55 : decode (mB mC_clash) 55 = .ok (.goto (-30), 3) := op167 255 226 (by decide +kernel)
theorem dC_clash_58 : decode (mB mC_clash) 58 = .ok (.lload_n 3, 1) := op33 (by decide +kernel)
theorem dC_clash_59 : decode (mB mC_clash) 59 = .ok (.iload_n 2, 1) := op28 (by decide +kernel)
theorem dC_clash_60 : decode (mB mC_clash) 60 = .ok (.invokestatic 225, 3) := op184 0 225 (by decide +kernel)
theorem dC_clash_63 : decode (mB mC_clash) 63 = .ok (.ireturn, 1) := op172 (by decide +kernel)

theorem vC_clash_0 {M : Mm} {b : Nat × Nat} {K : Int32 → Mm → Prop} {v0 : Nat} {v1 : Int32} {v2 : Int32}  
    (h : CI mC_isDoctor [.int v1] M (fun rv N => X mC_clash 4 [(0, .ref v0), (1, .int v1), (2, .int v2)] [.int rv] N b (QI K))) : X mC_clash 0 [(0, .ref v0), (1, .int v1), (2, .int v2)] [] M b (QI K) := by
  refine x_wf (fun hw => ?_)
  refine x_iload_n (pc := 0) dC_clash_0 rfl (q := 1) rfl ?_
  exact x_invS (pc := 1) dC_clash_1 (S := []) (As := [.int v1]) mlC_209 hC_isDoctor rfl ⟨by decide, by decide⟩ ⟨Nat.zero_le _, Nat.zero_le _⟩ rfl (Nat.le_of_ble_eq_true rfl) (aftI (b' := b) ⟨Nat.le_refl _, Nat.le_refl _⟩ (fun rv N h => h) h)

theorem vC_clash_4 {M : Mm} {b : Nat × Nat} {K : Int32 → Mm → Prop} {v0 : Nat} {v1 : Int32} {v2 : Int32} {w0 : Int32}  
    (h : (w0 = 0 → (K (-1) M)) ∧ (¬ w0 = 0 → (CI mC_isEither [.int v2] M (fun rv N => X mC_clash 11 [(0, .ref v0), (1, .int v1), (2, .int v2)] [.int rv] N b (QI K))))) : X mC_clash 4 [(0, .ref v0), (1, .int v1), (2, .int v2)] [.int w0] M b (QI K) := by
  refine x_wf (fun hw => ?_)
  obtain ⟨g1_0, g1_1⟩ := h
  refine x_if_eq (pc := 4) dC_clash_4 (t := 14) rfl (fun q1 => ?_) (fun q1 => ?_)
  · have h := g1_0 q1
    refine x_iconst (pc := 14) dC_clash_14 (v := (-1)) rfl ?_
    exact x_retQI (pc := 15) dC_clash_15 rfl rfl h
  · refine x_iload_n (pc := 7) dC_clash_7 rfl (q := 2) rfl ?_
    have h := g1_1 q1
    exact x_invS (pc := 8) dC_clash_8 (S := []) (As := [.int v2]) mlC_218 hC_isEither rfl ⟨by decide, by decide⟩ ⟨Nat.zero_le _, Nat.zero_le _⟩ rfl (Nat.le_of_ble_eq_true rfl) (aftI (b' := b) ⟨Nat.le_refl _, Nat.le_refl _⟩ (fun rv N h => h) h)

theorem vC_clash_11 {M : Mm} {b : Nat × Nat} {K : Int32 → Mm → Prop} {v0 : Nat} {v1 : Int32} {v2 : Int32} {w0 : Int32} (kv0 : v0 % 64 = 10) 
    (h : (¬ w0 = 0 → (CV mC_weighNow [.ref v0] M (fun N => X mC_clash 20 [(0, .ref v0), (1, .int v1), (2, .int v2)] [] N b (QI K)))) ∧ (w0 = 0 → (K (-1) M))) : X mC_clash 11 [(0, .ref v0), (1, .int v1), (2, .int v2)] [.int w0] M b (QI K) := by
  refine x_wf (fun hw => ?_)
  obtain ⟨g1_0, g1_1⟩ := h
  refine x_if_ne (pc := 11) dC_clash_11 (t := 16) rfl (fun q1 => ?_) (fun q1 => ?_)
  · refine x_aload_n (pc := 16) dC_clash_16 rfl (q := 0) rfl ?_
    have h := g1_0 q1
    exact x_invV (pc := 17) dC_clash_17 (c := 10) (S := []) (As := []) mlC_212 hC_weighNow rfl (by decide) rfl kv0 ⟨by decide, by decide⟩ ⟨Nat.zero_le _, Nat.zero_le _⟩ rfl (Nat.le_of_ble_eq_true rfl) (aftV (b' := b) ⟨Nat.le_refl _, Nat.le_refl _⟩ (fun N h => h) h)
  · have h := g1_1 q1
    refine x_iconst (pc := 14) dC_clash_14 (v := (-1)) rfl ?_
    exact x_retQI (pc := 15) dC_clash_15 rfl rfl h

theorem vC_clash_20 {M : Mm} {b : Nat × Nat} {K : Int32 → Mm → Prop} {v0 : Nat} {v1 : Int32} {v2 : Int32}  
    (h : X mC_clash 25 [(0, .ref v0), (1, .int v1), (2, .int v2), (3, .long 0), (5, .int 0)] [] M b (QI K)) : X mC_clash 20 [(0, .ref v0), (1, .int v1), (2, .int v2)] [] M b (QI K) := by
  refine x_wf (fun hw => ?_)
  refine x_lconst (pc := 20) dC_clash_20 (v := 0) rfl ?_
  refine x_lstore_n (pc := 21) dC_clash_21 rfl (by decide) (L' := [(3, .long 0), (0, .ref v0), (1, .int v1), (2, .int v2)]) rfl ?_
  refine x_iconst (pc := 22) dC_clash_22 (v := 0) rfl ?_
  refine x_istore (pc := 23) dC_clash_23 (by decide) (L' := [(5, .int 0), (3, .long 0), (0, .ref v0), (1, .int v1), (2, .int v2)]) rfl ?_
  exact x_loc [2, 3, 4, 1, 0] rfl h

theorem vC_clash_25 {M : Mm} {b : Nat × Nat} {K : Int32 → Mm → Prop} {v0 : Nat} {v1 : Int32} {v2 : Int32} {v3 : Int64} {v5 : Int32} {r1 : Nat} (kv0 : v0 % 64 = 10) (e1 : gr M v0 11 = some r1)
    (h : (64 ≤ v5 → (CI mC_manyOrLeast [.long v3, .int v2] M (fun rv N => X mC_clash 63 [] [.int rv] N b (QI K)))) ∧ (¬ 64 ≤ v5 → (CI mWe_clashes [.ref r1, .int v1, .int v5] M (fun rv N => X mC_clash 42 [(0, .ref v0), (1, .int v1), (2, .int v2), (3, .long v3), (5, .int v5)] [.int rv] N b (QI K))))) : X mC_clash 25 [(0, .ref v0), (1, .int v1), (2, .int v2), (3, .long v3), (5, .int v5)] [] M b (QI K) := by
  refine x_wf (fun hw => ?_)
  refine x_iload (pc := 25) dC_clash_25 (q := 4) rfl ?_
  refine x_bipush (pc := 27) dC_clash_27 (v := 64) rfl ?_
  obtain ⟨g1_0, g1_1⟩ := h
  refine x_icmp_ge (pc := 29) dC_clash_29 (t := 58) rfl (fun q1 => ?_) (fun q1 => ?_)
  · refine x_lload_n (pc := 58) dC_clash_58 rfl (q := 3) rfl ?_
    refine x_iload_n (pc := 59) dC_clash_59 rfl (q := 2) rfl ?_
    have h := g1_0 q1
    exact x_invS (pc := 60) dC_clash_60 (S := []) (As := [.long v3, .int v2]) mlC_225 hC_manyOrLeast rfl ⟨by decide, by decide⟩ ⟨Nat.zero_le _, Nat.zero_le _⟩ rfl (Nat.le_of_ble_eq_true rfl) (aftI (b' := b) ⟨Nat.le_refl _, Nat.le_refl _⟩ (fun rv N h => x_loc [] rfl h) h)
  · refine x_aload_n (pc := 32) dC_clash_32 rfl (q := 0) rfl ?_
    refine x_getR (pc := 33) dC_clash_33 kv0 flC_73 rfl e1 ?_
    refine x_iload_n (pc := 36) dC_clash_36 rfl (q := 1) rfl ?_
    refine x_iload (pc := 37) dC_clash_37 (q := 4) rfl ?_
    have h := g1_1 q1
    exact x_invV (pc := 39) dC_clash_39 (c := 8) (S := []) (As := [.int v1, .int v5]) mlC_221 hWe_clashes rfl (by decide) rfl (wfk hw e1 kv0) ⟨by decide, by decide⟩ ⟨Nat.zero_le _, Nat.zero_le _⟩ rfl (Nat.le_of_ble_eq_true rfl) (aftI (b' := b) ⟨Nat.le_refl _, Nat.le_refl _⟩ (fun rv N h => h) h)

theorem vC_clash_42 {M : Mm} {b : Nat × Nat} {K : Int32 → Mm → Prop} {v0 : Nat} {v1 : Int32} {v2 : Int32} {v3 : Int64} {v5 : Int32} {w0 : Int32}  
    (h : (w0 = 0 → (X mC_clash 25 [(0, .ref v0), (1, .int v1), (2, .int v2), (3, .long v3), (5, .int (v5 + 1))] [] M b (QI K))) ∧ (¬ w0 = 0 → (X mC_clash 25 [(0, .ref v0), (1, .int v1), (2, .int v2), (3, .long (v3 ||| ((1 : Int64) <<< ((v5).toInt64 &&& 63)))), (5, .int (v5 + 1))] [] M b (QI K)))) : X mC_clash 42 [(0, .ref v0), (1, .int v1), (2, .int v2), (3, .long v3), (5, .int v5)] [.int w0] M b (QI K) := by
  refine x_wf (fun hw => ?_)
  obtain ⟨g1_0, g1_1⟩ := h
  refine x_if_eq (pc := 42) dC_clash_42 (t := 52) rfl (fun q1 => ?_) (fun q1 => ?_)
  · have h := g1_0 q1
    refine x_iinc (pc := 52) dC_clash_52 (q := 4) rfl (v := v5 + 1) rfl (by decide) (L' := [(5, .int (v5 + 1)), (0, .ref v0), (1, .int v1), (2, .int v2), (3, .long v3)]) rfl ?_
    refine x_goto (pc := 55) dC_clash_55 (t := 25) rfl ?_
    exact x_loc [1, 2, 3, 4, 0] rfl h
  · refine x_lload_n (pc := 45) dC_clash_45 rfl (q := 3) rfl ?_
    refine x_lconst (pc := 46) dC_clash_46 (v := 1) rfl ?_
    refine x_iload (pc := 47) dC_clash_47 (q := 4) rfl ?_
    refine x_lshl (pc := 49) dC_clash_49 ?_
    refine x_lor (pc := 50) dC_clash_50 ?_
    have h := g1_1 q1
    refine x_lstore_n (pc := 51) dC_clash_51 rfl (by decide) (L' := [(3, .long (v3 ||| ((1 : Int64) <<< ((v5).toInt64 &&& 63)))), (0, .ref v0), (1, .int v1), (2, .int v2), (5, .int v5)]) rfl ?_
    refine x_iinc (pc := 52) dC_clash_52 (q := 4) rfl (v := v5 + 1) rfl (by decide) (L' := [(5, .int (v5 + 1)), (3, .long (v3 ||| ((1 : Int64) <<< ((v5).toInt64 &&& 63)))), (0, .ref v0), (1, .int v1), (2, .int v2)]) rfl ?_
    refine x_goto (pc := 55) dC_clash_55 (t := 25) rfl ?_
    exact x_loc [2, 3, 4, 1, 0] rfl h

theorem vC_clash_63 {M : Mm} {b : Nat × Nat} {K : Int32 → Mm → Prop} {w0 : Int32}  
    (h : K w0 M) : X mC_clash 63 [] [.int w0] M b (QI K) := by
  refine x_wf (fun hw => ?_)
  exact x_retQI (pc := 63) dC_clash_63 rfl rfl h

theorem dC_isEither_0 : decode (mB mC_isEither) 0 = .ok (.iload_n 0, 1) := op26 (by decide +kernel)
theorem dC_isEither_1 : decode (mB mC_isEither) 1 = .ok (.ifCond .eq 8, 3) := op153 0 8 (by decide +kernel)
theorem dC_isEither_4 : decode (mB mC_isEither) 4 = .ok (.iload_n 0, 1) := op26 (by decide +kernel)
theorem dC_isEither_5 : decode (mB mC_isEither) 5 = .ok (.iconst 1, 1) := op4 (by decide +kernel)
theorem dC_isEither_6 : decode (mB mC_isEither) 6 = .ok (.if_icmp .ne 7, 3) := op160 0 7 (by decide +kernel)
theorem dC_isEither_9 : decode (mB mC_isEither) 9 = .ok (.iconst 1, 1) := op4 (by decide +kernel)
theorem dC_isEither_10 : decode (mB mC_isEither) 10 = .ok (.goto 4, 3) := op167 0 4 (by decide +kernel)
theorem dC_isEither_13 : decode (mB mC_isEither) 13 = .ok (.iconst 0, 1) := op3 (by decide +kernel)
theorem dC_isEither_14 : decode (mB mC_isEither) 14 = .ok (.ireturn, 1) := op172 (by decide +kernel)

theorem vC_isEither_0 {M : Mm} {b : Nat × Nat} {K : Int32 → Mm → Prop} {v0 : Int32}  
    (h : (((v0 = 0) ∨ (¬ v0 = 0 ∧ v0 = 1)) → (K 1 M)) ∧ ((¬ v0 = 0 ∧ ¬ v0 = 1) → (K 0 M))) : X mC_isEither 0 [(0, .int v0)] [] M b (QI K) := by
  refine x_wf (fun hw => ?_)
  refine x_iload_n (pc := 0) dC_isEither_0 rfl (q := 0) rfl ?_
  obtain ⟨g1_0, g1_1⟩ := h
  have g1_k0 : (v0 = 0) ∨ (¬ v0 = 0 ∧ v0 = 1) → X mC_isEither 9 [(0, .int v0)] [] M b (QI K) := fun q => by
    have h := g1_0 q
    refine x_iconst (pc := 9) dC_isEither_9 (v := 1) rfl ?_
    refine x_goto (pc := 10) dC_isEither_10 (t := 14) rfl ?_
    exact x_retQI (pc := 14) dC_isEither_14 rfl (by (repeat' split) <;> rfl) h
  refine x_if_eq (pc := 1) dC_isEither_1 (t := 9) rfl (fun q1 => ?_) (fun q1 => ?_)
  · exact g1_k0 (Or.inl q1)
  · refine x_iload_n (pc := 4) dC_isEither_4 rfl (q := 0) rfl ?_
    refine x_iconst (pc := 5) dC_isEither_5 (v := 1) rfl ?_
    refine x_icmp_ne (pc := 6) dC_isEither_6 (t := 13) rfl (fun q2 => ?_) (fun q2 => ?_)
    · refine x_iconst (pc := 13) dC_isEither_13 (v := 0) rfl ?_
      have h := g1_1 ⟨q1, q2⟩
      exact x_retQI (pc := 14) dC_isEither_14 rfl (by (repeat' split) <;> rfl) h
    · exact g1_k0 (Or.inr ⟨q1, q2⟩)

theorem dC_manyOrLeast_0 : decode (mB mC_manyOrLeast) 0 = .ok (.iload_n 2, 1) := op28 (by decide +kernel)
theorem dC_manyOrLeast_1 : decode (mB mC_manyOrLeast) 1 = .ok (.ifCond .ne 10, 3) := op154 0 10 (by decide +kernel)
theorem dC_manyOrLeast_4 : decode (mB mC_manyOrLeast) 4 = .ok (.lload_n 0, 1) := op30 (by decide +kernel)
theorem dC_manyOrLeast_5 : decode (mB mC_manyOrLeast) 5 = .ok (.invokestatic 229, 3) := op184 0 229 (by decide +kernel)
theorem dC_manyOrLeast_8 : decode (mB mC_manyOrLeast) 8 = .ok (.goto 7, 3) := op167 0 7 (by decide +kernel)
theorem dC_manyOrLeast_11 : decode (mB mC_manyOrLeast) 11 = .ok (.lload_n 0, 1) := op30 (by decide +kernel)
theorem dC_manyOrLeast_12 : decode (mB mC_manyOrLeast) 12 = .ok (.invokestatic 235, 3) := op184 0 235 (by decide +kernel)
theorem dC_manyOrLeast_15 : decode (mB mC_manyOrLeast) 15 = .ok (.ireturn, 1) := op172 (by decide +kernel)

theorem vC_manyOrLeast_0 {M : Mm} {b : Nat × Nat} {K : Int32 → Mm → Prop} {v0 : Int64} {v2 : Int32}  
    (h : (¬ v2 = 0 → (CI mC_least [.long v0] M (fun rv N => X mC_manyOrLeast 15 [] [.int rv] N b (QI K)))) ∧ (v2 = 0 → (CI mJl_bitCount [.long v0] M (fun rv N => X mC_manyOrLeast 8 [] [.int rv] N b (QI K))))) : X mC_manyOrLeast 0 [(0, .long v0), (2, .int v2)] [] M b (QI K) := by
  refine x_wf (fun hw => ?_)
  refine x_iload_n (pc := 0) dC_manyOrLeast_0 rfl (q := 1) rfl ?_
  obtain ⟨g1_0, g1_1⟩ := h
  refine x_if_ne (pc := 1) dC_manyOrLeast_1 (t := 11) rfl (fun q1 => ?_) (fun q1 => ?_)
  · refine x_lload_n (pc := 11) dC_manyOrLeast_11 rfl (q := 0) rfl ?_
    have h := g1_0 q1
    exact x_invS (pc := 12) dC_manyOrLeast_12 (S := []) (As := [.long v0]) mlC_235 hC_least rfl ⟨by decide, by decide⟩ ⟨Nat.zero_le _, Nat.zero_le _⟩ rfl (Nat.le_of_ble_eq_true rfl) (aftI (b' := b) ⟨Nat.le_refl _, Nat.le_refl _⟩ (fun rv N h => x_loc [] rfl h) h)
  · refine x_lload_n (pc := 4) dC_manyOrLeast_4 rfl (q := 0) rfl ?_
    have h := g1_1 q1
    exact x_invS (pc := 5) dC_manyOrLeast_5 (S := []) (As := [.long v0]) mlC_229 hJl_bitCount rfl ⟨by decide, by decide⟩ ⟨Nat.zero_le _, Nat.zero_le _⟩ rfl (Nat.le_of_ble_eq_true rfl) (aftI (b' := b) ⟨Nat.le_refl _, Nat.le_refl _⟩ (fun rv N h => x_loc [] rfl h) h)

theorem vC_manyOrLeast_8 {M : Mm} {b : Nat × Nat} {K : Int32 → Mm → Prop} {w0 : Int32}  
    (h : K w0 M) : X mC_manyOrLeast 8 [] [.int w0] M b (QI K) := by
  refine x_wf (fun hw => ?_)
  refine x_goto (pc := 8) dC_manyOrLeast_8 (t := 15) rfl ?_
  exact x_retQI (pc := 15) dC_manyOrLeast_15 rfl rfl h

theorem vC_manyOrLeast_15 {M : Mm} {b : Nat × Nat} {K : Int32 → Mm → Prop} {w0 : Int32}  
    (h : K w0 M) : X mC_manyOrLeast 15 [] [.int w0] M b (QI K) := by
  refine x_wf (fun hw => ?_)
  exact x_retQI (pc := 15) dC_manyOrLeast_15 rfl rfl h

theorem dC_least_0 : decode (mB mC_least) 0 = .ok (.lload_n 0, 1) := op30 (by decide +kernel)
theorem dC_least_1 : decode (mB mC_least) 1 = .ok (.lconst 0, 1) := op9 (by decide +kernel)
theorem dC_least_2 : decode (mB mC_least) 2 = .ok (.lcmp, 1) := op148 (by decide +kernel)
theorem dC_least_3 : decode (mB mC_least) 3 = .ok (.ifCond .ne 8, 3) := op154 0 8 (by decide +kernel)
theorem dC_least_6 : decode (mB mC_least) 6 = .ok (.bipush (-4), 2) := op16 252 (by decide +kernel)
theorem dC_least_8 : decode (mB mC_least) 8 = .ok (.goto 7, 3) := op167 0 7 (by decide +kernel)
theorem dC_least_11 : decode (mB mC_least) 11 = .ok (.lload_n 0, 1) := op30 (by decide +kernel)
theorem dC_least_12 : decode (mB mC_least) 12 = .ok (.invokestatic 360, 3) := op184 1 104 (by decide +kernel)
theorem dC_least_15 : decode (mB mC_least) 15 = .ok (.ireturn, 1) := op172 (by decide +kernel)

theorem vC_least_0 {M : Mm} {b : Nat × Nat} {K : Int32 → Mm → Prop} {v0 : Int64}  
    (h : (¬ v0 = 0 → (CI mJl_numberOfTrailingZeros [.long v0] M (fun rv N => X mC_least 15 [] [.int rv] N b (QI K)))) ∧ (v0 = 0 → (K (-4) M))) : X mC_least 0 [(0, .long v0)] [] M b (QI K) := by
  refine x_wf (fun hw => ?_)
  refine x_lload_n (pc := 0) dC_least_0 rfl (q := 0) rfl ?_
  refine x_lconst (pc := 1) dC_least_1 (v := 0) rfl ?_
  obtain ⟨g1_0, g1_1⟩ := h
  refine x_lc_ne (pc := 2) dC_least_2 dC_least_3 (t := 11) rfl (fun q1 => ?_) (fun q1 => ?_)
  · refine x_lload_n (pc := 11) dC_least_11 rfl (q := 0) rfl ?_
    have h := g1_0 q1
    exact x_invS (pc := 12) dC_least_12 (S := []) (As := [.long v0]) mlC_360 hJl_numberOfTrailingZeros rfl ⟨by decide, by decide⟩ ⟨Nat.zero_le _, Nat.zero_le _⟩ rfl (Nat.le_of_ble_eq_true rfl) (aftI (b' := b) ⟨Nat.le_refl _, Nat.le_refl _⟩ (fun rv N h => x_loc [] rfl h) h)
  · refine x_bipush (pc := 6) dC_least_6 (v := (-4)) rfl ?_
    refine x_goto (pc := 8) dC_least_8 (t := 15) rfl ?_
    have h := g1_1 q1
    exact x_retQI (pc := 15) dC_least_15 rfl rfl h

theorem vC_least_15 {M : Mm} {b : Nat × Nat} {K : Int32 → Mm → Prop} {w0 : Int32}  
    (h : K w0 M) : X mC_least 15 [] [.int w0] M b (QI K) := by
  refine x_wf (fun hw => ?_)
  exact x_retQI (pc := 15) dC_least_15 rfl rfl h

theorem dC_sides_0 : decode (mB mC_sides) 0 = .ok (.iload_n 1, 1) := op27 (by decide +kernel)
theorem dC_sides_1 : decode (mB mC_sides) 1 = .ok (.invokestatic 209, 3) := op184 0 209 (by decide +kernel)
theorem dC_sides_4 : decode (mB mC_sides) 4 = .ok (.ifCond .eq 24, 3) := op153 0 24 (by decide +kernel)
theorem dC_sides_7 : decode (mB mC_sides) 7 = .ok (.iload_n 2, 1) := op28 (by decide +kernel)
theorem dC_sides_8 : decode (mB mC_sides) 8 = .ok (.invokestatic 209, 3) := op184 0 209 (by decide +kernel)
theorem dC_sides_11 : decode (mB mC_sides) 11 = .ok (.ifCond .eq 17, 3) := op153 0 17 (by decide +kernel)
theorem dC_sides_14 : decode (mB mC_sides) 14 = .ok (.iload_n 1, 1) := op27 (by decide +kernel)
theorem dC_sides_15 : decode (mB mC_sides) 15 = .ok (.iload_n 2, 1) := op28 (by decide +kernel)
theorem dC_sides_16 : decode (mB mC_sides) 16 = .ok (.if_icmp .eq 12, 3) := op159 0 12 (by decide +kernel)
theorem dC_sides_19 : decode (mB mC_sides) 19 = .ok (.iload_n 3, 1) := op29 (by decide +kernel)
theorem dC_sides_20 : decode (mB mC_sides) 20 = .ok (.ifCond .lt 8, 3) := op155 0 8 (by decide +kernel)
theorem dC_sides_23 : decode (mB mC_sides) 23 = .ok (.iload_n 3, 1) := op29 (by decide +kernel)
theorem dC_sides_24 : decode (mB mC_sides) 24 = .ok (.iconst 2, 1) := op5 (by decide +kernel)
theorem dC_sides_25 : decode (mB mC_sides) 25 = .ok (.if_icmp .le 5, 3) := op164 0 5 (by decide +kernel)
theorem dC_sides_28 : decode (mB mC_sides) 28 = .ok (.iconst (-1), 1) := op2 (by decide +kernel)
theorem dC_sides_29 : decode (mB mC_sides) 29 = .ok (.ireturn, 1) := op172 (by decide +kernel)
theorem dC_sides_30 : decode (mB mC_sides) 30 = .ok (.aload_n 0, 1) := op42 (by decide +kernel)
theorem dC_sides_31 : decode (mB mC_sides) 31 = .ok (.invokevirtual 212, 3) := op182 0 212 (by decide +kernel)
theorem dC_sides_34 : decode (mB mC_sides) 34 = .ok (.lconst 0, 1) := op9 (by decide +kernel)
theorem dC_sides_35 : decode (mB mC_sides) 35 = .ok (.lstore 4, 2) := op55 4 (by decide +kernel)
theorem dC_sides_37 : decode (mB mC_sides) 37 = .ok (.lconst 0, 1) := op9 (by decide +kernel)
theorem dC_sides_38 : decode (mB mC_sides) 38 = .ok (.lstore 6, 2) := op55 6 (by decide +kernel)
theorem dC_sides_40 : decode (mB mC_sides) 40 = .ok (.iconst 0, 1) := op3 (by decide +kernel)
theorem dC_sides_41 : decode (mB mC_sides) 41 = .ok (.istore 8, 2) := op54 8 (by decide +kernel)
theorem dC_sides_43 : decode (mB mC_sides) 43 = .ok (.iload 8, 2) := op21 8 (by decide +kernel)
theorem dC_sides_45 : decode (mB mC_sides) 45 = .ok (.bipush 64, 2) := op16 64 (by decide +kernel)
theorem dC_sides_47 : decode (mB mC_sides) 47 = .ok (.if_icmp .ge 87, 3) := op162 0 87 (by decide +kernel)
theorem dC_sides_50 : decode (mB mC_sides) 50 = .ok (.aload_n 0, 1) := op42 (by decide +kernel)
theorem dC_sides_51 : decode (mB mC_sides) 51 = .ok (.getfield 73, 3) := op180 0 73 (by decide +kernel)
theorem dC_sides_54 : decode (mB mC_sides) 54 = .ok (.iload_n 1, 1) := op27 (by decide +kernel)
theorem dC_sides_55 : decode (mB mC_sides) 55 = .ok (.iload 8, 2) := op21 8 (by decide +kernel)
theorem dC_sides_57 : decode (mB mC_sides) 57 = .ok (.invokevirtual 215, 3) := op182 0 215 (by decide +kernel)
theorem dC_sides_60 : decode (mB mC_sides) 60 = .ok (.istore 9, 2) := op54 9 (by decide +kernel)
theorem dC_sides_62 : decode (mB mC_sides) 62 = .ok (.aload_n 0, 1) := op42 (by decide +kernel)
theorem dC_sides_63 : decode (mB mC_sides) 63 = .ok (.getfield 73, 3) := op180 0 73 (by decide +kernel)
theorem dC_sides_66 : decode (mB mC_sides) 66 = .ok (.iload_n 2, 1) := op28 (by decide +kernel)
theorem dC_sides_67 : decode (mB mC_sides) 67 = .ok (.iload 8, 2) := op21 8 (by decide +kernel)
theorem dC_sides_69 : decode (mB mC_sides) 69 = .ok (.invokevirtual 215, 3) := op182 0 215 (by decide +kernel)
theorem dC_sides_72 : decode (mB mC_sides) 72 = .ok (.istore 10, 2) := op54 10 (by decide +kernel)
theorem dC_sides_74 : decode (mB mC_sides) 74 = .ok (.iload 9, 2) := op21 9 (by decide +kernel)
theorem dC_sides_76 : decode (mB mC_sides) 76 = .ok (.bipush (-4), 2) := op16 252 (by decide +kernel)
theorem dC_sides_78 : decode (mB mC_sides) 78 = .ok (.if_icmp .eq 50, 3) := op159 0 50 (by decide +kernel)
theorem dC_sides_81 : decode (mB mC_sides) 81 = .ok (.iload 10, 2) := op21 10 (by decide +kernel)
theorem dC_sides_83 : decode (mB mC_sides) 83 = .ok (.bipush (-4), 2) := op16 252 (by decide +kernel)
theorem dC_sides_85 : decode (mB mC_sides) 85 = .ok (.if_icmp .eq 43, 3) := op159 0 43 (by decide +kernel)
theorem dC_sides_88 : decode (mB mC_sides) 88 = .ok (.lload 4, 2) := op22 4 (by decide +kernel)
theorem dC_sides_90 : decode (mB mC_sides) 90 = .ok (.iload 9, 2) := op21 9 (by decide +kernel)
theorem dC_sides_92 : decode (mB mC_sides) 92 = .ok (.iload 10, 2) := op21 10 (by decide +kernel)
theorem dC_sides_94 : decode (mB mC_sides) 94 = .ok (.if_icmp .ne 10, 3) := op160 0 10 (by decide +kernel)
theorem dC_sides_97 : decode (mB mC_sides) 97 = .ok (.lconst 1, 1) := op10 (by decide +kernel)
theorem dC_sides_98 : decode (mB mC_sides) 98 = .ok (.iload 8, 2) := op21 8 (by decide +kernel)
theorem dC_sides_100 : decode (mB mC_sides) 100 = .ok (.lshl, 1) := op121 (by decide +kernel)
theorem dC_sides_101 : decode (mB mC_sides) 101 = .ok (.goto 4, 3) := op167 0 4 (by decide +kernel)
theorem dC_sides_104 : decode (mB mC_sides) 104 = .ok (.lconst 0, 1) := op9 (by decide +kernel)
theorem dC_sides_105 : decode (mB mC_sides) 105 = .ok (.lor, 1) := op129 (by decide +kernel)
theorem dC_sides_106 : decode (mB mC_sides) 106 = .ok (.lstore 4, 2) := op55 4 (by decide +kernel)
theorem dC_sides_108 : decode (mB mC_sides) 108 = .ok (.lload 6, 2) := op22 6 (by decide +kernel)
theorem dC_sides_110 : decode (mB mC_sides) 110 = .ok (.iload 9, 2) := op21 9 (by decide +kernel)
theorem dC_sides_112 : decode (mB mC_sides) 112 = .ok (.iload 10, 2) := op21 10 (by decide +kernel)
theorem dC_sides_114 : decode (mB mC_sides) 114 = .ok (.if_icmp .eq 10, 3) := op159 0 10 (by decide +kernel)
theorem dC_sides_117 : decode (mB mC_sides) 117 = .ok (.lconst 1, 1) := op10 (by decide +kernel)
theorem dC_sides_118 : decode (mB mC_sides) 118 = .ok (.iload 8, 2) := op21 8 (by decide +kernel)
theorem dC_sides_120 : decode (mB mC_sides) 120 = .ok (.lshl, 1) := op121 (by decide +kernel)
theorem dC_sides_121 : decode (mB mC_sides) 121 = .ok (.goto 4, 3) := op167 0 4 (by decide +kernel)
theorem dC_sides_124 : decode (mB mC_sides) 124 = .ok (.lconst 0, 1) := op9 (by decide +kernel)
theorem dC_sides_125 : decode (mB mC_sides) 125 = .ok (.lor, 1) := op129 (by decide +kernel)
theorem dC_sides_126 : decode (mB mC_sides) 126 = .ok (.lstore 6, 2) := op55 6 (by decide +kernel)
theorem dC_sides_128 : decode (mB mC_sides) 128 = .ok (.iinc 8 1, 3) := op132 8 1 (by decide +kernel)
theorem dC_sides_131 : decode (mB mC_sides) 131 = .ok (.goto (-88), 3) := op167 255 168 (by decide +kernel)
theorem dC_sides_134 : decode (mB mC_sides) 134 = .ok (.iload_n 3, 1) := op29 (by decide +kernel)
theorem dC_sides_135 : decode (mB mC_sides) 135 = .ok (.lookupswitch 40 #[(0, 25), (1, 34)], 25) := by decide +kernel
theorem dC_sides_160 : decode (mB mC_sides) 160 = .ok (.lload 4, 2) := op22 4 (by decide +kernel)
theorem dC_sides_162 : decode (mB mC_sides) 162 = .ok (.lload 6, 2) := op22 6 (by decide +kernel)
theorem dC_sides_164 : decode (mB mC_sides) 164 = .ok (.lor, 1) := op129 (by decide +kernel)
theorem dC_sides_165 : decode (mB mC_sides) 165 = .ok (.invokestatic 229, 3) := op184 0 229 (by decide +kernel)
theorem dC_sides_168 : decode (mB mC_sides) 168 = .ok (.ireturn, 1) := op172 (by decide +kernel)
theorem dC_sides_169 : decode (mB mC_sides) 169 = .ok (.lload 4, 2) := op22 4 (by decide +kernel)
theorem dC_sides_171 : decode (mB mC_sides) 171 = .ok (.invokestatic 229, 3) := op184 0 229 (by decide +kernel)
theorem dC_sides_174 : decode (mB mC_sides) 174 = .ok (.ireturn, 1) := op172 (by decide +kernel)
theorem dC_sides_175 : decode (mB mC_sides) 175 = .ok (.lload 6, 2) := op22 6 (by decide +kernel)
theorem dC_sides_177 : decode (mB mC_sides) 177 = .ok (.invokestatic 235, 3) := op184 0 235 (by decide +kernel)
theorem dC_sides_180 : decode (mB mC_sides) 180 = .ok (.ireturn, 1) := op172 (by decide +kernel)

theorem vC_sides_0 {M : Mm} {b : Nat × Nat} {K : Int32 → Mm → Prop} {v0 : Nat} {v1 : Int32} {v2 : Int32} {v3 : Int32}  
    (h : CI mC_isDoctor [.int v1] M (fun rv N => X mC_sides 4 [(0, .ref v0), (1, .int v1), (2, .int v2), (3, .int v3)] [.int rv] N b (QI K))) : X mC_sides 0 [(0, .ref v0), (1, .int v1), (2, .int v2), (3, .int v3)] [] M b (QI K) := by
  refine x_wf (fun hw => ?_)
  refine x_iload_n (pc := 0) dC_sides_0 rfl (q := 1) rfl ?_
  exact x_invS (pc := 1) dC_sides_1 (S := []) (As := [.int v1]) mlC_209 hC_isDoctor rfl ⟨by decide, by decide⟩ ⟨Nat.zero_le _, Nat.zero_le _⟩ rfl (Nat.le_of_ble_eq_true rfl) (aftI (b' := b) ⟨Nat.le_refl _, Nat.le_refl _⟩ (fun rv N h => h) h)

theorem vC_sides_4 {M : Mm} {b : Nat × Nat} {K : Int32 → Mm → Prop} {v0 : Nat} {v1 : Int32} {v2 : Int32} {v3 : Int32} {w0 : Int32}  
    (h : (w0 = 0 → (K (-1) M)) ∧ (¬ w0 = 0 → (CI mC_isDoctor [.int v2] M (fun rv N => X mC_sides 11 [(0, .ref v0), (1, .int v1), (2, .int v2), (3, .int v3)] [.int rv] N b (QI K))))) : X mC_sides 4 [(0, .ref v0), (1, .int v1), (2, .int v2), (3, .int v3)] [.int w0] M b (QI K) := by
  refine x_wf (fun hw => ?_)
  obtain ⟨g1_0, g1_1⟩ := h
  refine x_if_eq (pc := 4) dC_sides_4 (t := 28) rfl (fun q1 => ?_) (fun q1 => ?_)
  · have h := g1_0 q1
    refine x_iconst (pc := 28) dC_sides_28 (v := (-1)) rfl ?_
    exact x_retQI (pc := 29) dC_sides_29 rfl rfl h
  · refine x_iload_n (pc := 7) dC_sides_7 rfl (q := 2) rfl ?_
    have h := g1_1 q1
    exact x_invS (pc := 8) dC_sides_8 (S := []) (As := [.int v2]) mlC_209 hC_isDoctor rfl ⟨by decide, by decide⟩ ⟨Nat.zero_le _, Nat.zero_le _⟩ rfl (Nat.le_of_ble_eq_true rfl) (aftI (b' := b) ⟨Nat.le_refl _, Nat.le_refl _⟩ (fun rv N h => h) h)

theorem vC_sides_11 {M : Mm} {b : Nat × Nat} {K : Int32 → Mm → Prop} {v0 : Nat} {v1 : Int32} {v2 : Int32} {v3 : Int32} {w0 : Int32} (kv0 : v0 % 64 = 10) 
    (h : (((w0 = 0) ∨ (¬ w0 = 0 ∧ v1 = v2) ∨ (¬ w0 = 0 ∧ ¬ v1 = v2 ∧ v3 < 0) ∨ (¬ w0 = 0 ∧ ¬ v1 = v2 ∧ ¬ v3 < 0 ∧ ¬ v3 ≤ 2)) → (K (-1) M)) ∧ ((¬ w0 = 0 ∧ ¬ v1 = v2 ∧ ¬ v3 < 0 ∧ v3 ≤ 2) → (CV mC_weighNow [.ref v0] M (fun N => X mC_sides 34 [(0, .ref v0), (1, .int v1), (2, .int v2), (3, .int v3)] [] N b (QI K))))) : X mC_sides 11 [(0, .ref v0), (1, .int v1), (2, .int v2), (3, .int v3)] [.int w0] M b (QI K) := by
  refine x_wf (fun hw => ?_)
  obtain ⟨g1_0, g1_1⟩ := h
  have g1_k0 : (w0 = 0) ∨ (¬ w0 = 0 ∧ v1 = v2) ∨ (¬ w0 = 0 ∧ ¬ v1 = v2 ∧ v3 < 0) ∨ (¬ w0 = 0 ∧ ¬ v1 = v2 ∧ ¬ v3 < 0 ∧ ¬ v3 ≤ 2) → X mC_sides 28 [(0, .ref v0), (1, .int v1), (2, .int v2), (3, .int v3)] [] M b (QI K) := fun q => by
    have h := g1_0 q
    refine x_iconst (pc := 28) dC_sides_28 (v := (-1)) rfl ?_
    exact x_retQI (pc := 29) dC_sides_29 rfl rfl h
  refine x_if_eq (pc := 11) dC_sides_11 (t := 28) rfl (fun q1 => ?_) (fun q1 => ?_)
  · exact g1_k0 (Or.inl q1)
  · refine x_iload_n (pc := 14) dC_sides_14 rfl (q := 1) rfl ?_
    refine x_iload_n (pc := 15) dC_sides_15 rfl (q := 2) rfl ?_
    refine x_icmp_eq (pc := 16) dC_sides_16 (t := 28) rfl (fun q2 => ?_) (fun q2 => ?_)
    · exact g1_k0 (Or.inr (Or.inl ⟨q1, q2⟩))
    · refine x_iload_n (pc := 19) dC_sides_19 rfl (q := 3) rfl ?_
      refine x_if_lt (pc := 20) dC_sides_20 (t := 28) rfl (fun q3 => ?_) (fun q3 => ?_)
      · exact g1_k0 (Or.inr (Or.inr (Or.inl ⟨q1, q2, q3⟩)))
      · refine x_iload_n (pc := 23) dC_sides_23 rfl (q := 3) rfl ?_
        refine x_iconst (pc := 24) dC_sides_24 (v := 2) rfl ?_
        refine x_icmp_le (pc := 25) dC_sides_25 (t := 30) rfl (fun q4 => ?_) (fun q4 => ?_)
        · refine x_aload_n (pc := 30) dC_sides_30 rfl (q := 0) rfl ?_
          have h := g1_1 ⟨q1, q2, q3, q4⟩
          exact x_invV (pc := 31) dC_sides_31 (c := 10) (S := []) (As := []) mlC_212 hC_weighNow rfl (by decide) rfl kv0 ⟨by decide, by decide⟩ ⟨Nat.zero_le _, Nat.zero_le _⟩ rfl (Nat.le_of_ble_eq_true rfl) (aftV (b' := b) ⟨Nat.le_refl _, Nat.le_refl _⟩ (fun N h => h) h)
        · exact g1_k0 (Or.inr (Or.inr (Or.inr ⟨q1, q2, q3, q4⟩)))

theorem vC_sides_34 {M : Mm} {b : Nat × Nat} {K : Int32 → Mm → Prop} {v0 : Nat} {v1 : Int32} {v2 : Int32} {v3 : Int32}  
    (h : X mC_sides 43 [(0, .ref v0), (1, .int v1), (2, .int v2), (3, .int v3), (4, .long 0), (6, .long 0), (8, .int 0)] [] M b (QI K)) : X mC_sides 34 [(0, .ref v0), (1, .int v1), (2, .int v2), (3, .int v3)] [] M b (QI K) := by
  refine x_wf (fun hw => ?_)
  refine x_lconst (pc := 34) dC_sides_34 (v := 0) rfl ?_
  refine x_lstore (pc := 35) dC_sides_35 (by decide) (L' := [(4, .long 0), (0, .ref v0), (1, .int v1), (2, .int v2), (3, .int v3)]) rfl ?_
  refine x_lconst (pc := 37) dC_sides_37 (v := 0) rfl ?_
  refine x_lstore (pc := 38) dC_sides_38 (by decide) (L' := [(6, .long 0), (4, .long 0), (0, .ref v0), (1, .int v1), (2, .int v2), (3, .int v3)]) rfl ?_
  refine x_iconst (pc := 40) dC_sides_40 (v := 0) rfl ?_
  refine x_istore (pc := 41) dC_sides_41 (by decide) (L' := [(8, .int 0), (6, .long 0), (4, .long 0), (0, .ref v0), (1, .int v1), (2, .int v2), (3, .int v3)]) rfl ?_
  exact x_loc [3, 4, 5, 6, 2, 1, 0] rfl h

theorem vC_sides_43 {M : Mm} {b : Nat × Nat} {K : Int32 → Mm → Prop} {v0 : Nat} {v1 : Int32} {v2 : Int32} {v3 : Int32} {v4 : Int64} {v6 : Int64} {v8 : Int32} {r1 : Nat} (kv0 : v0 % 64 = 10) (e1 : gr M v0 11 = some r1)
    (h : (64 ≤ v8 → ((v3 = 0 → (CI mJl_bitCount [.long (v4 ||| v6)] M (fun rv N => X mC_sides 168 [] [.int rv] N b (QI K)))) ∧ (v3 = 1 → (CI mJl_bitCount [.long v4] M (fun rv N => X mC_sides 174 [] [.int rv] N b (QI K)))) ∧ (¬ v3 = 0 ∧ ¬ v3 = 1 → (CI mC_least [.long v6] M (fun rv N => X mC_sides 180 [] [.int rv] N b (QI K)))))) ∧ (¬ 64 ≤ v8 → (CI mWe_opinion [.ref r1, .int v1, .int v8] M (fun rv N => X mC_sides 60 [(0, .ref v0), (1, .int v1), (2, .int v2), (3, .int v3), (4, .long v4), (6, .long v6), (8, .int v8)] [.int rv] N b (QI K))))) : X mC_sides 43 [(0, .ref v0), (1, .int v1), (2, .int v2), (3, .int v3), (4, .long v4), (6, .long v6), (8, .int v8)] [] M b (QI K) := by
  refine x_wf (fun hw => ?_)
  refine x_iload (pc := 43) dC_sides_43 (q := 6) rfl ?_
  refine x_bipush (pc := 45) dC_sides_45 (v := 64) rfl ?_
  obtain ⟨g1_0, g1_1⟩ := h
  refine x_icmp_ge (pc := 47) dC_sides_47 (t := 134) rfl (fun q1 => ?_) (fun q1 => ?_)
  · refine x_iload_n (pc := 134) dC_sides_134 rfl (q := 3) rfl ?_
    have h := g1_0 q1
    obtain ⟨g2_0, g2_1, g2_2⟩ := h
    by_cases q2 : v3 = 0
    · refine x_lkp (pc := 135) dC_sides_135 rfl (off := 25) (by rw [q2]; rfl) (t := 160) rfl ?_
      have h := g2_0 q2
      refine x_lload (pc := 160) dC_sides_160 (q := 4) rfl ?_
      refine x_lload (pc := 162) dC_sides_162 (q := 5) rfl ?_
      refine x_lor (pc := 164) dC_sides_164 ?_
      exact x_invS (pc := 165) dC_sides_165 (S := []) (As := [.long (v4 ||| v6)]) mlC_229 hJl_bitCount rfl ⟨by decide, by decide⟩ ⟨Nat.zero_le _, Nat.zero_le _⟩ rfl (Nat.le_of_ble_eq_true rfl) (aftI (b' := b) ⟨Nat.le_refl _, Nat.le_refl _⟩ (fun rv N h => x_loc [] rfl h) h)
    by_cases q3 : v3 = 1
    · refine x_lkp (pc := 135) dC_sides_135 rfl (off := 34) (by rw [q3]; rfl) (t := 169) rfl ?_
      have h := g2_1 q3
      refine x_lload (pc := 169) dC_sides_169 (q := 4) rfl ?_
      exact x_invS (pc := 171) dC_sides_171 (S := []) (As := [.long v4]) mlC_229 hJl_bitCount rfl ⟨by decide, by decide⟩ ⟨Nat.zero_le _, Nat.zero_le _⟩ rfl (Nat.le_of_ble_eq_true rfl) (aftI (b' := b) ⟨Nat.le_refl _, Nat.le_refl _⟩ (fun rv N h => x_loc [] rfl h) h)
    have h := g2_2 ⟨q2, q3⟩
    refine x_lkp (pc := 135) dC_sides_135 rfl (off := 40) (by show Op.lookupswitch.offset [(0, 25), (1, 34)] 40 (v3).toInt = 40; rw [lv_osw (a := 0) q2 (by decide), lv_osw (a := 1) q3 (by decide)]; rfl) (t := 175) rfl ?_
    refine x_lload (pc := 175) dC_sides_175 (q := 5) rfl ?_
    exact x_invS (pc := 177) dC_sides_177 (S := []) (As := [.long v6]) mlC_235 hC_least rfl ⟨by decide, by decide⟩ ⟨Nat.zero_le _, Nat.zero_le _⟩ rfl (Nat.le_of_ble_eq_true rfl) (aftI (b' := b) ⟨Nat.le_refl _, Nat.le_refl _⟩ (fun rv N h => x_loc [] rfl h) h)
  · refine x_aload_n (pc := 50) dC_sides_50 rfl (q := 0) rfl ?_
    refine x_getR (pc := 51) dC_sides_51 kv0 flC_73 rfl e1 ?_
    refine x_iload_n (pc := 54) dC_sides_54 rfl (q := 1) rfl ?_
    refine x_iload (pc := 55) dC_sides_55 (q := 6) rfl ?_
    have h := g1_1 q1
    exact x_invV (pc := 57) dC_sides_57 (c := 8) (S := []) (As := [.int v1, .int v8]) mlC_215 hWe_opinion rfl (by decide) rfl (wfk hw e1 kv0) ⟨by decide, by decide⟩ ⟨Nat.zero_le _, Nat.zero_le _⟩ rfl (Nat.le_of_ble_eq_true rfl) (aftI (b' := b) ⟨Nat.le_refl _, Nat.le_refl _⟩ (fun rv N h => h) h)

theorem vC_sides_60 {M : Mm} {b : Nat × Nat} {K : Int32 → Mm → Prop} {v0 : Nat} {v1 : Int32} {v2 : Int32} {v3 : Int32} {v4 : Int64} {v6 : Int64} {v8 : Int32} {w0 : Int32} {r1 : Nat} (kv0 : v0 % 64 = 10) (e1 : gr M v0 11 = some r1)
    (h : CI mWe_opinion [.ref r1, .int v2, .int v8] M (fun rv N => X mC_sides 72 [(0, .ref v0), (1, .int v1), (2, .int v2), (3, .int v3), (4, .long v4), (6, .long v6), (8, .int v8), (9, .int w0)] [.int rv] N b (QI K))) : X mC_sides 60 [(0, .ref v0), (1, .int v1), (2, .int v2), (3, .int v3), (4, .long v4), (6, .long v6), (8, .int v8)] [.int w0] M b (QI K) := by
  refine x_wf (fun hw => ?_)
  refine x_istore (pc := 60) dC_sides_60 (by decide) (L' := [(9, .int w0), (0, .ref v0), (1, .int v1), (2, .int v2), (3, .int v3), (4, .long v4), (6, .long v6), (8, .int v8)]) rfl ?_
  refine x_aload_n (pc := 62) dC_sides_62 rfl (q := 1) rfl ?_
  refine x_getR (pc := 63) dC_sides_63 kv0 flC_73 rfl e1 ?_
  refine x_iload_n (pc := 66) dC_sides_66 rfl (q := 3) rfl ?_
  refine x_iload (pc := 67) dC_sides_67 (q := 7) rfl ?_
  exact x_invV (pc := 69) dC_sides_69 (c := 8) (S := []) (As := [.int v2, .int v8]) mlC_215 hWe_opinion rfl (by decide) rfl (wfk hw e1 kv0) ⟨by decide, by decide⟩ ⟨Nat.zero_le _, Nat.zero_le _⟩ rfl (Nat.le_of_ble_eq_true rfl) (aftI (b' := b) ⟨Nat.le_refl _, Nat.le_refl _⟩ (fun rv N h => x_loc [1, 2, 3, 4, 5, 6, 7, 0] rfl h) h)

theorem vC_sides_72 {M : Mm} {b : Nat × Nat} {K : Int32 → Mm → Prop} {v0 : Nat} {v1 : Int32} {v2 : Int32} {v3 : Int32} {v4 : Int64} {v6 : Int64} {v8 : Int32} {v9 : Int32} {w0 : Int32}  
    (h : (((v9 = (-4)) ∨ (¬ v9 = (-4) ∧ w0 = (-4))) → (X mC_sides 43 [(0, .ref v0), (1, .int v1), (2, .int v2), (3, .int v3), (4, .long v4), (6, .long v6), (8, .int (v8 + 1))] [] M b (QI K))) ∧ ((¬ v9 = (-4) ∧ ¬ w0 = (-4) ∧ ¬ v9 = w0) → (X mC_sides 105 [(0, .ref v0), (1, .int v1), (2, .int v2), (3, .int v3), (6, .long v6), (8, .int v8), (9, .int v9), (10, .int w0)] [.long 0, .long v4] M b (QI K))) ∧ ((¬ v9 = (-4) ∧ ¬ w0 = (-4) ∧ v9 = w0) → (X mC_sides 105 [(0, .ref v0), (1, .int v1), (2, .int v2), (3, .int v3), (6, .long v6), (8, .int v8), (9, .int v9), (10, .int w0)] [.long ((1 : Int64) <<< ((v8).toInt64 &&& 63)), .long v4] M b (QI K)))) : X mC_sides 72 [(0, .ref v0), (1, .int v1), (2, .int v2), (3, .int v3), (4, .long v4), (6, .long v6), (8, .int v8), (9, .int v9)] [.int w0] M b (QI K) := by
  refine x_wf (fun hw => ?_)
  refine x_istore (pc := 72) dC_sides_72 (by decide) (L' := [(10, .int w0), (0, .ref v0), (1, .int v1), (2, .int v2), (3, .int v3), (4, .long v4), (6, .long v6), (8, .int v8), (9, .int v9)]) rfl ?_
  refine x_iload (pc := 74) dC_sides_74 (q := 8) rfl ?_
  refine x_bipush (pc := 76) dC_sides_76 (v := (-4)) rfl ?_
  obtain ⟨g1_0, g1_1, g1_2⟩ := h
  have g1_k0 : (v9 = (-4)) ∨ (¬ v9 = (-4) ∧ w0 = (-4)) → X mC_sides 128 [(10, .int w0), (0, .ref v0), (1, .int v1), (2, .int v2), (3, .int v3), (4, .long v4), (6, .long v6), (8, .int v8), (9, .int v9)] [] M b (QI K) := fun q => by
    have h := g1_0 q
    refine x_iinc (pc := 128) dC_sides_128 (q := 7) rfl (v := v8 + 1) rfl (by decide) (L' := [(8, .int (v8 + 1)), (10, .int w0), (0, .ref v0), (1, .int v1), (2, .int v2), (3, .int v3), (4, .long v4), (6, .long v6), (9, .int v9)]) rfl ?_
    refine x_goto (pc := 131) dC_sides_131 (t := 43) rfl ?_
    exact x_loc [2, 3, 4, 5, 6, 7, 0] rfl h
  refine x_icmp_eq (pc := 78) dC_sides_78 (t := 128) rfl (fun q1 => ?_) (fun q1 => ?_)
  · exact g1_k0 (Or.inl q1)
  · refine x_iload (pc := 81) dC_sides_81 (q := 0) rfl ?_
    refine x_bipush (pc := 83) dC_sides_83 (v := (-4)) rfl ?_
    refine x_icmp_eq (pc := 85) dC_sides_85 (t := 128) rfl (fun q2 => ?_) (fun q2 => ?_)
    · exact g1_k0 (Or.inr ⟨q1, q2⟩)
    · refine x_lload (pc := 88) dC_sides_88 (q := 5) rfl ?_
      refine x_iload (pc := 90) dC_sides_90 (q := 8) rfl ?_
      refine x_iload (pc := 92) dC_sides_92 (q := 0) rfl ?_
      refine x_icmp_ne (pc := 94) dC_sides_94 (t := 104) rfl (fun q3 => ?_) (fun q3 => ?_)
      · refine x_lconst (pc := 104) dC_sides_104 (v := 0) rfl ?_
        have h := g1_1 ⟨q1, q2, q3⟩
        exact x_loc [1, 2, 3, 4, 6, 7, 8, 0] rfl h
      · refine x_lconst (pc := 97) dC_sides_97 (v := 1) rfl ?_
        refine x_iload (pc := 98) dC_sides_98 (q := 7) rfl ?_
        refine x_lshl (pc := 100) dC_sides_100 ?_
        refine x_goto (pc := 101) dC_sides_101 (t := 105) rfl ?_
        have h := g1_2 ⟨q1, q2, q3⟩
        exact x_loc [1, 2, 3, 4, 6, 7, 8, 0] rfl h

theorem vC_sides_105 {M : Mm} {b : Nat × Nat} {K : Int32 → Mm → Prop} {v0 : Nat} {v1 : Int32} {v2 : Int32} {v3 : Int32} {v6 : Int64} {v8 : Int32} {v9 : Int32} {v10 : Int32} {w0 : Int64} {w1 : Int64}  
    (h : X mC_sides 43 [(0, .ref v0), (1, .int v1), (2, .int v2), (3, .int v3), (4, .long (w1 ||| w0)), (6, .long (v6 ||| (if v9 = v10 then 0 else ((1 : Int64) <<< ((v8).toInt64 &&& 63)) : Int64))), (8, .int (v8 + 1))] [] M b (QI K)) : X mC_sides 105 [(0, .ref v0), (1, .int v1), (2, .int v2), (3, .int v3), (6, .long v6), (8, .int v8), (9, .int v9), (10, .int v10)] [.long w0, .long w1] M b (QI K) := by
  refine x_wf (fun hw => ?_)
  refine x_lor (pc := 105) dC_sides_105 ?_
  refine x_lstore (pc := 106) dC_sides_106 (by decide) (L' := [(4, .long (w1 ||| w0)), (0, .ref v0), (1, .int v1), (2, .int v2), (3, .int v3), (6, .long v6), (8, .int v8), (9, .int v9), (10, .int v10)]) rfl ?_
  refine x_lload (pc := 108) dC_sides_108 (q := 5) rfl ?_
  refine x_iload (pc := 110) dC_sides_110 (q := 7) rfl ?_
  refine x_iload (pc := 112) dC_sides_112 (q := 8) rfl ?_
  suffices hJ : X mC_sides 125 [(4, .long (w1 ||| w0)), (0, .ref v0), (1, .int v1), (2, .int v2), (3, .int v3), (6, .long v6), (8, .int v8), (9, .int v9), (10, .int v10)] [.long (if v9 = v10 then 0 else ((1 : Int64) <<< ((v8).toInt64 &&& 63)) : Int64), .long v6] M b (QI K) by
    refine x_icmp_eq (pc := 114) dC_sides_114 (t := 124) rfl (fun q1 => ?_) (fun q1 => ?_)
    · refine x_lconst (pc := 124) dC_sides_124 (v := 0) rfl ?_
      first | (rw [if_pos q1] at hJ; exact hJ) | (simp only [if_pos q1] at hJ ⊢; exact hJ)
    · refine x_lconst (pc := 117) dC_sides_117 (v := 1) rfl ?_
      refine x_iload (pc := 118) dC_sides_118 (q := 6) rfl ?_
      refine x_lshl (pc := 120) dC_sides_120 ?_
      refine x_goto (pc := 121) dC_sides_121 (t := 125) rfl ?_
      first | (rw [if_neg q1] at hJ; exact hJ) | (simp only [if_neg q1] at hJ ⊢; exact hJ)
  refine x_lor (pc := 125) dC_sides_125 ?_
  refine x_lstore (pc := 126) dC_sides_126 (by decide) (L' := [(6, .long (v6 ||| (if v9 = v10 then 0 else ((1 : Int64) <<< ((v8).toInt64 &&& 63)) : Int64))), (4, .long (w1 ||| w0)), (0, .ref v0), (1, .int v1), (2, .int v2), (3, .int v3), (8, .int v8), (9, .int v9), (10, .int v10)]) rfl ?_
  refine x_iinc (pc := 128) dC_sides_128 (q := 6) rfl (v := v8 + 1) rfl (by decide) (L' := [(8, .int (v8 + 1)), (6, .long (v6 ||| (if v9 = v10 then 0 else ((1 : Int64) <<< ((v8).toInt64 &&& 63)) : Int64))), (4, .long (w1 ||| w0)), (0, .ref v0), (1, .int v1), (2, .int v2), (3, .int v3), (9, .int v9), (10, .int v10)]) rfl ?_
  refine x_goto (pc := 131) dC_sides_131 (t := 43) rfl ?_
  exact x_loc [3, 4, 5, 6, 2, 1, 0] rfl h

theorem vC_sides_168 {M : Mm} {b : Nat × Nat} {K : Int32 → Mm → Prop} {w0 : Int32}  
    (h : K w0 M) : X mC_sides 168 [] [.int w0] M b (QI K) := by
  refine x_wf (fun hw => ?_)
  exact x_retQI (pc := 168) dC_sides_168 rfl rfl h

theorem vC_sides_174 {M : Mm} {b : Nat × Nat} {K : Int32 → Mm → Prop} {w0 : Int32}  
    (h : K w0 M) : X mC_sides 174 [] [.int w0] M b (QI K) := by
  refine x_wf (fun hw => ?_)
  exact x_retQI (pc := 174) dC_sides_174 rfl rfl h

theorem vC_sides_180 {M : Mm} {b : Nat × Nat} {K : Int32 → Mm → Prop} {w0 : Int32}  
    (h : K w0 M) : X mC_sides 180 [] [.int w0] M b (QI K) := by
  refine x_wf (fun hw => ?_)
  exact x_retQI (pc := 180) dC_sides_180 rfl rfl h

theorem dC_hangs_0 : decode (mB mC_hangs) 0 = .ok (.iload_n 1, 1) := op27 (by decide +kernel)
theorem dC_hangs_1 : decode (mB mC_hangs) 1 = .ok (.invokestatic 209, 3) := op184 0 209 (by decide +kernel)
theorem dC_hangs_4 : decode (mB mC_hangs) 4 = .ok (.ifCond .eq 10, 3) := op153 0 10 (by decide +kernel)
theorem dC_hangs_7 : decode (mB mC_hangs) 7 = .ok (.iload_n 2, 1) := op28 (by decide +kernel)
theorem dC_hangs_8 : decode (mB mC_hangs) 8 = .ok (.invokestatic 218, 3) := op184 0 218 (by decide +kernel)
theorem dC_hangs_11 : decode (mB mC_hangs) 11 = .ok (.ifCond .ne 5, 3) := op154 0 5 (by decide +kernel)
theorem dC_hangs_14 : decode (mB mC_hangs) 14 = .ok (.iconst (-1), 1) := op2 (by decide +kernel)
theorem dC_hangs_15 : decode (mB mC_hangs) 15 = .ok (.ireturn, 1) := op172 (by decide +kernel)
theorem dC_hangs_16 : decode (mB mC_hangs) 16 = .ok (.aload_n 0, 1) := op42 (by decide +kernel)
theorem dC_hangs_17 : decode (mB mC_hangs) 17 = .ok (.invokevirtual 212, 3) := op182 0 212 (by decide +kernel)
theorem dC_hangs_20 : decode (mB mC_hangs) 20 = .ok (.lconst 0, 1) := op9 (by decide +kernel)
theorem dC_hangs_21 : decode (mB mC_hangs) 21 = .ok (.lstore_n 3, 1) := op66 (by decide +kernel)
theorem dC_hangs_22 : decode (mB mC_hangs) 22 = .ok (.iconst 0, 1) := op3 (by decide +kernel)
theorem dC_hangs_23 : decode (mB mC_hangs) 23 = .ok (.istore 5, 2) := op54 5 (by decide +kernel)
theorem dC_hangs_25 : decode (mB mC_hangs) 25 = .ok (.iload 5, 2) := op21 5 (by decide +kernel)
theorem dC_hangs_27 : decode (mB mC_hangs) 27 = .ok (.bipush 64, 2) := op16 64 (by decide +kernel)
theorem dC_hangs_29 : decode (mB mC_hangs) 29 = .ok (.if_icmp .ge 45, 3) := op162 0 45 (by decide +kernel)
theorem dC_hangs_32 : decode (mB mC_hangs) 32 = .ok (.aload_n 0, 1) := op42 (by decide +kernel)
theorem dC_hangs_33 : decode (mB mC_hangs) 33 = .ok (.getfield 73, 3) := op180 0 73 (by decide +kernel)
theorem dC_hangs_36 : decode (mB mC_hangs) 36 = .ok (.iload 5, 2) := op21 5 (by decide +kernel)
theorem dC_hangs_38 : decode (mB mC_hangs) 38 = .ok (.invokevirtual 238, 3) := op182 0 238 (by decide +kernel)
theorem dC_hangs_41 : decode (mB mC_hangs) 41 = .ok (.aload_n 0, 1) := op42 (by decide +kernel)
theorem dC_hangs_42 : decode (mB mC_hangs) 42 = .ok (.getfield 73, 3) := op180 0 73 (by decide +kernel)
theorem dC_hangs_45 : decode (mB mC_hangs) 45 = .ok (.iload_n 1, 1) := op27 (by decide +kernel)
theorem dC_hangs_46 : decode (mB mC_hangs) 46 = .ok (.bipush (-4), 2) := op16 252 (by decide +kernel)
theorem dC_hangs_48 : decode (mB mC_hangs) 48 = .ok (.invokevirtual 242, 3) := op182 0 242 (by decide +kernel)
theorem dC_hangs_51 : decode (mB mC_hangs) 51 = .ok (.aload_n 0, 1) := op42 (by decide +kernel)
theorem dC_hangs_52 : decode (mB mC_hangs) 52 = .ok (.getfield 73, 3) := op180 0 73 (by decide +kernel)
theorem dC_hangs_55 : decode (mB mC_hangs) 55 = .ok (.getfield 245, 3) := op180 0 245 (by decide +kernel)
theorem dC_hangs_58 : decode (mB mC_hangs) 58 = .ok (.if_icmp .eq 10, 3) := op159 0 10 (by decide +kernel)
theorem dC_hangs_61 : decode (mB mC_hangs) 61 = .ok (.lload_n 3, 1) := op33 (by decide +kernel)
theorem dC_hangs_62 : decode (mB mC_hangs) 62 = .ok (.lconst 1, 1) := op10 (by decide +kernel)
theorem dC_hangs_63 : decode (mB mC_hangs) 63 = .ok (.iload 5, 2) := op21 5 (by decide +kernel)
theorem dC_hangs_65 : decode (mB mC_hangs) 65 = .ok (.lshl, 1) := op121 (by decide +kernel)
theorem dC_hangs_66 : decode (mB mC_hangs) 66 = .ok (.lor, 1) := op129 (by decide +kernel)
theorem dC_hangs_67 : decode (mB mC_hangs) 67 = .ok (.lstore_n 3, 1) := op66 (by decide +kernel)
theorem dC_hangs_68 : decode (mB mC_hangs) 68 = .ok (.iinc 5 1, 3) := op132 5 1 (by decide +kernel)
theorem dC_hangs_71 : decode (mB mC_hangs) 71 = .ok (.goto (-46), 3) := op167 255 210 (by decide +kernel)
theorem dC_hangs_74 : decode (mB mC_hangs) 74 = .ok (.lload_n 3, 1) := op33 (by decide +kernel)
theorem dC_hangs_75 : decode (mB mC_hangs) 75 = .ok (.iload_n 2, 1) := op28 (by decide +kernel)
theorem dC_hangs_76 : decode (mB mC_hangs) 76 = .ok (.invokestatic 225, 3) := op184 0 225 (by decide +kernel)
theorem dC_hangs_79 : decode (mB mC_hangs) 79 = .ok (.ireturn, 1) := op172 (by decide +kernel)

theorem vC_hangs_0 {M : Mm} {b : Nat × Nat} {K : Int32 → Mm → Prop} {v0 : Nat} {v1 : Int32} {v2 : Int32}  
    (h : CI mC_isDoctor [.int v1] M (fun rv N => X mC_hangs 4 [(0, .ref v0), (1, .int v1), (2, .int v2)] [.int rv] N b (QI K))) : X mC_hangs 0 [(0, .ref v0), (1, .int v1), (2, .int v2)] [] M b (QI K) := by
  refine x_wf (fun hw => ?_)
  refine x_iload_n (pc := 0) dC_hangs_0 rfl (q := 1) rfl ?_
  exact x_invS (pc := 1) dC_hangs_1 (S := []) (As := [.int v1]) mlC_209 hC_isDoctor rfl ⟨by decide, by decide⟩ ⟨Nat.zero_le _, Nat.zero_le _⟩ rfl (Nat.le_of_ble_eq_true rfl) (aftI (b' := b) ⟨Nat.le_refl _, Nat.le_refl _⟩ (fun rv N h => h) h)

theorem vC_hangs_4 {M : Mm} {b : Nat × Nat} {K : Int32 → Mm → Prop} {v0 : Nat} {v1 : Int32} {v2 : Int32} {w0 : Int32}  
    (h : (w0 = 0 → (K (-1) M)) ∧ (¬ w0 = 0 → (CI mC_isEither [.int v2] M (fun rv N => X mC_hangs 11 [(0, .ref v0), (1, .int v1), (2, .int v2)] [.int rv] N b (QI K))))) : X mC_hangs 4 [(0, .ref v0), (1, .int v1), (2, .int v2)] [.int w0] M b (QI K) := by
  refine x_wf (fun hw => ?_)
  obtain ⟨g1_0, g1_1⟩ := h
  refine x_if_eq (pc := 4) dC_hangs_4 (t := 14) rfl (fun q1 => ?_) (fun q1 => ?_)
  · have h := g1_0 q1
    refine x_iconst (pc := 14) dC_hangs_14 (v := (-1)) rfl ?_
    exact x_retQI (pc := 15) dC_hangs_15 rfl rfl h
  · refine x_iload_n (pc := 7) dC_hangs_7 rfl (q := 2) rfl ?_
    have h := g1_1 q1
    exact x_invS (pc := 8) dC_hangs_8 (S := []) (As := [.int v2]) mlC_218 hC_isEither rfl ⟨by decide, by decide⟩ ⟨Nat.zero_le _, Nat.zero_le _⟩ rfl (Nat.le_of_ble_eq_true rfl) (aftI (b' := b) ⟨Nat.le_refl _, Nat.le_refl _⟩ (fun rv N h => h) h)

theorem vC_hangs_11 {M : Mm} {b : Nat × Nat} {K : Int32 → Mm → Prop} {v0 : Nat} {v1 : Int32} {v2 : Int32} {w0 : Int32} (kv0 : v0 % 64 = 10) 
    (h : (¬ w0 = 0 → (CV mC_weighNow [.ref v0] M (fun N => X mC_hangs 20 [(0, .ref v0), (1, .int v1), (2, .int v2)] [] N b (QI K)))) ∧ (w0 = 0 → (K (-1) M))) : X mC_hangs 11 [(0, .ref v0), (1, .int v1), (2, .int v2)] [.int w0] M b (QI K) := by
  refine x_wf (fun hw => ?_)
  obtain ⟨g1_0, g1_1⟩ := h
  refine x_if_ne (pc := 11) dC_hangs_11 (t := 16) rfl (fun q1 => ?_) (fun q1 => ?_)
  · refine x_aload_n (pc := 16) dC_hangs_16 rfl (q := 0) rfl ?_
    have h := g1_0 q1
    exact x_invV (pc := 17) dC_hangs_17 (c := 10) (S := []) (As := []) mlC_212 hC_weighNow rfl (by decide) rfl kv0 ⟨by decide, by decide⟩ ⟨Nat.zero_le _, Nat.zero_le _⟩ rfl (Nat.le_of_ble_eq_true rfl) (aftV (b' := b) ⟨Nat.le_refl _, Nat.le_refl _⟩ (fun N h => h) h)
  · have h := g1_1 q1
    refine x_iconst (pc := 14) dC_hangs_14 (v := (-1)) rfl ?_
    exact x_retQI (pc := 15) dC_hangs_15 rfl rfl h

theorem vC_hangs_20 {M : Mm} {b : Nat × Nat} {K : Int32 → Mm → Prop} {v0 : Nat} {v1 : Int32} {v2 : Int32}  
    (h : X mC_hangs 25 [(0, .ref v0), (1, .int v1), (2, .int v2), (3, .long 0), (5, .int 0)] [] M b (QI K)) : X mC_hangs 20 [(0, .ref v0), (1, .int v1), (2, .int v2)] [] M b (QI K) := by
  refine x_wf (fun hw => ?_)
  refine x_lconst (pc := 20) dC_hangs_20 (v := 0) rfl ?_
  refine x_lstore_n (pc := 21) dC_hangs_21 rfl (by decide) (L' := [(3, .long 0), (0, .ref v0), (1, .int v1), (2, .int v2)]) rfl ?_
  refine x_iconst (pc := 22) dC_hangs_22 (v := 0) rfl ?_
  refine x_istore (pc := 23) dC_hangs_23 (by decide) (L' := [(5, .int 0), (3, .long 0), (0, .ref v0), (1, .int v1), (2, .int v2)]) rfl ?_
  exact x_loc [2, 3, 4, 1, 0] rfl h

theorem vC_hangs_25 {M : Mm} {b : Nat × Nat} {K : Int32 → Mm → Prop} {v0 : Nat} {v1 : Int32} {v2 : Int32} {v3 : Int64} {v5 : Int32} {r1 : Nat} (kv0 : v0 % 64 = 10) (e1 : gr M v0 11 = some r1)
    (h : (64 ≤ v5 → (CI mC_manyOrLeast [.long v3, .int v2] M (fun rv N => X mC_hangs 79 [] [.int rv] N b (QI K)))) ∧ (¬ 64 ≤ v5 → (CV mWe_weigh [.ref r1, .int v5] M (fun N => X mC_hangs 41 [(0, .ref v0), (1, .int v1), (2, .int v2), (3, .long v3), (5, .int v5)] [] N b (QI K))))) : X mC_hangs 25 [(0, .ref v0), (1, .int v1), (2, .int v2), (3, .long v3), (5, .int v5)] [] M b (QI K) := by
  refine x_wf (fun hw => ?_)
  refine x_iload (pc := 25) dC_hangs_25 (q := 4) rfl ?_
  refine x_bipush (pc := 27) dC_hangs_27 (v := 64) rfl ?_
  obtain ⟨g1_0, g1_1⟩ := h
  refine x_icmp_ge (pc := 29) dC_hangs_29 (t := 74) rfl (fun q1 => ?_) (fun q1 => ?_)
  · refine x_lload_n (pc := 74) dC_hangs_74 rfl (q := 3) rfl ?_
    refine x_iload_n (pc := 75) dC_hangs_75 rfl (q := 2) rfl ?_
    have h := g1_0 q1
    exact x_invS (pc := 76) dC_hangs_76 (S := []) (As := [.long v3, .int v2]) mlC_225 hC_manyOrLeast rfl ⟨by decide, by decide⟩ ⟨Nat.zero_le _, Nat.zero_le _⟩ rfl (Nat.le_of_ble_eq_true rfl) (aftI (b' := b) ⟨Nat.le_refl _, Nat.le_refl _⟩ (fun rv N h => x_loc [] rfl h) h)
  · refine x_aload_n (pc := 32) dC_hangs_32 rfl (q := 0) rfl ?_
    refine x_getR (pc := 33) dC_hangs_33 kv0 flC_73 rfl e1 ?_
    refine x_iload (pc := 36) dC_hangs_36 (q := 4) rfl ?_
    have h := g1_1 q1
    exact x_invV (pc := 38) dC_hangs_38 (c := 8) (S := []) (As := [.int v5]) mlC_238 hWe_weigh rfl (by decide) rfl (wfk hw e1 kv0) ⟨by decide, by decide⟩ ⟨Nat.zero_le _, Nat.zero_le _⟩ rfl (Nat.le_of_ble_eq_true rfl) (aftV (b' := b) ⟨Nat.le_refl _, Nat.le_refl _⟩ (fun N h => h) h)

theorem vC_hangs_41 {M : Mm} {b : Nat × Nat} {K : Int32 → Mm → Prop} {v0 : Nat} {v1 : Int32} {v2 : Int32} {v3 : Int64} {v5 : Int32} {r1 : Nat} (kv0 : v0 % 64 = 10) (e1 : gr M v0 11 = some r1)
    (h : CI mWe_heldIf [.ref r1, .int v1, .int (-4)] M (fun rv N => X mC_hangs 51 [(0, .ref v0), (1, .int v1), (2, .int v2), (3, .long v3), (5, .int v5)] [.int rv] N b (QI K))) : X mC_hangs 41 [(0, .ref v0), (1, .int v1), (2, .int v2), (3, .long v3), (5, .int v5)] [] M b (QI K) := by
  refine x_wf (fun hw => ?_)
  refine x_aload_n (pc := 41) dC_hangs_41 rfl (q := 0) rfl ?_
  refine x_getR (pc := 42) dC_hangs_42 kv0 flC_73 rfl e1 ?_
  refine x_iload_n (pc := 45) dC_hangs_45 rfl (q := 1) rfl ?_
  refine x_bipush (pc := 46) dC_hangs_46 (v := (-4)) rfl ?_
  exact x_invV (pc := 48) dC_hangs_48 (c := 8) (S := []) (As := [.int v1, .int (-4)]) mlC_242 hWe_heldIf rfl (by decide) rfl (wfk hw e1 kv0) ⟨by decide, by decide⟩ ⟨Nat.zero_le _, Nat.zero_le _⟩ rfl (Nat.le_of_ble_eq_true rfl) (aftI (b' := b) ⟨Nat.le_refl _, Nat.le_refl _⟩ (fun rv N h => h) h)

theorem vC_hangs_51 {M : Mm} {b : Nat × Nat} {K : Int32 → Mm → Prop} {v0 : Nat} {v1 : Int32} {v2 : Int32} {v3 : Int64} {v5 : Int32} {w0 : Int32} {r1 : Nat} (kv0 : v0 % 64 = 10) (e1 : gr M v0 11 = some r1)
    (h : (w0 = (gi M r1 9) → (X mC_hangs 25 [(0, .ref v0), (1, .int v1), (2, .int v2), (3, .long v3), (5, .int (v5 + 1))] [] M b (QI K))) ∧ (¬ w0 = (gi M r1 9) → (X mC_hangs 25 [(0, .ref v0), (1, .int v1), (2, .int v2), (3, .long (v3 ||| ((1 : Int64) <<< ((v5).toInt64 &&& 63)))), (5, .int (v5 + 1))] [] M b (QI K)))) : X mC_hangs 51 [(0, .ref v0), (1, .int v1), (2, .int v2), (3, .long v3), (5, .int v5)] [.int w0] M b (QI K) := by
  refine x_wf (fun hw => ?_)
  refine x_aload_n (pc := 51) dC_hangs_51 rfl (q := 0) rfl ?_
  refine x_getR (pc := 52) dC_hangs_52 kv0 flC_73 rfl e1 ?_
  refine x_getI (pc := 55) dC_hangs_55 (wfk hw e1 kv0) flC_245 rfl ?_
  obtain ⟨g1_0, g1_1⟩ := h
  refine x_icmp_eq (pc := 58) dC_hangs_58 (t := 68) rfl (fun q1 => ?_) (fun q1 => ?_)
  · have h := g1_0 q1
    refine x_iinc (pc := 68) dC_hangs_68 (q := 4) rfl (v := v5 + 1) rfl (by decide) (L' := [(5, .int (v5 + 1)), (0, .ref v0), (1, .int v1), (2, .int v2), (3, .long v3)]) rfl ?_
    refine x_goto (pc := 71) dC_hangs_71 (t := 25) rfl ?_
    exact x_loc [1, 2, 3, 4, 0] rfl h
  · refine x_lload_n (pc := 61) dC_hangs_61 rfl (q := 3) rfl ?_
    refine x_lconst (pc := 62) dC_hangs_62 (v := 1) rfl ?_
    refine x_iload (pc := 63) dC_hangs_63 (q := 4) rfl ?_
    refine x_lshl (pc := 65) dC_hangs_65 ?_
    refine x_lor (pc := 66) dC_hangs_66 ?_
    have h := g1_1 q1
    refine x_lstore_n (pc := 67) dC_hangs_67 rfl (by decide) (L' := [(3, .long (v3 ||| ((1 : Int64) <<< ((v5).toInt64 &&& 63)))), (0, .ref v0), (1, .int v1), (2, .int v2), (5, .int v5)]) rfl ?_
    refine x_iinc (pc := 68) dC_hangs_68 (q := 4) rfl (v := v5 + 1) rfl (by decide) (L' := [(5, .int (v5 + 1)), (3, .long (v3 ||| ((1 : Int64) <<< ((v5).toInt64 &&& 63)))), (0, .ref v0), (1, .int v1), (2, .int v2)]) rfl ?_
    refine x_goto (pc := 71) dC_hangs_71 (t := 25) rfl ?_
    exact x_loc [2, 3, 4, 1, 0] rfl h

theorem vC_hangs_79 {M : Mm} {b : Nat × Nat} {K : Int32 → Mm → Prop} {w0 : Int32}  
    (h : K w0 M) : X mC_hangs 79 [] [.int w0] M b (QI K) := by
  refine x_wf (fun hw => ?_)
  exact x_retQI (pc := 79) dC_hangs_79 rfl rfl h

theorem dC_held_0 : decode (mB mC_held) 0 = .ok (.iload_n 1, 1) := op27 (by decide +kernel)
theorem dC_held_1 : decode (mB mC_held) 1 = .ok (.invokestatic 182, 3) := op184 0 182 (by decide +kernel)
theorem dC_held_4 : decode (mB mC_held) 4 = .ok (.ifCond .ne 5, 3) := op154 0 5 (by decide +kernel)
theorem dC_held_7 : decode (mB mC_held) 7 = .ok (.iconst (-1), 1) := op2 (by decide +kernel)
theorem dC_held_8 : decode (mB mC_held) 8 = .ok (.ireturn, 1) := op172 (by decide +kernel)
theorem dC_held_9 : decode (mB mC_held) 9 = .ok (.aload_n 0, 1) := op42 (by decide +kernel)
theorem dC_held_10 : decode (mB mC_held) 10 = .ok (.invokevirtual 212, 3) := op182 0 212 (by decide +kernel)
theorem dC_held_13 : decode (mB mC_held) 13 = .ok (.aload_n 0, 1) := op42 (by decide +kernel)
theorem dC_held_14 : decode (mB mC_held) 14 = .ok (.getfield 73, 3) := op180 0 73 (by decide +kernel)
theorem dC_held_17 : decode (mB mC_held) 17 = .ok (.iload_n 1, 1) := op27 (by decide +kernel)
theorem dC_held_18 : decode (mB mC_held) 18 = .ok (.invokevirtual 238, 3) := op182 0 238 (by decide +kernel)
theorem dC_held_21 : decode (mB mC_held) 21 = .ok (.iload_n 2, 1) := op28 (by decide +kernel)
theorem dC_held_22 : decode (mB mC_held) 22 = .ok (.tableswitch 62 0 3 #[30, 38, 46, 54], 30) := by decide +kernel
theorem dC_held_52 : decode (mB mC_held) 52 = .ok (.aload_n 0, 1) := op42 (by decide +kernel)
theorem dC_held_53 : decode (mB mC_held) 53 = .ok (.getfield 73, 3) := op180 0 73 (by decide +kernel)
theorem dC_held_56 : decode (mB mC_held) 56 = .ok (.getfield 245, 3) := op180 0 245 (by decide +kernel)
theorem dC_held_59 : decode (mB mC_held) 59 = .ok (.ireturn, 1) := op172 (by decide +kernel)
theorem dC_held_60 : decode (mB mC_held) 60 = .ok (.aload_n 0, 1) := op42 (by decide +kernel)
theorem dC_held_61 : decode (mB mC_held) 61 = .ok (.getfield 73, 3) := op180 0 73 (by decide +kernel)
theorem dC_held_64 : decode (mB mC_held) 64 = .ok (.getfield 248, 3) := op180 0 248 (by decide +kernel)
theorem dC_held_67 : decode (mB mC_held) 67 = .ok (.ireturn, 1) := op172 (by decide +kernel)
theorem dC_held_68 : decode (mB mC_held) 68 = .ok (.aload_n 0, 1) := op42 (by decide +kernel)
theorem dC_held_69 : decode (mB mC_held) 69 = .ok (.getfield 73, 3) := op180 0 73 (by decide +kernel)
theorem dC_held_72 : decode (mB mC_held) 72 = .ok (.getfield 251, 3) := op180 0 251 (by decide +kernel)
theorem dC_held_75 : decode (mB mC_held) 75 = .ok (.ireturn, 1) := op172 (by decide +kernel)
theorem dC_held_76 : decode (mB mC_held) 76 = .ok (.aload_n 0, 1) := op42 (by decide +kernel)
theorem dC_held_77 : decode (mB mC_held) 77 = .ok (.getfield 73, 3) := op180 0 73 (by decide +kernel)
theorem dC_held_80 : decode (mB mC_held) 80 = .ok (.getfield 254, 3) := op180 0 254 (by decide +kernel)
theorem dC_held_83 : decode (mB mC_held) 83 = .ok (.ireturn, 1) := op172 (by decide +kernel)
theorem dC_held_84 : decode (mB mC_held) 84 = .ok (.iconst (-1), 1) := op2 (by decide +kernel)
theorem dC_held_85 : decode (mB mC_held) 85 = .ok (.ireturn, 1) := op172 (by decide +kernel)

theorem vC_held_0 {M : Mm} {b : Nat × Nat} {K : Int32 → Mm → Prop} {v0 : Nat} {v1 : Int32} {v2 : Int32}  
    (h : CI mC_isCase [.int v1] M (fun rv N => X mC_held 4 [(0, .ref v0), (1, .int v1), (2, .int v2)] [.int rv] N b (QI K))) : X mC_held 0 [(0, .ref v0), (1, .int v1), (2, .int v2)] [] M b (QI K) := by
  refine x_wf (fun hw => ?_)
  refine x_iload_n (pc := 0) dC_held_0 rfl (q := 1) rfl ?_
  exact x_invS (pc := 1) dC_held_1 (S := []) (As := [.int v1]) mlC_182 hC_isCase rfl ⟨by decide, by decide⟩ ⟨Nat.zero_le _, Nat.zero_le _⟩ rfl (Nat.le_of_ble_eq_true rfl) (aftI (b' := b) ⟨Nat.le_refl _, Nat.le_refl _⟩ (fun rv N h => h) h)

theorem vC_held_4 {M : Mm} {b : Nat × Nat} {K : Int32 → Mm → Prop} {v0 : Nat} {v1 : Int32} {v2 : Int32} {w0 : Int32} (kv0 : v0 % 64 = 10) 
    (h : (¬ w0 = 0 → (CV mC_weighNow [.ref v0] M (fun N => X mC_held 13 [(0, .ref v0), (1, .int v1), (2, .int v2)] [] N b (QI K)))) ∧ (w0 = 0 → (K (-1) M))) : X mC_held 4 [(0, .ref v0), (1, .int v1), (2, .int v2)] [.int w0] M b (QI K) := by
  refine x_wf (fun hw => ?_)
  obtain ⟨g1_0, g1_1⟩ := h
  refine x_if_ne (pc := 4) dC_held_4 (t := 9) rfl (fun q1 => ?_) (fun q1 => ?_)
  · refine x_aload_n (pc := 9) dC_held_9 rfl (q := 0) rfl ?_
    have h := g1_0 q1
    exact x_invV (pc := 10) dC_held_10 (c := 10) (S := []) (As := []) mlC_212 hC_weighNow rfl (by decide) rfl kv0 ⟨by decide, by decide⟩ ⟨Nat.zero_le _, Nat.zero_le _⟩ rfl (Nat.le_of_ble_eq_true rfl) (aftV (b' := b) ⟨Nat.le_refl _, Nat.le_refl _⟩ (fun N h => h) h)
  · refine x_iconst (pc := 7) dC_held_7 (v := (-1)) rfl ?_
    have h := g1_1 q1
    exact x_retQI (pc := 8) dC_held_8 rfl rfl h

theorem vC_held_13 {M : Mm} {b : Nat × Nat} {K : Int32 → Mm → Prop} {v0 : Nat} {v1 : Int32} {v2 : Int32} {r1 : Nat} (kv0 : v0 % 64 = 10) (e1 : gr M v0 11 = some r1)
    (h : CV mWe_weigh [.ref r1, .int v1] M (fun N => X mC_held 21 [(0, .ref v0), (2, .int v2)] [] N b (QI K))) : X mC_held 13 [(0, .ref v0), (1, .int v1), (2, .int v2)] [] M b (QI K) := by
  refine x_wf (fun hw => ?_)
  refine x_aload_n (pc := 13) dC_held_13 rfl (q := 0) rfl ?_
  refine x_getR (pc := 14) dC_held_14 kv0 flC_73 rfl e1 ?_
  refine x_iload_n (pc := 17) dC_held_17 rfl (q := 1) rfl ?_
  exact x_invV (pc := 18) dC_held_18 (c := 8) (S := []) (As := [.int v1]) mlC_238 hWe_weigh rfl (by decide) rfl (wfk hw e1 kv0) ⟨by decide, by decide⟩ ⟨Nat.zero_le _, Nat.zero_le _⟩ rfl (Nat.le_of_ble_eq_true rfl) (aftV (b' := b) ⟨Nat.le_refl _, Nat.le_refl _⟩ (fun N h => x_loc [0, 2] rfl h) h)

theorem vC_held_21 {M : Mm} {b : Nat × Nat} {K : Int32 → Mm → Prop} {v0 : Nat} {v2 : Int32} {r1 : Nat} (kv0 : v0 % 64 = 10) (e1 : gr M v0 11 = some r1)
    (h : (v2 = 0 → (K (gi M r1 9) M)) ∧ (v2 = 1 → (K (gi M r1 8) M)) ∧ (v2 = 2 → (K (gi M r1 6) M)) ∧ (v2 = 3 → (K (gi M r1 7) M)) ∧ (¬ v2 = 0 ∧ ¬ v2 = 1 ∧ ¬ v2 = 2 ∧ ¬ v2 = 3 → (K (-1) M))) : X mC_held 21 [(0, .ref v0), (2, .int v2)] [] M b (QI K) := by
  refine x_wf (fun hw => ?_)
  refine x_iload_n (pc := 21) dC_held_21 rfl (q := 1) rfl ?_
  obtain ⟨g1_0, g1_1, g1_2, g1_3, g1_4⟩ := h
  by_cases q1 : v2 = 0
  · refine x_tblIn (pc := 22) dC_held_22 (by rw [q1]; decide) (by rw [q1]; decide) (off := 30) (by rw [q1]; rfl) (t := 52) rfl ?_
    have h := g1_0 q1
    refine x_aload_n (pc := 52) dC_held_52 rfl (q := 0) rfl ?_
    refine x_getR (pc := 53) dC_held_53 kv0 flC_73 rfl e1 ?_
    refine x_getI (pc := 56) dC_held_56 (wfk hw e1 kv0) flC_245 rfl ?_
    exact x_retQI (pc := 59) dC_held_59 rfl rfl h
  by_cases q2 : v2 = 1
  · refine x_tblIn (pc := 22) dC_held_22 (by rw [q2]; decide) (by rw [q2]; decide) (off := 38) (by rw [q2]; rfl) (t := 60) rfl ?_
    have h := g1_1 q2
    refine x_aload_n (pc := 60) dC_held_60 rfl (q := 0) rfl ?_
    refine x_getR (pc := 61) dC_held_61 kv0 flC_73 rfl e1 ?_
    refine x_getI (pc := 64) dC_held_64 (wfk hw e1 kv0) flC_248 rfl ?_
    exact x_retQI (pc := 67) dC_held_67 rfl rfl h
  by_cases q3 : v2 = 2
  · refine x_tblIn (pc := 22) dC_held_22 (by rw [q3]; decide) (by rw [q3]; decide) (off := 46) (by rw [q3]; rfl) (t := 68) rfl ?_
    have h := g1_2 q3
    refine x_aload_n (pc := 68) dC_held_68 rfl (q := 0) rfl ?_
    refine x_getR (pc := 69) dC_held_69 kv0 flC_73 rfl e1 ?_
    refine x_getI (pc := 72) dC_held_72 (wfk hw e1 kv0) flC_251 rfl ?_
    exact x_retQI (pc := 75) dC_held_75 rfl rfl h
  by_cases q4 : v2 = 3
  · refine x_tblIn (pc := 22) dC_held_22 (by rw [q4]; decide) (by rw [q4]; decide) (off := 54) (by rw [q4]; rfl) (t := 76) rfl ?_
    have h := g1_3 q4
    refine x_aload_n (pc := 76) dC_held_76 rfl (q := 0) rfl ?_
    refine x_getR (pc := 77) dC_held_77 kv0 flC_73 rfl e1 ?_
    refine x_getI (pc := 80) dC_held_80 (wfk hw e1 kv0) flC_254 rfl ?_
    exact x_retQI (pc := 83) dC_held_83 rfl rfl h
  have h := g1_4 ⟨q1, q2, q3, q4⟩
  have hout : (v2).toInt < 0 ∨ 3 < (v2).toInt := tblout (fun (k : Int) h1 h2 => by
    rcases (show k = 0 ∨ k = 1 ∨ k = 2 ∨ k = 3 by omega) with rfl | rfl | rfl | rfl
    · exact q1
    · exact q2
    · exact q3
    · exact q4)
  refine x_tblOut (pc := 22) dC_held_22 hout (t := 84) rfl ?_
  refine x_iconst (pc := 84) dC_held_84 (v := (-1)) rfl ?_
  exact x_retQI (pc := 85) dC_held_85 rfl rfl h

theorem dC_cases_0 : decode (mB mC_cases) 0 = .ok (.iload_n 1, 1) := op27 (by decide +kernel)
theorem dC_cases_1 : decode (mB mC_cases) 1 = .ok (.invokestatic 257, 3) := op184 1 1 (by decide +kernel)
theorem dC_cases_4 : decode (mB mC_cases) 4 = .ok (.ifCond .eq 11, 3) := op153 0 11 (by decide +kernel)
theorem dC_cases_7 : decode (mB mC_cases) 7 = .ok (.aload_n 0, 1) := op42 (by decide +kernel)
theorem dC_cases_8 : decode (mB mC_cases) 8 = .ok (.iload_n 1, 1) := op27 (by decide +kernel)
theorem dC_cases_9 : decode (mB mC_cases) 9 = .ok (.invokevirtual 260, 3) := op182 1 4 (by decide +kernel)
theorem dC_cases_12 : decode (mB mC_cases) 12 = .ok (.goto 4, 3) := op167 0 4 (by decide +kernel)
theorem dC_cases_15 : decode (mB mC_cases) 15 = .ok (.lconst 0, 1) := op9 (by decide +kernel)
theorem dC_cases_16 : decode (mB mC_cases) 16 = .ok (.lreturn, 1) := op173 (by decide +kernel)

theorem vC_cases_0 {M : Mm} {b : Nat × Nat} {K : Int64 → Mm → Prop} {v0 : Nat} {v1 : Int32}  
    (h : CI mC_isKindOfCases [.int v1] M (fun rv N => X mC_cases 4 [(0, .ref v0), (1, .int v1)] [.int rv] N b (QJ K))) : X mC_cases 0 [(0, .ref v0), (1, .int v1)] [] M b (QJ K) := by
  refine x_wf (fun hw => ?_)
  refine x_iload_n (pc := 0) dC_cases_0 rfl (q := 1) rfl ?_
  exact x_invS (pc := 1) dC_cases_1 (S := []) (As := [.int v1]) mlC_257 hC_isKindOfCases rfl ⟨by decide, by decide⟩ ⟨Nat.zero_le _, Nat.zero_le _⟩ rfl (Nat.le_of_ble_eq_true rfl) (aftI (b' := b) ⟨Nat.le_refl _, Nat.le_refl _⟩ (fun rv N h => h) h)

theorem vC_cases_4 {M : Mm} {b : Nat × Nat} {K : Int64 → Mm → Prop} {v0 : Nat} {v1 : Int32} {w0 : Int32} (kv0 : v0 % 64 = 10) 
    (h : (w0 = 0 → (K 0 M)) ∧ (¬ w0 = 0 → (CJ mC_casesNow [.ref v0, .int v1] M (fun rv N => X mC_cases 12 [] [.long rv] N b (QJ K))))) : X mC_cases 4 [(0, .ref v0), (1, .int v1)] [.int w0] M b (QJ K) := by
  refine x_wf (fun hw => ?_)
  obtain ⟨g1_0, g1_1⟩ := h
  refine x_if_eq (pc := 4) dC_cases_4 (t := 15) rfl (fun q1 => ?_) (fun q1 => ?_)
  · refine x_lconst (pc := 15) dC_cases_15 (v := 0) rfl ?_
    have h := g1_0 q1
    exact x_retQJ (pc := 16) dC_cases_16 rfl h
  · refine x_aload_n (pc := 7) dC_cases_7 rfl (q := 0) rfl ?_
    refine x_iload_n (pc := 8) dC_cases_8 rfl (q := 1) rfl ?_
    have h := g1_1 q1
    exact x_invV (pc := 9) dC_cases_9 (c := 10) (S := []) (As := [.int v1]) mlC_260 hC_casesNow rfl (by decide) rfl kv0 ⟨by decide, by decide⟩ ⟨Nat.zero_le _, Nat.zero_le _⟩ rfl (Nat.le_of_ble_eq_true rfl) (aftJ (b' := b) ⟨Nat.le_refl _, Nat.le_refl _⟩ (fun rv N h => x_loc [] rfl h) h)

theorem vC_cases_12 {M : Mm} {b : Nat × Nat} {K : Int64 → Mm → Prop} {w0 : Int64}  
    (h : K w0 M) : X mC_cases 12 [] [.long w0] M b (QJ K) := by
  refine x_wf (fun hw => ?_)
  refine x_goto (pc := 12) dC_cases_12 (t := 16) rfl ?_
  exact x_retQJ (pc := 16) dC_cases_16 rfl h

theorem dC_isKindOfCases_0 : decode (mB mC_isKindOfCases) 0 = .ok (.iload_n 0, 1) := op26 (by decide +kernel)
theorem dC_isKindOfCases_1 : decode (mB mC_isKindOfCases) 1 = .ok (.ifCond .lt 8, 3) := op155 0 8 (by decide +kernel)
theorem dC_isKindOfCases_4 : decode (mB mC_isKindOfCases) 4 = .ok (.iload_n 0, 1) := op26 (by decide +kernel)
theorem dC_isKindOfCases_5 : decode (mB mC_isKindOfCases) 5 = .ok (.iconst 2, 1) := op5 (by decide +kernel)
theorem dC_isKindOfCases_6 : decode (mB mC_isKindOfCases) 6 = .ok (.if_icmp .le 15, 3) := op164 0 15 (by decide +kernel)
theorem dC_isKindOfCases_9 : decode (mB mC_isKindOfCases) 9 = .ok (.iload_n 0, 1) := op26 (by decide +kernel)
theorem dC_isKindOfCases_10 : decode (mB mC_isKindOfCases) 10 = .ok (.bipush 10, 2) := op16 10 (by decide +kernel)
theorem dC_isKindOfCases_12 : decode (mB mC_isKindOfCases) 12 = .ok (.if_icmp .lt 13, 3) := op161 0 13 (by decide +kernel)
theorem dC_isKindOfCases_15 : decode (mB mC_isKindOfCases) 15 = .ok (.iload_n 0, 1) := op26 (by decide +kernel)
theorem dC_isKindOfCases_16 : decode (mB mC_isKindOfCases) 16 = .ok (.bipush 14, 2) := op16 14 (by decide +kernel)
theorem dC_isKindOfCases_18 : decode (mB mC_isKindOfCases) 18 = .ok (.if_icmp .gt 7, 3) := op163 0 7 (by decide +kernel)
theorem dC_isKindOfCases_21 : decode (mB mC_isKindOfCases) 21 = .ok (.iconst 1, 1) := op4 (by decide +kernel)
theorem dC_isKindOfCases_22 : decode (mB mC_isKindOfCases) 22 = .ok (.goto 4, 3) := op167 0 4 (by decide +kernel)
theorem dC_isKindOfCases_25 : decode (mB mC_isKindOfCases) 25 = .ok (.iconst 0, 1) := op3 (by decide +kernel)
theorem dC_isKindOfCases_26 : decode (mB mC_isKindOfCases) 26 = .ok (.ireturn, 1) := op172 (by decide +kernel)

theorem vC_isKindOfCases_0 {M : Mm} {b : Nat × Nat} {K : Int32 → Mm → Prop} {v0 : Int32}  
    (h : (((v0 < 0) ∨ (¬ v0 < 0 ∧ ¬ v0 ≤ 2)) → ((((v0 < 10) ∨ (¬ v0 < 10 ∧ 14 < v0)) → (K 0 M)) ∧ ((¬ v0 < 10 ∧ ¬ 14 < v0) → (K 1 M)))) ∧ ((¬ v0 < 0 ∧ v0 ≤ 2) → (K 1 M))) : X mC_isKindOfCases 0 [(0, .int v0)] [] M b (QI K) := by
  refine x_wf (fun hw => ?_)
  refine x_iload_n (pc := 0) dC_isKindOfCases_0 rfl (q := 0) rfl ?_
  obtain ⟨g1_0, g1_1⟩ := h
  have g1_k0 : (v0 < 0) ∨ (¬ v0 < 0 ∧ ¬ v0 ≤ 2) → X mC_isKindOfCases 9 [(0, .int v0)] [] M b (QI K) := fun q => by
    have h := g1_0 q
    refine x_iload_n (pc := 9) dC_isKindOfCases_9 rfl (q := 0) rfl ?_
    refine x_bipush (pc := 10) dC_isKindOfCases_10 (v := 10) rfl ?_
    obtain ⟨g2_0, g2_1⟩ := h
    have g2_k0 : (v0 < 10) ∨ (¬ v0 < 10 ∧ 14 < v0) → X mC_isKindOfCases 25 [(0, .int v0)] [] M b (QI K) := fun q => by
      have h := g2_0 q
      refine x_iconst (pc := 25) dC_isKindOfCases_25 (v := 0) rfl ?_
      exact x_retQI (pc := 26) dC_isKindOfCases_26 rfl (by (repeat' split) <;> rfl) h
    refine x_icmp_lt (pc := 12) dC_isKindOfCases_12 (t := 25) rfl (fun q3 => ?_) (fun q3 => ?_)
    · exact g2_k0 (Or.inl q3)
    · refine x_iload_n (pc := 15) dC_isKindOfCases_15 rfl (q := 0) rfl ?_
      refine x_bipush (pc := 16) dC_isKindOfCases_16 (v := 14) rfl ?_
      refine x_icmp_gt (pc := 18) dC_isKindOfCases_18 (t := 25) rfl (fun q4 => ?_) (fun q4 => ?_)
      · exact g2_k0 (Or.inr ⟨q3, q4⟩)
      · have h := g2_1 ⟨q3, q4⟩
        refine x_iconst (pc := 21) dC_isKindOfCases_21 (v := 1) rfl ?_
        refine x_goto (pc := 22) dC_isKindOfCases_22 (t := 26) rfl ?_
        exact x_retQI (pc := 26) dC_isKindOfCases_26 rfl (by (repeat' split) <;> rfl) h
  refine x_if_lt (pc := 1) dC_isKindOfCases_1 (t := 9) rfl (fun q1 => ?_) (fun q1 => ?_)
  · exact g1_k0 (Or.inl q1)
  · refine x_iload_n (pc := 4) dC_isKindOfCases_4 rfl (q := 0) rfl ?_
    refine x_iconst (pc := 5) dC_isKindOfCases_5 (v := 2) rfl ?_
    refine x_icmp_le (pc := 6) dC_isKindOfCases_6 (t := 21) rfl (fun q2 => ?_) (fun q2 => ?_)
    · have h := g1_1 ⟨q1, q2⟩
      refine x_iconst (pc := 21) dC_isKindOfCases_21 (v := 1) rfl ?_
      refine x_goto (pc := 22) dC_isKindOfCases_22 (t := 26) rfl ?_
      exact x_retQI (pc := 26) dC_isKindOfCases_26 rfl (by (repeat' split) <;> rfl) h
    · exact g1_k0 (Or.inr ⟨q1, q2⟩)

theorem dC_casesNow_0 : decode (mB mC_casesNow) 0 = .ok (.aload_n 0, 1) := op42 (by decide +kernel)
theorem dC_casesNow_1 : decode (mB mC_casesNow) 1 = .ok (.invokevirtual 212, 3) := op182 0 212 (by decide +kernel)
theorem dC_casesNow_4 : decode (mB mC_casesNow) 4 = .ok (.aload_n 0, 1) := op42 (by decide +kernel)
theorem dC_casesNow_5 : decode (mB mC_casesNow) 5 = .ok (.getfield 73, 3) := op180 0 73 (by decide +kernel)
theorem dC_casesNow_8 : decode (mB mC_casesNow) 8 = .ok (.iload_n 1, 1) := op27 (by decide +kernel)
theorem dC_casesNow_9 : decode (mB mC_casesNow) 9 = .ok (.invokevirtual 316, 3) := op182 1 60 (by decide +kernel)
theorem dC_casesNow_12 : decode (mB mC_casesNow) 12 = .ok (.lreturn, 1) := op173 (by decide +kernel)

theorem vC_casesNow_0 {M : Mm} {b : Nat × Nat} {K : Int64 → Mm → Prop} {v0 : Nat} {v1 : Int32} (kv0 : v0 % 64 = 10) 
    (h : CV mC_weighNow [.ref v0] M (fun N => X mC_casesNow 4 [(0, .ref v0), (1, .int v1)] [] N b (QJ K))) : X mC_casesNow 0 [(0, .ref v0), (1, .int v1)] [] M b (QJ K) := by
  refine x_wf (fun hw => ?_)
  refine x_aload_n (pc := 0) dC_casesNow_0 rfl (q := 0) rfl ?_
  exact x_invV (pc := 1) dC_casesNow_1 (c := 10) (S := []) (As := []) mlC_212 hC_weighNow rfl (by decide) rfl kv0 ⟨by decide, by decide⟩ ⟨Nat.zero_le _, Nat.zero_le _⟩ rfl (Nat.le_of_ble_eq_true rfl) (aftV (b' := b) ⟨Nat.le_refl _, Nat.le_refl _⟩ (fun N h => h) h)

theorem vC_casesNow_4 {M : Mm} {b : Nat × Nat} {K : Int64 → Mm → Prop} {v0 : Nat} {v1 : Int32} {r1 : Nat} (kv0 : v0 % 64 = 10) (e1 : gr M v0 11 = some r1)
    (h : CJ mWe_casesOf [.ref r1, .int v1] M (fun rv N => X mC_casesNow 12 [] [.long rv] N b (QJ K))) : X mC_casesNow 4 [(0, .ref v0), (1, .int v1)] [] M b (QJ K) := by
  refine x_wf (fun hw => ?_)
  refine x_aload_n (pc := 4) dC_casesNow_4 rfl (q := 0) rfl ?_
  refine x_getR (pc := 5) dC_casesNow_5 kv0 flC_73 rfl e1 ?_
  refine x_iload_n (pc := 8) dC_casesNow_8 rfl (q := 1) rfl ?_
  exact x_invV (pc := 9) dC_casesNow_9 (c := 8) (S := []) (As := [.int v1]) mlC_316 hWe_casesOf rfl (by decide) rfl (wfk hw e1 kv0) ⟨by decide, by decide⟩ ⟨Nat.zero_le _, Nat.zero_le _⟩ rfl (Nat.le_of_ble_eq_true rfl) (aftJ (b' := b) ⟨Nat.le_refl _, Nat.le_refl _⟩ (fun rv N h => x_loc [] rfl h) h)

theorem vC_casesNow_12 {M : Mm} {b : Nat × Nat} {K : Int64 → Mm → Prop} {w0 : Int64}  
    (h : K w0 M) : X mC_casesNow 12 [] [.long w0] M b (QJ K) := by
  refine x_wf (fun hw => ?_)
  exact x_retQJ (pc := 12) dC_casesNow_12 rfl h

theorem dC_many_0 : decode (mB mC_many) 0 = .ok (.iload_n 1, 1) := op27 (by decide +kernel)
theorem dC_many_1 : decode (mB mC_many) 1 = .ok (.invokestatic 257, 3) := op184 1 1 (by decide +kernel)
theorem dC_many_4 : decode (mB mC_many) 4 = .ok (.ifCond .eq 14, 3) := op153 0 14 (by decide +kernel)
theorem dC_many_7 : decode (mB mC_many) 7 = .ok (.aload_n 0, 1) := op42 (by decide +kernel)
theorem dC_many_8 : decode (mB mC_many) 8 = .ok (.iload_n 1, 1) := op27 (by decide +kernel)
theorem dC_many_9 : decode (mB mC_many) 9 = .ok (.invokevirtual 260, 3) := op182 1 4 (by decide +kernel)
theorem dC_many_12 : decode (mB mC_many) 12 = .ok (.invokestatic 229, 3) := op184 0 229 (by decide +kernel)
theorem dC_many_15 : decode (mB mC_many) 15 = .ok (.goto 4, 3) := op167 0 4 (by decide +kernel)
theorem dC_many_18 : decode (mB mC_many) 18 = .ok (.iconst (-1), 1) := op2 (by decide +kernel)
theorem dC_many_19 : decode (mB mC_many) 19 = .ok (.ireturn, 1) := op172 (by decide +kernel)

theorem vC_many_0 {M : Mm} {b : Nat × Nat} {K : Int32 → Mm → Prop} {v0 : Nat} {v1 : Int32}  
    (h : CI mC_isKindOfCases [.int v1] M (fun rv N => X mC_many 4 [(0, .ref v0), (1, .int v1)] [.int rv] N b (QI K))) : X mC_many 0 [(0, .ref v0), (1, .int v1)] [] M b (QI K) := by
  refine x_wf (fun hw => ?_)
  refine x_iload_n (pc := 0) dC_many_0 rfl (q := 1) rfl ?_
  exact x_invS (pc := 1) dC_many_1 (S := []) (As := [.int v1]) mlC_257 hC_isKindOfCases rfl ⟨by decide, by decide⟩ ⟨Nat.zero_le _, Nat.zero_le _⟩ rfl (Nat.le_of_ble_eq_true rfl) (aftI (b' := b) ⟨Nat.le_refl _, Nat.le_refl _⟩ (fun rv N h => h) h)

theorem vC_many_4 {M : Mm} {b : Nat × Nat} {K : Int32 → Mm → Prop} {v0 : Nat} {v1 : Int32} {w0 : Int32} (kv0 : v0 % 64 = 10) 
    (h : (w0 = 0 → (K (-1) M)) ∧ (¬ w0 = 0 → (CJ mC_casesNow [.ref v0, .int v1] M (fun rv N => X mC_many 12 [] [.long rv] N b (QI K))))) : X mC_many 4 [(0, .ref v0), (1, .int v1)] [.int w0] M b (QI K) := by
  refine x_wf (fun hw => ?_)
  obtain ⟨g1_0, g1_1⟩ := h
  refine x_if_eq (pc := 4) dC_many_4 (t := 18) rfl (fun q1 => ?_) (fun q1 => ?_)
  · refine x_iconst (pc := 18) dC_many_18 (v := (-1)) rfl ?_
    have h := g1_0 q1
    exact x_retQI (pc := 19) dC_many_19 rfl rfl h
  · refine x_aload_n (pc := 7) dC_many_7 rfl (q := 0) rfl ?_
    refine x_iload_n (pc := 8) dC_many_8 rfl (q := 1) rfl ?_
    have h := g1_1 q1
    exact x_invV (pc := 9) dC_many_9 (c := 10) (S := []) (As := [.int v1]) mlC_260 hC_casesNow rfl (by decide) rfl kv0 ⟨by decide, by decide⟩ ⟨Nat.zero_le _, Nat.zero_le _⟩ rfl (Nat.le_of_ble_eq_true rfl) (aftJ (b' := b) ⟨Nat.le_refl _, Nat.le_refl _⟩ (fun rv N h => x_loc [] rfl h) h)

theorem vC_many_12 {M : Mm} {b : Nat × Nat} {K : Int32 → Mm → Prop} {w0 : Int64}  
    (h : CI mJl_bitCount [.long w0] M (fun rv N => X mC_many 15 [] [.int rv] N b (QI K))) : X mC_many 12 [] [.long w0] M b (QI K) := by
  refine x_wf (fun hw => ?_)
  exact x_invS (pc := 12) dC_many_12 (S := []) (As := [.long w0]) mlC_229 hJl_bitCount rfl ⟨by decide, by decide⟩ ⟨Nat.zero_le _, Nat.zero_le _⟩ rfl (Nat.le_of_ble_eq_true rfl) (aftI (b' := b) ⟨Nat.le_refl _, Nat.le_refl _⟩ (fun rv N h => h) h)

theorem vC_many_15 {M : Mm} {b : Nat × Nat} {K : Int32 → Mm → Prop} {w0 : Int32}  
    (h : K w0 M) : X mC_many 15 [] [.int w0] M b (QI K) := by
  refine x_wf (fun hw => ?_)
  refine x_goto (pc := 15) dC_many_15 (t := 19) rfl ?_
  exact x_retQI (pc := 19) dC_many_19 rfl rfl h

theorem dC_reckon_0 : decode (mB mC_reckon) 0 = .ok (.iload_n 1, 1) := op27 (by decide +kernel)
theorem dC_reckon_1 : decode (mB mC_reckon) 1 = .ok (.invokestatic 182, 3) := op184 0 182 (by decide +kernel)
theorem dC_reckon_4 : decode (mB mC_reckon) 4 = .ok (.ifCond .ne 5, 3) := op154 0 5 (by decide +kernel)
theorem dC_reckon_7 : decode (mB mC_reckon) 7 = .ok (.iconst (-1), 1) := op2 (by decide +kernel)
theorem dC_reckon_8 : decode (mB mC_reckon) 8 = .ok (.ireturn, 1) := op172 (by decide +kernel)
theorem dC_reckon_9 : decode (mB mC_reckon) 9 = .ok (.aload_n 0, 1) := op42 (by decide +kernel)
theorem dC_reckon_10 : decode (mB mC_reckon) 10 = .ok (.invokevirtual 212, 3) := op182 0 212 (by decide +kernel)
theorem dC_reckon_13 : decode (mB mC_reckon) 13 = .ok (.aload_n 0, 1) := op42 (by decide +kernel)
theorem dC_reckon_14 : decode (mB mC_reckon) 14 = .ok (.getfield 73, 3) := op180 0 73 (by decide +kernel)
theorem dC_reckon_17 : decode (mB mC_reckon) 17 = .ok (.iload_n 1, 1) := op27 (by decide +kernel)
theorem dC_reckon_18 : decode (mB mC_reckon) 18 = .ok (.invokevirtual 238, 3) := op182 0 238 (by decide +kernel)
theorem dC_reckon_21 : decode (mB mC_reckon) 21 = .ok (.iload_n 2, 1) := op28 (by decide +kernel)
theorem dC_reckon_22 : decode (mB mC_reckon) 22 = .ok (.aload_n 0, 1) := op42 (by decide +kernel)
theorem dC_reckon_23 : decode (mB mC_reckon) 23 = .ok (.getfield 73, 3) := op180 0 73 (by decide +kernel)
theorem dC_reckon_26 : decode (mB mC_reckon) 26 = .ok (.getfield 248, 3) := op180 0 248 (by decide +kernel)
theorem dC_reckon_29 : decode (mB mC_reckon) 29 = .ok (.if_icmp .eq 5, 3) := op159 0 5 (by decide +kernel)
theorem dC_reckon_32 : decode (mB mC_reckon) 32 = .ok (.iconst 1, 1) := op4 (by decide +kernel)
theorem dC_reckon_33 : decode (mB mC_reckon) 33 = .ok (.ireturn, 1) := op172 (by decide +kernel)
theorem dC_reckon_34 : decode (mB mC_reckon) 34 = .ok (.iload_n 3, 1) := op29 (by decide +kernel)
theorem dC_reckon_35 : decode (mB mC_reckon) 35 = .ok (.aload_n 0, 1) := op42 (by decide +kernel)
theorem dC_reckon_36 : decode (mB mC_reckon) 36 = .ok (.getfield 73, 3) := op180 0 73 (by decide +kernel)
theorem dC_reckon_39 : decode (mB mC_reckon) 39 = .ok (.getfield 251, 3) := op180 0 251 (by decide +kernel)
theorem dC_reckon_42 : decode (mB mC_reckon) 42 = .ok (.if_icmp .eq 5, 3) := op159 0 5 (by decide +kernel)
theorem dC_reckon_45 : decode (mB mC_reckon) 45 = .ok (.iconst 2, 1) := op5 (by decide +kernel)
theorem dC_reckon_46 : decode (mB mC_reckon) 46 = .ok (.ireturn, 1) := op172 (by decide +kernel)
theorem dC_reckon_47 : decode (mB mC_reckon) 47 = .ok (.iload 4, 2) := op21 4 (by decide +kernel)
theorem dC_reckon_49 : decode (mB mC_reckon) 49 = .ok (.aload_n 0, 1) := op42 (by decide +kernel)
theorem dC_reckon_50 : decode (mB mC_reckon) 50 = .ok (.getfield 73, 3) := op180 0 73 (by decide +kernel)
theorem dC_reckon_53 : decode (mB mC_reckon) 53 = .ok (.getfield 254, 3) := op180 0 254 (by decide +kernel)
theorem dC_reckon_56 : decode (mB mC_reckon) 56 = .ok (.if_icmp .eq 5, 3) := op159 0 5 (by decide +kernel)
theorem dC_reckon_59 : decode (mB mC_reckon) 59 = .ok (.iconst 3, 1) := op6 (by decide +kernel)
theorem dC_reckon_60 : decode (mB mC_reckon) 60 = .ok (.ireturn, 1) := op172 (by decide +kernel)
theorem dC_reckon_61 : decode (mB mC_reckon) 61 = .ok (.iload 5, 2) := op21 5 (by decide +kernel)
theorem dC_reckon_63 : decode (mB mC_reckon) 63 = .ok (.aload_n 0, 1) := op42 (by decide +kernel)
theorem dC_reckon_64 : decode (mB mC_reckon) 64 = .ok (.getfield 73, 3) := op180 0 73 (by decide +kernel)
theorem dC_reckon_67 : decode (mB mC_reckon) 67 = .ok (.getfield 245, 3) := op180 0 245 (by decide +kernel)
theorem dC_reckon_70 : decode (mB mC_reckon) 70 = .ok (.if_icmp .eq 7, 3) := op159 0 7 (by decide +kernel)
theorem dC_reckon_73 : decode (mB mC_reckon) 73 = .ok (.iconst 4, 1) := op7 (by decide +kernel)
theorem dC_reckon_74 : decode (mB mC_reckon) 74 = .ok (.goto 4, 3) := op167 0 4 (by decide +kernel)
theorem dC_reckon_77 : decode (mB mC_reckon) 77 = .ok (.iconst 0, 1) := op3 (by decide +kernel)
theorem dC_reckon_78 : decode (mB mC_reckon) 78 = .ok (.ireturn, 1) := op172 (by decide +kernel)

theorem vC_reckon_0 {M : Mm} {b : Nat × Nat} {K : Int32 → Mm → Prop} {v0 : Nat} {v1 : Int32} {v2 : Int32} {v3 : Int32} {v4 : Int32} {v5 : Int32}  
    (h : CI mC_isCase [.int v1] M (fun rv N => X mC_reckon 4 [(0, .ref v0), (1, .int v1), (2, .int v2), (3, .int v3), (4, .int v4), (5, .int v5)] [.int rv] N b (QI K))) : X mC_reckon 0 [(0, .ref v0), (1, .int v1), (2, .int v2), (3, .int v3), (4, .int v4), (5, .int v5)] [] M b (QI K) := by
  refine x_wf (fun hw => ?_)
  refine x_iload_n (pc := 0) dC_reckon_0 rfl (q := 1) rfl ?_
  exact x_invS (pc := 1) dC_reckon_1 (S := []) (As := [.int v1]) mlC_182 hC_isCase rfl ⟨by decide, by decide⟩ ⟨Nat.zero_le _, Nat.zero_le _⟩ rfl (Nat.le_of_ble_eq_true rfl) (aftI (b' := b) ⟨Nat.le_refl _, Nat.le_refl _⟩ (fun rv N h => h) h)

theorem vC_reckon_4 {M : Mm} {b : Nat × Nat} {K : Int32 → Mm → Prop} {v0 : Nat} {v1 : Int32} {v2 : Int32} {v3 : Int32} {v4 : Int32} {v5 : Int32} {w0 : Int32} (kv0 : v0 % 64 = 10) 
    (h : (¬ w0 = 0 → (CV mC_weighNow [.ref v0] M (fun N => X mC_reckon 13 [(0, .ref v0), (1, .int v1), (2, .int v2), (3, .int v3), (4, .int v4), (5, .int v5)] [] N b (QI K)))) ∧ (w0 = 0 → (K (-1) M))) : X mC_reckon 4 [(0, .ref v0), (1, .int v1), (2, .int v2), (3, .int v3), (4, .int v4), (5, .int v5)] [.int w0] M b (QI K) := by
  refine x_wf (fun hw => ?_)
  obtain ⟨g1_0, g1_1⟩ := h
  refine x_if_ne (pc := 4) dC_reckon_4 (t := 9) rfl (fun q1 => ?_) (fun q1 => ?_)
  · refine x_aload_n (pc := 9) dC_reckon_9 rfl (q := 0) rfl ?_
    have h := g1_0 q1
    exact x_invV (pc := 10) dC_reckon_10 (c := 10) (S := []) (As := []) mlC_212 hC_weighNow rfl (by decide) rfl kv0 ⟨by decide, by decide⟩ ⟨Nat.zero_le _, Nat.zero_le _⟩ rfl (Nat.le_of_ble_eq_true rfl) (aftV (b' := b) ⟨Nat.le_refl _, Nat.le_refl _⟩ (fun N h => h) h)
  · refine x_iconst (pc := 7) dC_reckon_7 (v := (-1)) rfl ?_
    have h := g1_1 q1
    exact x_retQI (pc := 8) dC_reckon_8 rfl rfl h

theorem vC_reckon_13 {M : Mm} {b : Nat × Nat} {K : Int32 → Mm → Prop} {v0 : Nat} {v1 : Int32} {v2 : Int32} {v3 : Int32} {v4 : Int32} {v5 : Int32} {r1 : Nat} (kv0 : v0 % 64 = 10) (e1 : gr M v0 11 = some r1)
    (h : CV mWe_weigh [.ref r1, .int v1] M (fun N => X mC_reckon 21 [(0, .ref v0), (2, .int v2), (3, .int v3), (4, .int v4), (5, .int v5)] [] N b (QI K))) : X mC_reckon 13 [(0, .ref v0), (1, .int v1), (2, .int v2), (3, .int v3), (4, .int v4), (5, .int v5)] [] M b (QI K) := by
  refine x_wf (fun hw => ?_)
  refine x_aload_n (pc := 13) dC_reckon_13 rfl (q := 0) rfl ?_
  refine x_getR (pc := 14) dC_reckon_14 kv0 flC_73 rfl e1 ?_
  refine x_iload_n (pc := 17) dC_reckon_17 rfl (q := 1) rfl ?_
  exact x_invV (pc := 18) dC_reckon_18 (c := 8) (S := []) (As := [.int v1]) mlC_238 hWe_weigh rfl (by decide) rfl (wfk hw e1 kv0) ⟨by decide, by decide⟩ ⟨Nat.zero_le _, Nat.zero_le _⟩ rfl (Nat.le_of_ble_eq_true rfl) (aftV (b' := b) ⟨Nat.le_refl _, Nat.le_refl _⟩ (fun N h => x_loc [0, 2, 3, 4, 5] rfl h) h)

theorem vC_reckon_21 {M : Mm} {b : Nat × Nat} {K : Int32 → Mm → Prop} {v0 : Nat} {v2 : Int32} {v3 : Int32} {v4 : Int32} {v5 : Int32} {r1 : Nat} (kv0 : v0 % 64 = 10) (e1 : gr M v0 11 = some r1)
    (h : ((v2 = (gi M r1 8) ∧ v3 = (gi M r1 6) ∧ v4 = (gi M r1 7) ∧ v5 = (gi M r1 9)) → (K 0 M)) ∧ ((v2 = (gi M r1 8) ∧ v3 = (gi M r1 6) ∧ v4 = (gi M r1 7) ∧ ¬ v5 = (gi M r1 9)) → (K 4 M)) ∧ ((v2 = (gi M r1 8) ∧ v3 = (gi M r1 6) ∧ ¬ v4 = (gi M r1 7)) → (K 3 M)) ∧ ((v2 = (gi M r1 8) ∧ ¬ v3 = (gi M r1 6)) → (K 2 M)) ∧ (¬ v2 = (gi M r1 8) → (K 1 M))) : X mC_reckon 21 [(0, .ref v0), (2, .int v2), (3, .int v3), (4, .int v4), (5, .int v5)] [] M b (QI K) := by
  refine x_wf (fun hw => ?_)
  refine x_iload_n (pc := 21) dC_reckon_21 rfl (q := 1) rfl ?_
  refine x_aload_n (pc := 22) dC_reckon_22 rfl (q := 0) rfl ?_
  refine x_getR (pc := 23) dC_reckon_23 kv0 flC_73 rfl e1 ?_
  refine x_getI (pc := 26) dC_reckon_26 (wfk hw e1 kv0) flC_248 rfl ?_
  obtain ⟨g1_0, g1_1, g1_2, g1_3, g1_4⟩ := h
  refine x_icmp_eq (pc := 29) dC_reckon_29 (t := 34) rfl (fun q1 => ?_) (fun q1 => ?_)
  · refine x_iload_n (pc := 34) dC_reckon_34 rfl (q := 2) rfl ?_
    refine x_aload_n (pc := 35) dC_reckon_35 rfl (q := 0) rfl ?_
    refine x_getR (pc := 36) dC_reckon_36 kv0 flC_73 rfl e1 ?_
    refine x_getI (pc := 39) dC_reckon_39 (wfk hw e1 kv0) flC_251 rfl ?_
    refine x_icmp_eq (pc := 42) dC_reckon_42 (t := 47) rfl (fun q2 => ?_) (fun q2 => ?_)
    · refine x_iload (pc := 47) dC_reckon_47 (q := 3) rfl ?_
      refine x_aload_n (pc := 49) dC_reckon_49 rfl (q := 0) rfl ?_
      refine x_getR (pc := 50) dC_reckon_50 kv0 flC_73 rfl e1 ?_
      refine x_getI (pc := 53) dC_reckon_53 (wfk hw e1 kv0) flC_254 rfl ?_
      refine x_icmp_eq (pc := 56) dC_reckon_56 (t := 61) rfl (fun q3 => ?_) (fun q3 => ?_)
      · refine x_iload (pc := 61) dC_reckon_61 (q := 4) rfl ?_
        refine x_aload_n (pc := 63) dC_reckon_63 rfl (q := 0) rfl ?_
        refine x_getR (pc := 64) dC_reckon_64 kv0 flC_73 rfl e1 ?_
        refine x_getI (pc := 67) dC_reckon_67 (wfk hw e1 kv0) flC_245 rfl ?_
        refine x_icmp_eq (pc := 70) dC_reckon_70 (t := 77) rfl (fun q4 => ?_) (fun q4 => ?_)
        · refine x_iconst (pc := 77) dC_reckon_77 (v := 0) rfl ?_
          have h := g1_0 ⟨q1, q2, q3, q4⟩
          exact x_retQI (pc := 78) dC_reckon_78 rfl rfl h
        · refine x_iconst (pc := 73) dC_reckon_73 (v := 4) rfl ?_
          refine x_goto (pc := 74) dC_reckon_74 (t := 78) rfl ?_
          have h := g1_1 ⟨q1, q2, q3, q4⟩
          exact x_retQI (pc := 78) dC_reckon_78 rfl rfl h
      · refine x_iconst (pc := 59) dC_reckon_59 (v := 3) rfl ?_
        have h := g1_2 ⟨q1, q2, q3⟩
        exact x_retQI (pc := 60) dC_reckon_60 rfl rfl h
    · refine x_iconst (pc := 45) dC_reckon_45 (v := 2) rfl ?_
      have h := g1_3 ⟨q1, q2⟩
      exact x_retQI (pc := 46) dC_reckon_46 rfl rfl h
  · refine x_iconst (pc := 32) dC_reckon_32 (v := 1) rfl ?_
    have h := g1_4 q1
    exact x_retQI (pc := 33) dC_reckon_33 rfl rfl h

