/-! ===== Weighing over a library without words ===== -/
def ZW (M : Mm) (rr : Nat) : Prop := ZM M ∧ gr M 5192 1 = some rr ∧ (rr = 4995 ∨ rr = 5059)
theorem zwk {M : Mm} {rr : Nat} (z : ZW M rr) : rr % 64 = 3 := by rcases z.2.2 with rfl | rfl <;> rfl
theorem zwr {M : Mm} {rr j : Nat} {v : Int32} (z : ZW M rr) (h : rin zl 4995 j v = true) (h2 : rin zl 5059 j v = true) : gi M rr j = v := by
  rcases z.2.2 with rfl | rfl
  · exact zf z.1 h
  · exact zf z.1 h2
theorem zw_si {M : Mm} {rr a j : Nat} {v : Int32} (z : ZW M rr) (h : rok yl a j v = true) (h2 : rok zl a j v = true) : ZW (si M a j v) rr := ⟨zm_si z.1 h h2, z.2⟩
theorem zw_sc {M : Mm} {rr a j : Nat} {v : Int32} (z : ZW M rr) (h : rno yl a = true) (h2 : rno zl a = true) : ZW (si M a j v) rr := ⟨zm_sc z.1 h h2, z.2⟩
theorem zLi_mainWords {M : Mm} {rr : Nat} {K : Int32 → Mm → Prop} (z : ZM M) (k : rr % 64 = 3) (h : K 0 M) : CI mLi_mainWords [.ref 385, .ref rr] M K := by
  refine call_of rfl (Nat.le_of_ble_eq_true rfl) rfl ?_
  refine vLi_mainWords_0 ?_
  have key := lp 8 (P := fun i => X mLi_mainWords 4 [(0, .ref 385), (1, .ref rr), (2, .int 0), (3, .int (nI i))] [] M (mC mLi_mainWords, mS mLi_mainWords) (QI K)) (fun i hi ih => ?_) ?_
  · exact key
  · refine vLi_mainWords_4 k ⟨fun q => absurd q (nge rfl (by decide) hi), fun _ => ?_⟩
    refine sRu_isMain k ?_
    refine vLi_mainWords_16 rfl (lr7 (z_lr z)) ⟨fun _ => vin hi (by decide), ?_⟩
    have e : gi M (385 + 460) i = 0 := za z 8 (by decide +kernel) hi
    rw [ncl (by omega), e, ite_self, Int32.or_zero, nI_s]
    exact ih
  · exact vLi_mainWords_4 k ⟨fun _ => h, fun q => absurd (nself rfl) q⟩
theorem zLi_counting {M : Mm} {rr : Nat} {bk : Int32} {K : Int32 → Mm → Prop} (z : ZM M) (k : rr % 64 = 3) (h : K 0 M) : CI mLi_counting [.ref 385, .ref rr, .int bk] M K := by
  refine call_of rfl (Nat.le_of_ble_eq_true rfl) rfl ?_
  refine vLi_counting_0 rfl (zLi_mainWords z k ?_)
  refine vLi_counting_5 ?_
  have key := lp 8 (P := fun i => X mLi_counting 9 [(0, .ref 385), (1, .ref rr), (2, .int bk), (3, .int 0), (4, .int (nI i))] [] M (mC mLi_counting, mS mLi_counting) (QI K)) (fun i hi ih => ?_) ?_
  · exact key
  · refine vLi_counting_9 rfl k ⟨fun q => absurd q.1 (nge rfl (by decide) hi), fun q => absurd q.1 (nge rfl (by decide) hi), fun _ => sC_holds ?_⟩
    refine vLi_counting_22 rfl k (lr2 (z_lr z)) (lr8 (z_lr z)) ⟨fun _ => vin hi (by decide), fun _ => vin hi (by decide), fun _ => ?_, fun _ => ?_⟩
    · rw [nI_s]; exact ih
    · have e : gi M (385 + 524) i = 0 := za z 8 (by decide +kernel) hi
      rw [ncl (by omega), e, Int32.or_zero, nI_s]; exact ih
  · exact vLi_counting_9 rfl k ⟨fun _ => by rw [Int32.zero_and, Int32.zero_and]; exact h, fun _ => by rw [Int32.zero_and, Int32.zero_and]; exact h, fun q => absurd (nself rfl) q⟩
theorem zLi_tellingBooks {M : Mm} {rr : Nat} {K : Int32 → Mm → Prop} (z : ZM M) (k : rr % 64 = 3) (h : K 0 M) : CI mLi_tellingBooks [.ref 385, .ref rr] M K := by
  refine call_of rfl (Nat.le_of_ble_eq_true rfl) rfl ?_
  refine vLi_tellingBooks_0 rfl (zLi_mainWords z k ?_)
  refine vLi_tellingBooks_5 rfl ?_
  generalize ((0 ||| gi M 385 10) ^^^ (-1) : Int32) = x
  have key := lp 8 (P := fun i => X mLi_tellingBooks 18 [(0, .ref 385), (1, .ref rr), (2, .int x), (3, .int 0), (4, .int (nI i))] [] M (mC mLi_tellingBooks, mS mLi_tellingBooks) (QI K)) (fun i hi ih => ?_) ?_
  · exact key
  · have e : gi M (385 + 524) (nI i).toNatClampNeg = 0 := by rw [ncl (by omega)]; exact za z 8 (by decide +kernel) hi
    refine vLi_tellingBooks_18 rfl k (lr2 (z_lr z)) (lr8 (z_lr z)) ⟨fun _ => vin hi (by decide), fun _ => vin hi (by decide), fun q => absurd q (nge rfl (by decide) hi), fun _ => ?_, fun q => absurd (by rw [e, Int32.zero_and]) q.2.2⟩
    rw [nI_s]; exact ih
  · exact vLi_tellingBooks_18 rfl k (lr2 (z_lr z)) (lr8 (z_lr z)) ⟨fun q => absurd (nself rfl) q, fun q => absurd (nself rfl) q.1, fun _ => h, fun q => q.elim (fun q => absurd (nself rfl) q.1) (fun q => absurd (nself rfl) q.1), fun q => absurd (nself rfl) q.1⟩
theorem zWe_begin {M : Mm} {rr : Nat} {bk : Int32} {K : Mm → Prop} (z : ZM M) (hr : rr = 4995 ∨ rr = 5059) (h : ∀ N, ZW N rr → K N) : CV mWe_begin [.ref 5192, .ref 385, .ref rr, .int bk] M K := by
  have k : rr % 64 = 3 := by rcases hr with rfl | rfl <;> rfl
  refine call_of rfl (Nat.le_of_ble_eq_true rfl) rfl ?_
  have z1 : ZM (sr (sr M 5192 0 (some 385)) 5192 1 (some rr)) := zm_sr (zm_sr z (by decide) (by decide +kernel)) (by decide) (by rcases hr with rfl | rfl <;> decide +kernel)
  refine vWe_begin_0 rfl rfl k (zLi_counting z1 k ?_)
  refine vWe_begin_17 rfl (h _ ⟨zm_si z1 (by decide +kernel) (by decide +kernel), ?_, hr⟩)
  show gr (sr (sr M 5192 0 (some 385)) 5192 1 (some rr)) 5192 1 = some rr
  rw [gr_sr, if_pos ⟨rfl, rfl⟩]
def agr (y n : Int32) : Int32 := if n = 0 then (if y = 0 then -4 else 1) else (if y = 0 then 0 else -4)
theorem zWe_settled {M : Mm} {rr : Nat} {y n w : Int32} {K : Int32 → Mm → Prop} (e : gr M 5192 1 = some rr) (hz : y = 0 ∨ n = 0) (h : K (agr y n) M) : CI mWe_settled [.ref 5192, .int y, .int n, .int w] M K := by
  refine call_of rfl (Nat.le_of_ble_eq_true rfl) rfl ?_
  have no : ∀ P : Prop, (¬ y = 0 ∧ ¬ n = 0 ∧ P) → False := fun P q => hz.elim q.1 q.2.1
  refine vWe_settled_0 rfl e ⟨fun _ => sC_agreed (vWe_settled_13 h), fun q => (no _ q).elim, fun q => (no _ q).elim, fun q => (no _ q).elim, fun q => (no _ q).elim⟩
theorem z_his {M : Mm} {d : Nat} {x y : Int32} (z : ZM M) (hd : d < 8) : (gi M (385 + 460) (nI d).toNatClampNeg &&& x) &&& y = 0 := by
  have e : gi M (385 + 460) d = 0 := za z 8 (by decide +kernel) hd
  rw [ncl (by omega), e, Int32.zero_and, Int32.zero_and]
theorem zWe_opinion {M : Mm} {rr d c : Nat} {K : Int32 → Mm → Prop} (z : ZW M rr) (hd : d < 8) (hc : c < 64) (h : K (-4) M) : CI mWe_opinion [.ref 5192, .int (nI d), .int (nI c)] M K := by
  refine call_of rfl (Nat.le_of_ble_eq_true rfl) rfl ?_
  refine vWe_opinion_0 rfl (g5192_0 z.1) (lr7 (z_lr z.1)) (lr3 (z_lr z.1)) (lr4 (z_lr z.1)) ⟨vin hd (by decide), vin hc (by decide), vin hc (by decide), ?_⟩
  rw [z_his z.1 hd, z_his z.1 hd]
  exact zWe_settled z.2.1 (Or.inl rfl) (vWe_opinion_42 h)
theorem zWe_clashes {M : Mm} {rr d c : Nat} {K : Int32 → Mm → Prop} (z : ZW M rr) (hd : d < 8) (hc : c < 64) (h : K 0 M) : CI mWe_clashes [.ref 5192, .int (nI d), .int (nI c)] M K := by
  refine call_of rfl (Nat.le_of_ble_eq_true rfl) rfl ?_
  exact vWe_clashes_0 rfl (g5192_0 z.1) (lr7 (z_lr z.1)) (lr3 (z_lr z.1)) (lr4 (z_lr z.1)) ⟨vin hd (by decide), vin hc (by decide), fun _ => vin hc (by decide), fun _ => h, fun q => absurd (z_his z.1 hd) q.1⟩
theorem zWe_lawIn {M : Mm} {rr c : Nat} {K : Int32 → Mm → Prop} (z : ZW M rr) (hc : c < 64) (h : K (-4) M) : CI mWe_lawIn [.ref 5192, .int (nI c)] M K := by
  refine call_of rfl (Nat.le_of_ble_eq_true rfl) rfl ?_
  have e6 : gi M rr 6 = 1 := zwr z (by decide +kernel) (by decide +kernel)
  have e : gi M (385 + 333) c = -4 := za z.1 64 (by decide +kernel) hc
  refine vWe_lawIn_0 rfl z.2.1 (g5192_0 z.1) (lr5 (z_lr z.1)) (lr6 (z_lr z.1)) ⟨fun _ => vin hc (by decide), fun _ => vin hc (by decide), fun _ => ?_, fun q => absurd (e6.symm.trans q.2) (by decide), fun q => absurd (e6.symm.trans q) (by decide)⟩
  rw [ncl (by omega), e]; exact h
theorem zWe_headSaying {M : Mm} {rr : Nat} {K : Int32 → Mm → Prop} (z : ZW M rr) (h : K (-4) M) : CI mWe_headSaying [.ref 5192] M K := by
  refine call_of rfl (Nat.le_of_ble_eq_true rfl) rfl ?_
  have l : gi M rr 4 < 0 := by rw [zwr (j := 4) (v := -4) z (by decide +kernel) (by decide +kernel)]; decide
  exact vWe_headSaying_0 rfl z.2.1 (g5192_3 z.1) ⟨fun q => absurd l q.1, fun _ => h, fun q => absurd l q.1⟩
theorem zWe_decider {M : Mm} {rr : Nat} {y n hs : Int32} {K : Int32 → Mm → Prop} (z : ZW M rr) (hl : gi M 5192 5 = -4) (h : K (if y = n then (if hs = -4 then 0 else 3) else 2) M) : CI mWe_decider [.ref 5192, .int y, .int n, .int hs] M K := by
  refine call_of rfl (Nat.le_of_ble_eq_true rfl) rfl ?_
  have e5 : gi M rr 5 = -4 := zwr z (by decide +kernel) (by decide +kernel)
  refine vWe_decider_0 rfl z.2.1 ⟨fun q => ?_, fun q => absurd e5 q.2.2.2, fun q => ?_, fun q => ?_, fun q => absurd hl q⟩
  · rwa [if_pos q.2.1, if_pos q.2.2.1] at h
  · rwa [if_pos q.2.1, if_neg q.2.2] at h
  · rwa [if_neg q.2] at h
theorem zWe_answerBy {M : Mm} {rr : Nat} {w y n hs : Int32} {K : Int32 → Mm → Prop} (z : ZW M rr) (h : K (if w = 1 then gi M 5192 5 else if w = 2 then (if y ≤ n then 0 else 1) else if w = 3 then hs else -4) M) : CI mWe_answerBy [.ref 5192, .int w, .int y, .int n, .int hs] M K := by
  refine call_of rfl (Nat.le_of_ble_eq_true rfl) rfl ?_
  have e5 : gi M rr 5 = -4 := zwr z (by decide +kernel) (by decide +kernel)
  refine vWe_answerBy_0 rfl z.2.1 ⟨fun q => ?_, fun q => ?_, fun q => ?_, fun q => ?_, fun q => ?_⟩
  · rwa [if_pos q] at h
  · rwa [if_neg (by rw [q]; decide), if_pos q] at h
  · rwa [if_neg (by rw [q]; decide), if_neg (by rw [q]; decide), if_pos q] at h
  · rwa [if_neg (by rw [q]; decide), if_neg (by rw [q]; decide), if_neg (by rw [q]; decide), ← e5] at h
  · rwa [if_neg q.1, if_neg q.2.1, if_neg q.2.2.1] at h
/-- a case has been weighed -/
def WW (M : Mm) (rr c : Nat) : Prop := ZW M rr ∧ gi M 5192 4 = nI c ∧ gi M 5192 5 = -4 ∧ gi M 5192 6 = 0 ∧ gi M 5192 7 = 0 ∧ gi M 5192 8 = 0 ∧ gi M 5192 9 = -4 ∧ ∀ e, e < 8 → gi M 5261 e = -4
def WI (M : Mm) (rr c d : Nat) : Prop := ZW M rr ∧ gi M 5192 4 = nI c ∧ gi M 5192 5 = -4 ∧ gi M 5192 6 = 0 ∧ gi M 5192 7 = 0 ∧ ∀ e, e < d → gi M 5261 e = -4
theorem zWe_weigh {M : Mm} {rr c : Nat} {K : Mm → Prop} (z : ZW M rr) (hc : c < 64) (h : ∀ N, WW N rr c → K N) : CV mWe_weigh [.ref 5192, .int (nI c)] M K := by
  refine call_of rfl (Nat.le_of_ble_eq_true rfl) rfl ?_
  refine vWe_weigh_0 rfl (zWe_lawIn (zw_si z (by rfl) (by rfl)) hc ?_)
  refine vWe_weigh_11 rfl rfl ?_
  have key := lp 8 (P := fun d => ∀ N, WI N rr c d → X mWe_weigh 26 [(0, .ref 5192), (1, .int (nI c)), (2, .int (nI d))] [] N (mC mWe_weigh, mS mWe_weigh) (QV K)) (fun d hd ih N w => ?_) ?_
  · refine key _ ⟨zw_si (zw_si (zw_si (zw_si z (by rfl) (by rfl)) (by decide +kernel) (by decide +kernel)) (by decide +kernel) (by decide +kernel)) (by decide +kernel) (by decide +kernel), ?_, ?_, ?_, ?_, fun e he => absurd he (Nat.not_lt_zero e)⟩
    · simp only [gi_si]; simp
    · simp only [gi_si]; simp
    · simp only [gi_si]; simp
    · simp only [gi_si]; simp
  · refine vWe_weigh_26 rfl ⟨fun q => absurd q (nge rfl (by decide) hd), fun _ => zWe_opinion w.1 hd hc ?_⟩
    refine vWe_weigh_38 rfl (g5192_3 w.1.1) ⟨vin hd (by decide), ?_⟩
    obtain ⟨wz, w4, w5, w6, w7, wo⟩ := w
    rw [ncl (by omega), nI_s]
    refine ih _ ⟨?_, ?_, ?_, ?_, ?_, ?_⟩
    · refine zw_si (zw_si (zw_sc wz (by decide +kernel) (by decide +kernel)) (by rfl) (by rfl)) (by rfl) (by rfl)
    · simp [gi_si, w4]
    · simp [gi_si, w5]
    · simp [gi_si, w6]
    · simp [gi_si, w7]
    · intro e he
      simp only [gi_si]
      by_cases q : e = d
      · simp [q]
      · simp [q, wo e (by omega)]
  · intro N w
    obtain ⟨wz, w4, w5, w6, w7, wo⟩ := w
    refine vWe_weigh_26 rfl ⟨fun _ => zWe_headSaying wz ?_, fun q => absurd (nself rfl) q⟩
    refine vWe_weigh_93 rfl (zWe_decider wz w5 ?_)
    rw [w6, w7, if_pos rfl, if_pos rfl]
    refine vWe_weigh_108 rfl rfl (zWe_answerBy (zw_si wz (by decide +kernel) (by decide +kernel)) ?_)
    have e8 : gi (si N 5192 8 0) 5192 8 = 0 := by rw [gi_si, if_pos ⟨rfl, rfl⟩]
    rw [e8, if_neg (by decide), if_neg (by decide), if_neg (by decide)]
    refine vWe_weigh_129 rfl (h _ ⟨zw_si (zw_si wz (by decide +kernel) (by decide +kernel)) (by decide +kernel) (by decide +kernel), ?_, ?_, ?_, ?_, ?_, ?_, ?_⟩)
    · simp [gi_si, w4]
    · simp [gi_si, w5]
    · simp [gi_si, w6]
    · simp [gi_si, w7]
    · simp [gi_si]
    · simp [gi_si]
    · intro e he
      simp [gi_si, wo e he]
theorem zWe_heldIn {M : Mm} {rr c : Nat} {K : Int32 → Mm → Prop} (z : ZW M rr) (hc : c < 64) (h : ∀ N, WW N rr c → K (-4) N) : CI mWe_heldIn [.ref 5192, .int (nI c)] M K := by
  refine call_of rfl (Nat.le_of_ble_eq_true rfl) rfl ?_
  refine vWe_heldIn_0 rfl (zWe_weigh z hc (fun N w => vWe_heldIn_5 rfl ?_))
  rw [w.2.2.2.2.2.2.1]; exact h N w
