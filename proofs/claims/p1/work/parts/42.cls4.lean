/-! ===== texts ===== -/
section CLS4
variable {M : Mm}
theorem zTa_append {v : Int64} {K : Int32 → Mm → Prop} (z : ZM M) (h : ∀ N, YM N → gr N 10 0 = some 70 → gi N 70 1 = 8 → K 1 N) : CI mTa_append [.ref 70, .long v] M K := by
  have e : gi M 70 1 = 0 := zf z (by decide +kernel)
  refine call_of rfl (Nat.le_of_ble_eq_true rfl) rfl (vTa_append_0 rfl ⟨fun _ => ?_, fun q => absurd (by rw [e]; decide) q⟩)
  have key := lp 8 (P := fun i => ∀ N, ZM N → X mTa_append 14 [(0, .ref 70), (1, .long v), (3, .int (nI i))] [] N (mC mTa_append, mS mTa_append) (QI K)) (fun i hi ih N y => ?_) (fun N y => ?_)
  · exact key M z
  · have e : gi N 70 1 = 0 := zf y (by decide +kernel)
    refine vTa_append_14 rfl (g70_0 y) ⟨fun q => absurd q (nge rfl (by decide) hi), fun _ => ⟨?_, ?_⟩⟩
    · rw [e, Int32.zero_add]; exact vin (by omega) (by decide)
    · rw [nI_s]; exact ih _ (zm_sc y (by decide +kernel) (by decide +kernel))
  · have e : gi N 70 1 = 0 := zf y (by decide +kernel)
    refine vTa_append_14 rfl (g70_0 y) ⟨fun _ => ?_, fun q => absurd (nself rfl) q⟩
    rw [e]
    exact h _ (ym_si y.1 (rno_ok (by decide +kernel) _ _)) (g10_0 (M := N) y) (by rw [gi_si, if_pos ⟨rfl, rfl⟩]; decide)
theorem zC_feed {v : Int64} {K : Int32 → Mm → Prop} (z : ZM M) (h : ∀ N, YM N → K 8 N) : CI mC_feed [.ref 10, .long v] M K := by
  refine call_of rfl (Nat.le_of_ble_eq_true rfl) rfl (vC_feed_0 rfl (g10_0 z) (zTa_append z (fun N y e1 e2 => vC_feed_8 rfl e1 ?_)))
  rw [if_neg (by decide), e2]; exact h N y
theorem zTa_behindAll {a b : Int32} {K : Int32 → Mm → Prop} (z : ZM M) (h : K 0 M) : CI mTa_behindAll [.ref 70, .int a, .int b, .int 0] M K := by
  have e : gi M 70 1 = 0 := zf z (by decide +kernel)
  have l : gi M 70 1 ≤ 0 := by rw [e]; decide
  refine call_of rfl (Nat.le_of_ble_eq_true rfl) rfl (vTa_behindAll_0 ?_)
  rw [if_pos (by decide)]
  exact vTa_behindAll_11 rfl (g70_0 z) ⟨fun q => absurd l q, fun q => absurd l q.1, fun _ => h, fun q => absurd l q.1⟩
theorem zTa_byteAt {K : Int32 → Mm → Prop} (z : ZM M) (h : K (-1) M) : CI mTa_byteAt [.ref 70, .int 0] M K := by
  have e : gi M 70 1 = 0 := zf z (by decide +kernel)
  have l : gi M 70 1 ≤ 0 := by rw [e]; decide
  exact call_of rfl (Nat.le_of_ble_eq_true rfl) rfl (vTa_byteAt_0 rfl (g70_0 z) ⟨fun q => absurd l q.2, fun _ => h, fun q => absurd l q.2⟩)
theorem zTo_advance {K : Mm → Prop} (z : ZM M) (h3 : gi M 199 3 = 0) (h5 : gi M 199 5 = 0) (h : ∀ N, ZM N → gi N 199 1 = 1 → gi N 199 5 = 0 → K N) : CV mTo_advance [.ref 199] M K := by
  refine call_of rfl (Nat.le_of_ble_eq_true rfl) rfl (vTo_advance_0 rfl (g199_0 z) ?_)
  rw [h3]
  refine zTa_behindAll z ?_
  have z2 : ZM (si (si M 199 2 0) 199 3 ((gi (si M 199 2 0) 199 2) + 1)) := zm_sc (zm_sc z (by decide +kernel) (by decide +kernel)) (by decide +kernel) (by decide +kernel)
  refine vTo_advance_16 rfl rfl (g199_0 z) ?_
  rw [show gi (si (si M 199 2 0) 199 3 ((gi (si M 199 2 0) 199 2) + 1)) 199 2 = 0 from by simp [gi_si]]
  refine zTa_byteAt z2 ?_
  refine vTo_advance_40 rfl (g199_0 z2) ⟨fun q => ?_, fun q => absurd q.1 (by decide), fun _ => ?_⟩
  · rcases q with q | q <;> exact absurd q.1 (by decide)
  · refine vTo_advance_213 rfl ⟨fun _ => h _ (zm_sc (zm_sc z2 (by decide +kernel) (by decide +kernel)) (by decide +kernel) (by decide +kernel)) ?_ ?_, fun q => ?_⟩
    · simp [gi_si]
    · simp [gi_si, h5]
    · simp [gi_si] at q
theorem sTo_begin {K : Mm → Prop} (h : K (si (si (si (si (si M 199 1 0) 199 2 0) 199 3 0) 199 5 0) 199 6 0)) : CV mTo_begin [.ref 199] M K := call_of rfl (Nat.le_of_ble_eq_true rfl) rfl (vTo_begin_0 rfl h)
theorem zm_begin (z : ZM M) : ZM (si (si (si (si (si M 199 1 0) 199 2 0) 199 3 0) 199 5 0) 199 6 0) := zm_sc (zm_sc (zm_sc (zm_sc (zm_sc z (by decide +kernel) (by decide +kernel)) (by decide +kernel) (by decide +kernel)) (by decide +kernel) (by decide +kernel)) (by decide +kernel) (by decide +kernel)) (by decide +kernel) (by decide +kernel)
theorem zLr_readInto {K : Int32 → Mm → Prop} (z : ZM M) (h : ∀ N, ZM N → gi N 199 5 = 0 → K 0 N) : CI mLr_readInto [.ref 258, .ref 2689] M K := by
  refine call_of rfl (Nat.le_of_ble_eq_true rfl) rfl (vLr_readInto_0 rfl (sLi_clear (z_lr2 z) ?_))
  have e : fl (si M 2689 1 0) (2689 + 140) 8 2 = M := by
    rw [si_same M 2689 1 0 (zf z (by decide +kernel)), fl_same]
    intro j hj; exact za z 8 (by decide +kernel) hj
  rw [e]
  refine vLr_readInto_4 rfl (g258_0 z) (sTo_begin ?_)
  refine vLr_readInto_11 rfl (g258_0 (zm_begin z)) (zTo_advance (zm_sc (zm_begin z) (by decide +kernel) (by decide +kernel)) (by simp [gi_si]) (by simp [gi_si]) (fun N y e1 e5 => ?_))
  refine vLr_readInto_27 rfl (g258_0 y) ⟨fun _ => ?_, fun q => absurd e1 q.2.2.1, fun q => absurd e1 q.2.2.1⟩
  have l : gi N 2689 1 ≤ 0 := by rw [zf (v := 0) y (by decide +kernel)]; decide
  refine call_of rfl (Nat.le_of_ble_eq_true rfl) rfl (vLr_findWrongFollowers_0 (vLr_findWrongFollowers_2 rfl rfl (g258_0 y) (lr0 (z_lr2 y)) ⟨fun _ => ?_, fun q => absurd l q.1⟩))
  refine vLr_readInto_165 rfl (g258_0 y) ?_
  rw [e5, if_pos rfl]; exact h N y e5
theorem st0_same (z : ZM M) : st0 M 2689 = M := by
  have e1 : sw0 M 2689 = M := by
    unfold sw0
    rw [fl_same M _ 8 0 (fun j hj => za z 8 (by decide +kernel) hj), fl_same M _ 8 0 (fun j hj => za z 8 (by decide +kernel) hj), si_same M 2689 10 0 (zf z (by decide +kernel)), si_same M 2689 11 0 (zf z (by decide +kernel))]
  have e2 : fr0 M 2689 = M := by
    unfold fr0
    rw [si_same M 2689 12 0 (zf z (by decide +kernel)), si_same M 2689 13 0 (zf z (by decide +kernel))]
  have e3 : so0 M 2689 = M := by
    unfold so0
    rw [fl_same M _ 64 0 (fun j hj => za z 64 (by decide +kernel) hj), fl_same M _ 64 0 (fun j hj => za z 64 (by decide +kernel) hj)]
  unfold st0
  rw [e1, e2, e3, fl_same M _ 7 0 (fun j hj => za z 7 (by decide +kernel) hj)]
  unfold al0
  rw [fl_same M _ 64 (-4) (fun j hj => za z 64 (by decide +kernel) hj), fl_same M _ 64 (-4) (fun j hj => za z 64 (by decide +kernel) hj)]
theorem zC_library {K : Int32 → Mm → Prop} (z : ZM M) (h : ∀ N, YM N → K 0 N) : CI mC_library [.ref 10] M K := by
  refine call_of rfl (Nat.le_of_ble_eq_true rfl) rfl (vC_library_0 rfl (g10_2 z) (g10_5 z) (zLr_readInto z (fun N y e => ?_)))
  refine vC_library_11 rfl (g10_5 y) ⟨fun q => absurd q (by decide), fun _ => sLi_settle0 (z_lr2 y) (zf y (by decide +kernel)) ?_⟩
  rw [st0_same y]
  refine vC_library_23 rfl (g10_4 y) (g10_5 y) (vC_library_48 rfl ?_)
  refine call_of rfl (Nat.le_of_ble_eq_true rfl) rfl (vC_afterText_0 (r1 := 70) (r2 := 199) rfl ?_ ?_ ?_)
  · rw [gr_si, gr_sr, if_neg (by decide), gr_sr, if_neg (by decide)]; exact g10_0 y
  · rw [gr_si, gr_sr, if_neg (by decide), gr_sr, if_neg (by decide)]; exact g10_1 y
  · rw [if_neg (by decide)]
    refine vC_library_53 (h _ ?_)
    refine ym_si (ym_si (ym_si (ym_sr (ym_sr y.1 (by decide)) (by decide)) (rno_ok (by decide +kernel) _ _)) (rno_ok (by decide +kernel) _ _)) (rno_ok (by decide +kernel) _ _)
theorem zRr_readInto {K : Int32 → Mm → Prop} (z : ZM M) (h : ∀ N, ZM N → gi N 199 5 = 0 → K 0 N) : CI mRr_readInto [.ref 324, .ref 5123] M K := by
  refine call_of rfl (Nat.le_of_ble_eq_true rfl) rfl (vRr_readInto_0 rfl (sRu_clear rfl ?_))
  rw [si_same M 5123 0 31 (zf z (by decide +kernel)), si_same M 5123 1 2 (zf z (by decide +kernel)), si_same M 5123 2 0 (zf z (by decide +kernel)), si_same M 5123 3 0 (zf z (by decide +kernel)), si_same M 5123 4 (-4) (zf z (by decide +kernel)), si_same M 5123 5 (-4) (zf z (by decide +kernel)), si_same M 5123 6 1 (zf z (by decide +kernel))]
  refine vRr_readInto_4 rfl (g324_0 z) (sTo_begin ?_)
  refine vRr_readInto_11 rfl (g324_0 (zm_begin z)) (zTo_advance (zm_begin z) (by simp [gi_si]) (by simp [gi_si]) (fun N y e1 e5 => ?_))
  refine vRr_readInto_22 rfl (g324_0 y) ⟨fun _ => ?_, fun q => absurd e1 q.2.2.1, fun q => absurd e1 q.2.2.1⟩
  rw [e5, if_pos rfl]; exact h N y e5
theorem zC_rule {K : Int32 → Mm → Prop} (z : ZM M) (h : ∀ N, YM N → K 0 N) : CI mC_rule [.ref 10] M K := by
  refine call_of rfl (Nat.le_of_ble_eq_true rfl) rfl (vC_rule_0 rfl (g10_3 z) (g10_8 z) (zRr_readInto z (fun N y e => ?_)))
  refine vC_rule_11 rfl (g10_6 y) (g10_8 y) ⟨fun q => absurd q (by decide), fun _ => vC_rule_34 rfl ?_⟩
  refine call_of rfl (Nat.le_of_ble_eq_true rfl) rfl (vC_afterText_0 (r1 := 70) (r2 := 199) rfl ?_ ?_ ?_)
  · rw [gr_sr, if_neg (by decide), gr_sr, if_neg (by decide)]; exact g10_0 y
  · rw [gr_sr, if_neg (by decide), gr_sr, if_neg (by decide)]; exact g10_1 y
  · rw [if_neg (by decide)]
    refine vC_rule_39 (h _ ?_)
    refine ym_si (ym_si (ym_sr (ym_sr y.1 (by decide)) (by decide)) (rno_ok (by decide +kernel) _ _)) (rno_ok (by decide +kernel) _ _)
end CLS4
/-! ===== words found ===== -/
def ctC (m : Int32) : Nat → Int32
  | 0 => 0
  | c + 1 => ctC m c + (if (m &&& (nI c ^^^ (-1))) = 0 then 1 else 0)
def fTurns (d a m : Int32) : Int32 := if isD d && (isE a && isC m) then (if ((ushr 31 d) &&& 1) = 1 then ctC m 64 else -2) else -1
section CLS5
variable {M : Mm}
theorem zC_turns {d a m : Int32} {K : Int32 → Mm → Prop} (z : ZM M) (h : ∀ N, YM N → K (fTurns d a m) N) : CI mC_turns [.ref 10, .int d, .int a, .int m] M K := by
  refine call_of rfl (Nat.le_of_ble_eq_true rfl) rfl (vC_turns_0 (sC_isDoctor (fun q => ?_) (fun i hi e => ?_)))
  · refine vC_turns_4 ⟨fun _ => ?_, fun q => absurd rfl q⟩
    have hh := h M z.1
    rwa [fTurns, nD q, Bool.false_and, if_neg (by decide)] at hh
  · subst e
    refine vC_turns_4 ⟨fun q => absurd q (by decide), fun _ => sC_isEither (fun q1 q2 => ?_) (fun qa => ?_)⟩
    · refine vC_turns_11 ⟨fun _ => ?_, fun q => absurd rfl q⟩
      have hh := h M z.1
      rwa [fTurns, nE q1 q2, Bool.false_and, Bool.and_false, if_neg (by decide)] at hh
    · refine vC_turns_11 ⟨fun q => absurd q (by decide), fun _ => sC_isCase (fun q => ?_) (fun j hj e => ?_)⟩
      · refine vC_turns_18 rfl (g10_6 z) ⟨fun q => absurd rfl q, fun _ => ?_⟩
        have hh := h M z.1
        rwa [fTurns, nC q, Bool.and_false, Bool.and_false, if_neg (by decide)] at hh
      · subst e
        rw [fTurns, yD hi, yE qa, yC hj, if_pos (by decide)] at h
        refine vC_turns_18 rfl (g10_6 z) ⟨fun _ => sRu_isMain rfl ?_, fun q => absurd q (by decide)⟩
        rw [zf (v := 31) z (by decide +kernel)]
        refine vC_turns_31 rfl ⟨fun q => zC_weighNow z (fun N y => vC_turns_41 ?_), fun q => ?_⟩
        · have q1 : ((ushr 31 (nI i)) &&& 1) = 1 := by
            by_cases l : ((ushr 31 (nI i)) &&& 1) = 1
            · exact l
            · rw [if_neg l] at q; exact absurd rfl q
          rw [if_pos q1] at h
          have key := lp 64 (P := fun c => ∀ N, ZW N 4995 → X mC_turns 47 [(0, .ref 10), (1, .int (nI i)), (2, .int a), (3, .int (nI j)), (4, .int (ctC (nI j) c)), (5, .int (nI c))] [] N (mC mC_turns, mS mC_turns) (QI K)) (fun c hc ih N y => ?_) (fun N y => ?_)
          · exact key N y
          · refine vC_turns_47 rfl (g10_11 y.1) ⟨fun q => absurd q (nge rfl (by decide) hc), fun q => ?_, fun q => zWe_weigh y hc (fun N y => vC_turns_72 rfl (g10_11 y.1.1) (sJi_bitCount (fun r hr => vC_turns_84 rfl (zWe_turnsBy y hc hi qa (vC_turns_87 ?_)))))⟩
            · have := ih N y
              rw [ctC, if_neg q.2, Int32.add_zero] at this
              rw [nI_s]; exact this
            · have := ih N y.1
              rw [ctC, if_pos q.2] at this
              rw [nI_s, if_neg (by decide)]; exact this
          · exact vC_turns_47 rfl (g10_11 y.1) ⟨fun _ => h N y.1.1, fun q => absurd (nself rfl) q.1, fun q => absurd (nself rfl) q.1⟩
        · have q1 : ¬ ((ushr 31 (nI i)) &&& 1) = 1 := by
            intro l
            rw [if_pos l] at q; exact absurd q (by decide)
          rw [if_neg q1] at h
          exact h M z.1
/-- the tally behind c cases and p places of the next -/
def TI (M : Mm) (c p : Nat) : Prop := ∃ f : Nat → Nat, (∀ i, i < 1024 → gi M 5392 i = nI (f i)) ∧ (∀ i, i < p → f i ≤ c + 1) ∧ (∀ i, p ≤ i → f i ≤ c) ∧ f 0 = c + (if p = 0 then 0 else 1)
theorem ti_up {c p p2 : Nat} (t : TI M c p) (hp : 0 < p) (h : p ≤ p2) : TI M c p2 := by
  obtain ⟨f, h1, h2, h3, h4⟩ := t
  refine ⟨f, h1, fun i hi => ?_, fun i hi => h3 i (by omega), ?_⟩
  · by_cases q : i < p
    · exact h2 i q
    · have := h3 i (by omega); omega
  · rw [h4, if_neg (by omega), if_neg (by omega)]
theorem ti_si {c p : Nat} (hp : p < 1024) (t : TI M c p) : TI (si M 5392 p (gi M 5392 p + 1)) c (p + 1) := by
  obtain ⟨f, h1, h2, h3, h4⟩ := t
  refine ⟨fun i => if i = p then f p + 1 else f i, fun i hi => ?_, fun i hi => ?_, fun i hi => ?_, ?_⟩
  · rw [gi_si]
    by_cases q : i = p
    · subst q
      rw [if_pos ⟨rfl, rfl⟩, h1 i hi, nI_s]
      simp
    · rw [if_neg (fun e => q e.2), h1 i hi]
      simp [q]
  · by_cases q : i = p
    · subst q; have := h3 i (Nat.le_refl _); simp; omega
    · have := h2 i (by omega); simp [q]; omega
  · have q : i ≠ p := by omega
    have := h3 i (by omega); simp [q]; omega
  · by_cases q : p = 0
    · subst q
      rw [if_pos rfl] at h4
      simp; omega
    · rw [if_neg q] at h4
      show (if 0 = p then f p + 1 else f 0) = _
      rw [if_neg (fun e => q e.symm), h4, if_neg (Nat.succ_ne_zero p)]
theorem ww_si {rr c j : Nat} {v : Int32} (w : WW M rr c) : WW (si M 5392 j v) rr c := by
  obtain ⟨wz, w4, w5, w6, w7, w8, w9, wo⟩ := w
  refine ⟨zw_sc wz (by decide +kernel) (by decide +kernel), ?_, ?_, ?_, ?_, ?_, ?_, fun e he => ?_⟩ <;> rw [giR _ _ _ _ _ _ (by decide)]
  · exact w4
  · exact w5
  · exact w6
  · exact w7
  · exact w8
  · exact w9
  · exact wo e he
def tw : Nat → Int32
  | 0 => 0
  | w + 1 => tw w ||| ((1 : Int32) <<< (nI w &&& 31))
theorem hold127 : ∀ k, k < 64 → (if ((ushr 127 (bc32 (nI k))) &&& 1) = 1 then 1 else 0 : Int32) = 1 := by decide +kernel
theorem tidx {d a k : Nat} (hd : d < 8) (ha : a < 2) (hk : k < 64) : (((nI d * 2) + nI a) * 64) + nI k = nI ((d * 2 + a) * 64 + k) := by
  show ((Int32.ofNat d * Int32.ofNat 2) + Int32.ofNat a) * Int32.ofNat 64 + Int32.ofNat k = Int32.ofNat _
  simp only [Int32.ofNat_add, Int32.ofNat_mul]
theorem zFi_tally {rr c d a : Nat} {K : Mm → Prop} (hc : c < 64) (w : WW M rr c) (hd : d < 8) (ha : a < 2) (t : TI M c ((d * 2 + a) * 64)) (h : ∀ N, WW N rr c → TI N c ((d * 2 + a) * 64 + 64) → K N) : CV mFi_tally [.ref 5312, .int (nI d), .int (nI a)] M K := by
  have ha2 : nI a = 0 ∨ nI a = 1 := by
    match a, ha with
    | 0, _ => exact Or.inl rfl
    | 1, _ => exact Or.inr rfl
  refine call_of rfl (Nat.le_of_ble_eq_true rfl) rfl (vFi_tally_0 rfl (g5312_0 w.1.1) ?_)
  rw [w.2.1]
  have k2 : X mFi_tally 57 [(0, .ref 5312), (1, .int (nI d)), (2, .int (nI a)), (3, .int (nI c)), (4, .int (tw 7)), (5, .int 0)] [] M (mC mFi_tally, mS mFi_tally) (QV K) := by
    rw [show tw 7 = 127 from by decide +kernel]
    have key := lp (c + 1) (P := fun k => ∀ N, WW N rr c → TI N c ((d * 2 + a) * 64 + k) → X mFi_tally 57 [(0, .ref 5312), (1, .int (nI d)), (2, .int (nI a)), (3, .int (nI c)), (4, .int 127), (5, .int (nI k))] [] N (mC mFi_tally, mS mFi_tally) (QV K)) (fun k hk ih N w t => ?_) (fun N w t => ?_)
    · exact key M w t
    · have l : ¬ nI c < nI k := fun q => by
        have := (nlt (i := k) (n := c) (by omega) (by omega)).mp q
        omega
      have hk64 : k < 64 := by omega
      refine vFi_tally_57 ⟨fun q => ?_, fun q => ?_, fun _ => sJi_bitCount (fun r hr => vFi_tally_84 (sC_holds (vFi_tally_87 rfl (g5312_1 w.1.1) ⟨fun _ => ?_, fun q => ?_, fun _ => ⟨?_, ?_⟩⟩)))⟩
      · rcases q with q | q
        · exact absurd q l
        · exact absurd q.2 (by decide)
      · rw [nI_s]
        refine ih N w (ti_up t ?_ (by omega))
        by_cases k0 : k = 0
        · subst k0
          refine absurd ?_ q.2.2
          rw [show nI 0 = (0 : Int32) from rfl, Int32.zero_and]
        · omega
      · rw [tidx hd ha hk64]; exact vin (by omega) (by decide)
      · rw [hr, hold127 k hk64] at q; exact absurd q (by decide)
      · rw [tidx hd ha hk64]; exact vin (by omega) (by decide)
      · rw [nI_s, tidx hd ha hk64, ncl (by omega)]
        exact ih _ (ww_si w) (ti_si (by omega) t)
    · have l : nI c < nI (c + 1) := (nlt (i := c + 1) (n := c) (by omega) (by omega)).mpr (by omega)
      exact vFi_tally_57 ⟨fun _ => h N w (ti_up t (by omega) (by omega)), fun q => absurd l q.1, fun q => absurd l q.1⟩
  have key := lp 7 (P := fun x => X mFi_tally 14 [(0, .ref 5312), (1, .int (nI d)), (2, .int (nI a)), (3, .int (nI c)), (4, .int (tw x)), (5, .int (nI x))] [] M (mC mFi_tally, mS mFi_tally) (QV K)) (fun x hx ih => ?_) ?_
  · exact key
  · have l : ¬ (6 : Int32) < nI x := fun q => by
      have := (nlt (i := x) (n := 6) (by omega) (by decide)).mp q
      omega
    refine vFi_tally_14 rfl (g5312_0 w.1.1) ⟨fun q => absurd q l, fun _ => zWe_turnsBy w hc hd ha2 (vFi_tally_34 ?_)⟩
    rw [if_neg (by decide), nI_s]
    exact ih
  · exact vFi_tally_14 rfl (g5312_0 w.1.1) ⟨fun _ => k2, fun q => absurd (by decide) q⟩
theorem zFi_tallyDoctors {rr c : Nat} {K : Mm → Prop} (hc : c < 64) (w : WW M rr c) (t : TI M c 0) (h : ∀ N, WW N rr c → TI N c 1024 → K N) : CV mFi_tallyDoctors [.ref 5312] M K := by
  refine call_of rfl (Nat.le_of_ble_eq_true rfl) rfl (vFi_tallyDoctors_0 ?_)
  have key := lp 8 (P := fun d => ∀ N, WW N rr c → TI N c (d * 128) → X mFi_tallyDoctors 2 [(0, .ref 5312), (1, .int (nI d))] [] N (mC mFi_tallyDoctors, mS mFi_tallyDoctors) (QV K)) (fun d hd ih N w t => ?_) (fun N w t => ?_)
  · exact key M w t
  · refine vFi_tallyDoctors_2 rfl (g5312_0 w.1.1) w.1.2.1 ⟨fun q => absurd q (nge rfl (by decide) hd), fun _ => sRu_isMain (zwk w.1) (vFi_tallyDoctors_19 rfl ⟨fun q => ?_, fun _ => ?_⟩)⟩
    · rw [nI_s]
      refine ih N w (ti_up t ?_ (by omega))
      by_cases d0 : d = 0
      · subst d0
        rw [zwr (j := 0) (v := 31) w.1 (by decide +kernel) (by decide +kernel)] at q
        exact absurd q (by decide +kernel)
      · omega
    · refine zFi_tally (a := 0) hc w hd (by decide) (by rw [show (d * 2 + 0) * 64 = d * 128 by omega]; exact t) (fun N w t => vFi_tallyDoctors_28 rfl ?_)
      refine zFi_tally (a := 1) hc w hd (by decide) (by rw [show (d * 2 + 1) * 64 = (d * 2 + 0) * 64 + 64 by omega]; exact t) (fun N w t => vFi_tallyDoctors_34 ?_)
      rw [nI_s]
      exact ih N w (by rw [show (d + 1) * 128 = (d * 2 + 1) * 64 + 64 by omega]; exact t)
  · exact vFi_tallyDoctors_2 rfl (g5312_0 w.1.1) w.1.2.1 ⟨fun _ => h N w t, fun q => absurd (nself rfl) q⟩
theorem zWe_weighF {M : Mm} {rr c : Nat} {K : Mm → Prop} (z : ZW M rr) (hc : c < 64) (h : ∀ N, WW N rr c → (∀ j, gi N 5392 j = gi M 5392 j) → K N) : CV mWe_weigh [.ref 5192, .int (nI c)] M K := by
  refine call_of rfl (Nat.le_of_ble_eq_true rfl) rfl ?_
  refine vWe_weigh_0 rfl (zWe_lawIn (zw_si z (by rfl) (by rfl)) hc ?_)
  refine vWe_weigh_11 rfl rfl ?_
  have key := lp 8 (P := fun d => ∀ N, WI N rr c d → (∀ j, gi N 5392 j = gi M 5392 j) → X mWe_weigh 26 [(0, .ref 5192), (1, .int (nI c)), (2, .int (nI d))] [] N (mC mWe_weigh, mS mWe_weigh) (QV K)) (fun d hd ih N w fr => ?_) ?_
  · refine key _ ⟨zw_si (zw_si (zw_si (zw_si z (by rfl) (by rfl)) (by decide +kernel) (by decide +kernel)) (by decide +kernel) (by decide +kernel)) (by decide +kernel) (by decide +kernel), ?_, ?_, ?_, ?_, fun e he => absurd he (Nat.not_lt_zero e)⟩ (fun j => by simp [gi_si])
    · simp only [gi_si]; simp
    · simp only [gi_si]; simp
    · simp only [gi_si]; simp
    · simp only [gi_si]; simp
  · refine vWe_weigh_26 rfl ⟨fun q => absurd q (nge rfl (by decide) hd), fun _ => zWe_opinion w.1 hd hc ?_⟩
    refine vWe_weigh_38 rfl (g5192_3 w.1.1) ⟨vin hd (by decide), ?_⟩
    obtain ⟨wz, w4, w5, w6, w7, wo⟩ := w
    rw [ncl (by omega), nI_s]
    refine ih _ ⟨?_, ?_, ?_, ?_, ?_, ?_⟩ (fun j => by simp [gi_si, fr])
    · refine zw_si (zw_si (zw_sc wz (by decide +kernel) (by decide +kernel)) (by rfl) (by rfl)) (by rfl) (by rfl)
    · simp [gi_si, w4]
    · simp [gi_si, w5]
    · simp [gi_si, w6]
    · simp [gi_si, w7]
    · intro e he
      simp only [gi_si]
      by_cases q : e = d
      · simp [q]
      · simp [q, wo e (by omega)]
  · intro N w fr
    obtain ⟨wz, w4, w5, w6, w7, wo⟩ := w
    refine vWe_weigh_26 rfl ⟨fun _ => zWe_headSaying wz ?_, fun q => absurd (nself rfl) q⟩
    refine vWe_weigh_93 rfl (zWe_decider wz w5 ?_)
    rw [w6, w7, if_pos rfl, if_pos rfl]
    refine vWe_weigh_108 rfl rfl (zWe_answerBy (zw_si wz (by decide +kernel) (by decide +kernel)) ?_)
    have e8 : gi (si N 5192 8 0) 5192 8 = 0 := by rw [gi_si, if_pos ⟨rfl, rfl⟩]
    rw [e8, if_neg (by decide), if_neg (by decide), if_neg (by decide)]
    refine vWe_weigh_129 rfl (h _ ⟨zw_si (zw_si wz (by decide +kernel) (by decide +kernel)) (by decide +kernel) (by decide +kernel), ?_, ?_, ?_, ?_, ?_, ?_, ?_⟩ (fun j => by simp [gi_si, fr]))
    · simp [gi_si, w4]
    · simp [gi_si, w5]
    · simp [gi_si, w6]
    · simp [gi_si, w7]
    · simp [gi_si]
    · simp [gi_si]
    · intro e he
      simp [gi_si, wo e he]
theorem zWe_weighT {M : Mm} {rr c : Nat} {K : Mm → Prop} (z : ZW M rr) (hc : c < 64) (t : TI M c 0) (h : ∀ N, WW N rr c → TI N c 0 → K N) : CV mWe_weigh [.ref 5192, .int (nI c)] M K := by
  refine zWe_weighF z hc (fun N w fr => h N w ?_)
  obtain ⟨f, h1, h2⟩ := t
  exact ⟨f, fun i hi => by rw [fr]; exact h1 i hi, h2⟩
theorem zFi_best {rr : Nat} {K : Int32 → Mm → Prop} (z : ZW M rr) (h : ∀ N, ZW N rr → gi N 5392 0 = 64 → K 0 N) : CI mFi_best [.ref 5312] M K := by
  refine call_of rfl (Nat.le_of_ble_eq_true rfl) rfl (vFi_best_0 rfl (g5312_1 z.1) (sJr_fill (kk := 16) rfl ak_16 (by decide) (vFi_best_8 ?_)))
  have zf0 : ZW (fl M 5392 1024 0) rr := by
    refine ⟨⟨ym_fl z.1.1 (by decide +kernel), z.1.2.1, fun q hq k h1 h2 => ?_⟩, z.2⟩
    have := List.all_eq_true.mp (show rno zl 5392 = true by decide +kernel) q hq
    rw [gi_fl, if_neg (fun e => by simp [e.1] at this)]
    exact z.1.2.2 q hq k h1 h2
  have t0 : TI (fl M 5392 1024 0) 0 0 := ⟨fun _ => 0, fun i hi => by rw [gi_fl, if_pos ⟨rfl, hi⟩]; rfl, fun i hi => Nat.zero_le _, fun i hi => Nat.le_refl _, by simp⟩
  have tail : ∀ N, ZW N rr → TI N 64 0 → X mFi_best 50 [(0, .ref 5312), (1, .int (-1)), (2, .int 0)] [] N (mC mFi_best, mS mFi_best) (QI K) := by
    intro N z t
    obtain ⟨f, h1, h2, h3, h4⟩ := t
    rw [if_pos rfl] at h4
    have e0 : gi N 5392 0 = 64 := by rw [h1 0 (by decide), h4]; rfl
    have key := lp 1023 (P := fun i => X mFi_best 50 [(0, .ref 5312), (1, .int 0), (2, .int (nI (i + 1)))] [] N (mC mFi_best, mS mFi_best) (QI K)) (fun i hi ih => ?_) ?_
    · refine vFi_best_50 rfl (g5312_1 z.1) (g5312_0 z.1) z.2.1 ⟨fun q => absurd q (by decide), fun _ => ?_⟩
      refine call_of rfl (Nat.le_of_ble_eq_true rfl) rfl (vFi_doctorAt_0 (vFi_best_70 (zwk z) (sRu_isMain (zwk z) ?_)))
      rw [zwr (j := 0) (v := 31) z (by decide +kernel) (by decide +kernel)]
      refine vFi_best_73 rfl (g5312_1 z.1) ⟨fun _ => vin (i := 0) (by decide) (by decide), fun q => absurd (by decide) q.2, fun q => ?_, fun _ => key⟩
      rcases q with q | q
      · exact absurd q (by decide +kernel)
      · exact absurd (by decide) q.2.1
    · refine vFi_best_50 rfl (g5312_1 z.1) (g5312_0 z.1) z.2.1 ⟨fun q => absurd q (nge (n := 1024) rfl (by decide) (by omega)), fun _ => ?_⟩
      refine call_of rfl (Nat.le_of_ble_eq_true rfl) rfl (vFi_doctorAt_0 (vFi_best_70 (zwk z) (sRu_isMain (zwk z) ?_)))
      refine vFi_best_73 rfl (g5312_1 z.1) ⟨fun _ => vin (by omega) (by decide), fun _ => vin (i := 0) (by decide) (by decide), fun _ => ?_, fun q => ?_⟩
      · rw [nI_s]; exact ih
      · rcases q with q | q
        · exact absurd q.2 (by decide)
        · refine absurd ?_ q.2.2
          rw [ncl (by omega), h1 (i + 1) (by omega), show (0 : Int32).toNatClampNeg = 0 from rfl, e0]
          exact (nle (i := 64) (n := f (i + 1)) (by decide) (by have := h3 (i + 1) (by omega); omega)).mpr (h3 (i + 1) (by omega))
    · exact vFi_best_50 rfl (g5312_1 z.1) (g5312_0 z.1) z.2.1 ⟨fun _ => h N z e0, fun q => absurd (nself rfl) q⟩
  have key := lp 64 (P := fun c => ∀ N, ZW N rr → TI N c 0 → X mFi_best 10 [(0, .ref 5312), (1, .int (nI c))] [] N (mC mFi_best, mS mFi_best) (QI K)) (fun c hc ih N z t => ?_) (fun N z t => ?_)
  · exact key _ zf0 t0
  · refine vFi_best_10 rfl (g5312_0 z.1) ⟨fun q => absurd q (nge rfl (by decide) hc), fun _ => zWe_weighT z hc t (fun N w t => vFi_best_24 rfl (g5312_0 w.1.1) ⟨fun q => absurd w.2.2.1 q, fun _ => zFi_tallyDoctors hc w t (fun N w t => vFi_best_40 ?_)⟩)⟩
    rw [nI_s]
    refine ih N w.1 ?_
    obtain ⟨f, h1, h2, h3, h4⟩ := t
    refine ⟨f, h1, fun i hi => absurd hi (Nat.not_lt_zero i), fun i hi => ?_, ?_⟩
    · by_cases q : i < 1024
      · exact h2 i q
      · have := h3 i (by omega); omega
    · rw [h4, if_neg (by decide), if_pos rfl]
  · exact vFi_best_10 rfl (g5312_0 z.1) ⟨fun _ => tail N z t, fun q => absurd (nself rfl) q⟩
theorem zC_turn {w : Int32} {K : Int32 → Mm → Prop} (z : ZM M) (h : ∀ N, YM N → K (fTurn w) N) : CI mC_turn [.ref 10, .int w] M K := by
  refine call_of rfl (Nat.le_of_ble_eq_true rfl) rfl (vC_turn_0 rfl ⟨fun q => ?_, fun q => zC_weighNow z (fun N y => vC_turn_15 rfl (g10_12 y.1) (zFi_best y (fun N y e => ?_)))⟩)
  · have hh := h M z.1
    rwa [fTurn, if_neg (fun p => q.elim p.1 (fun q => q.2 p.2))] at hh
  · have hh := h N y.1.1
    rw [fTurn, if_pos q] at hh
    refine vC_turn_22 rfl (g10_12 y.1) (g5312_1 y.1) ⟨fun _ => ⟨fun q => ⟨vin (i := 0) (by decide) (by decide), ?_⟩, fun q => call_of rfl (Nat.le_of_ble_eq_true rfl) rfl (vFi_doctorAt_0 (vC_turn_70 ?_)), fun q => call_of rfl (Nat.le_of_ble_eq_true rfl) rfl (vFi_answerAt_0 (vC_turn_75 ?_)), fun q => call_of rfl (Nat.le_of_ble_eq_true rfl) rfl (vFi_marksAt_0 (vC_turn_80 ?_))⟩, fun q => absurd (by decide) q⟩
    · rw [show (0 : Int32).toNatClampNeg = 0 from rfl, e]; rwa [if_pos q] at hh
    · rw [if_neg (by rw [q]; decide)] at hh; exact hh
    · rw [if_neg (by rw [q]; decide)] at hh; exact hh
    · rw [if_neg q.1] at hh; exact hh
end CLS5
