theorem zWe_heldIf {M : Mm} {rr c d : Nat} {op : Int32} {K : Int32 → Mm → Prop} (w : WW M rr c) (hd : d < 8) (ho : op = -4 ∨ op = 0 ∨ op = 1) (h : K op M) : CI mWe_heldIf [.ref 5192, .int (nI d), .int op] M K := by
  obtain ⟨wz, w4, w5, w6, w7, w8, w9, wo⟩ := w
  have e4 : gi M rr 4 = -4 := zwr wz (by decide +kernel) (by decide +kernel)
  have ey : (gi M 5192 6 - (if gi M 5261 (nI d).toNatClampNeg = 1 then 1 else 0 : Int32)) + (if op = 1 then 1 else 0 : Int32) = (if op = 1 then 1 else 0) := by
    rw [w6, ncl (by omega), wo d hd, if_neg (by decide), Int32.sub_self, Int32.zero_add]
  have en : (gi M 5192 7 - (if gi M 5261 (nI d).toNatClampNeg = 0 then 1 else 0 : Int32)) + (if op = 0 then 1 else 0 : Int32) = (if op = 0 then 1 else 0) := by
    rw [w7, ncl (by omega), wo d hd, if_neg (by decide), Int32.sub_self, Int32.zero_add]
  refine call_of rfl (Nat.le_of_ble_eq_true rfl) rfl ?_
  refine vWe_heldIf_0 rfl (g5192_3 wz.1) wz.2.1 ⟨vin hd (by decide), vin hd (by decide), fun _ => zWe_headSaying wz ?_, fun q => ?_⟩
  · rw [ey, en]
    refine vWe_heldIf_82 rfl (zWe_decider wz w5 ?_)
    refine vWe_heldIf_94 rfl (zWe_answerBy wz ?_)
    refine vWe_heldIf_102 ?_
    rcases ho with rfl | rfl | rfl <;> exact h
  · rw [e4] at q
    exact absurd (q ▸ (by decide : (-4 : Int32) < 0)) (n0 d (by omega))
theorem zWe_turnsBy {M : Mm} {rr c d : Nat} {a w : Int32} {K : Int32 → Mm → Prop} (ww : WW M rr c) (hc : c < 64) (hd : d < 8) (ha : a = 0 ∨ a = 1) (h : K 1 M) : CI mWe_turnsBy [.ref 5192, .int (nI d), .int a, .int w] M K := by
  have ww0 := ww
  obtain ⟨wz, w4, w5, w6, w7, w8, w9, wo⟩ := ww
  refine call_of rfl (Nat.le_of_ble_eq_true rfl) rfl ?_
  refine vWe_turnsBy_0 rfl (g5192_0 wz.1) (lr7 (z_lr wz.1)) (lr3 (z_lr wz.1)) (lr4 (z_lr wz.1)) ⟨vin hd (by decide), by rw [w4]; exact vin hc (by decide), by rw [w4]; exact vin hc (by decide), ?_⟩
  rw [z_his wz.1 hd, z_his wz.1 hd]
  refine zWe_settled wz.2.1 (by rcases ha with rfl | rfl; exact Or.inl (by decide); exact Or.inr (by decide)) ?_
  have e : agr (0 ||| if a = 1 then 16777216 else 0) (0 ||| if a = 0 then 16777216 else 0) = a := by rcases ha with rfl | rfl <;> decide +kernel
  rw [e]
  have ea : ¬ a = -4 := by rcases ha with rfl | rfl <;> decide
  refine vWe_turnsBy_82 rfl (g5192_3 wz.1) ⟨vin hd (by decide), fun q => ?_, fun _ => zWe_heldIf ww0 hd (Or.inr ha) ?_⟩
  · rw [ncl (by omega), wo d hd] at q; exact absurd q ea
  · exact vWe_turnsBy_102 rfl ⟨fun q => absurd (q.trans w9) ea, fun _ => h⟩
def ones : Nat → Int64
  | 0 => 0
  | c + 1 => ones c ||| ((1 : Int64) <<< ((nI c).toInt64 &&& 63))
theorem ones_64 : ones 64 = -1 := by decide +kernel
theorem zWe_casesOf {M : Mm} {rr : Nat} {w : Int32} {K : Int64 → Mm → Prop} (z : ZW M rr) (h : ∀ N, ZW N rr → K (if w = 2 ∨ w = 10 then -1 else 0) N) : CJ mWe_casesOf [.ref 5192, .int w] M K := by
  refine call_of rfl (Nat.le_of_ble_eq_true rfl) rfl ?_
  refine vWe_casesOf_0 ?_
  have key := lp 64 (P := fun c => ∀ N, ZW N rr → X mWe_casesOf 5 [(0, .ref 5192), (1, .int w), (2, .long (if w = 2 ∨ w = 10 then ones c else 0)), (4, .int (nI c))] [] N (mC mWe_casesOf, mS mWe_casesOf) (QJ K)) (fun c hc ih N zn => ?_) (fun N zn => ?_)
  · have := key M z
    rw [show ones 0 = 0 from rfl, ite_self] at this
    exact this
  · refine vWe_casesOf_5 rfl ⟨fun q => absurd q (nge rfl (by decide) hc), fun _ => zWe_weigh zn hc (fun N w0 => vWe_casesOf_18 rfl ?_)⟩
    obtain ⟨wz, w4, w5, w6, w7, w8, w9, wo⟩ := w0
    rw [w8, w9, nI_s, if_neg (show ¬ (-4 : Int32) = 1 by decide), if_neg (show ¬ (-4 : Int32) = 0 by decide)]
    have e : ((if w < 10 then (2 : Int32) else 10 + 0) = w) ↔ (w = 2 ∨ w = 10) := by
      constructor
      · intro q
        by_cases l : w < 10
        · rw [if_pos l] at q; exact Or.inl q.symm
        · rw [if_neg l] at q; exact Or.inr q.symm
      · rintro (rfl | rfl) <;> decide
    have e2 : ((if w = 2 ∨ w = 10 then ones c else 0) ||| (if (if w < 10 then (2 : Int32) else 10 + 0) = w then ((1 : Int64) <<< ((nI c).toInt64 &&& 63)) else 0)) = (if w = 2 ∨ w = 10 then ones (c + 1) else 0) := by
      by_cases l : w = 2 ∨ w = 10
      · rw [if_pos l, if_pos (e.mpr l), if_pos l]; rfl
      · rw [if_neg l, if_neg (fun q => l (e.mp q)), if_neg l]; rfl
    rw [e2]
    exact ih N wz
  · refine vWe_casesOf_5 rfl ⟨fun _ => ?_, fun q => absurd (nself rfl) q⟩
    have := h N zn
    rw [ones_64]; exact this
section CLS2
variable {M : Mm}
theorem zC_casesNow {w : Int32} {K : Int64 → Mm → Prop} (z : ZM M) (h : ∀ N, ZW N 4995 → K (if w = 2 ∨ w = 10 then -1 else 0) N) : CJ mC_casesNow [.ref 10, .int w] M K :=
  call_of rfl (Nat.le_of_ble_eq_true rfl) rfl (vC_casesNow_0 rfl (zC_weighNow z (fun N y => vC_casesNow_4 rfl (g10_11 y.1) (zWe_casesOf y (fun N y => vC_casesNow_12 (h N y))))))
theorem sC_isKindOfCases {w : Int32} {K : Int32 → Mm → Prop} (h1 : isK w = false → K 0 M) (h2 : isK w = true → K 1 M) : CI mC_isKindOfCases [.int w] M K := by
  refine call_of rfl (Nat.le_of_ble_eq_true rfl) rfl (vC_isKindOfCases_0 ⟨fun q => ⟨fun q2 => h1 (decide_eq_false ?_), fun q2 => h2 (decide_eq_true (Or.inr q2))⟩, fun q => h2 (decide_eq_true (Or.inl q))⟩)
  rintro (p | p)
  · exact q.elim p.1 (fun q => q.2 p.2)
  · exact q2.elim p.1 (fun q => p.2 q.2)
theorem zC_cases {w : Int32} {K : Int64 → Mm → Prop} (z : ZM M) (h : ∀ N, YM N → K (fCases w) N) : CJ mC_cases [.ref 10, .int w] M K := by
  refine call_of rfl (Nat.le_of_ble_eq_true rfl) rfl (vC_cases_0 (sC_isKindOfCases (fun q => vC_cases_4 rfl ⟨fun _ => ?_, fun q => absurd rfl q⟩) (fun q => vC_cases_4 rfl ⟨fun q => absurd q (by decide), fun _ => zC_casesNow z (fun N y => vC_cases_12 ?_)⟩)))
  · have := h M z.1; rwa [fCases, q, if_neg (by decide)] at this
  · have := h N y.1.1; rwa [fCases, q, if_pos rfl] at this
theorem zC_many {w : Int32} {K : Int32 → Mm → Prop} (z : ZM M) (h : ∀ N, YM N → K (fMany w) N) : CI mC_many [.ref 10, .int w] M K := by
  refine call_of rfl (Nat.le_of_ble_eq_true rfl) rfl (vC_many_0 (sC_isKindOfCases (fun q => vC_many_4 rfl ⟨fun _ => ?_, fun q => absurd rfl q⟩) (fun q => vC_many_4 rfl ⟨fun q => absurd q (by decide), fun _ => zC_casesNow z (fun N y => vC_many_12 (sJl_bitCount (fun r hr => vC_many_15 ?_)))⟩)))
  · have := h M z.1; rwa [fMany, q, if_neg (by decide)] at this
  · have := h N y.1.1
    rw [fMany, q, if_pos rfl] at this
    rw [hr]
    by_cases l : w = 2 ∨ w = 10
    · rw [if_pos l] at this ⊢; rw [bc64_1]; exact this
    · rw [if_neg l] at this ⊢; rw [bc64_0]; exact this
theorem zC_clash {d w : Int32} {K : Int32 → Mm → Prop} (z : ZM M) (h : ∀ N, YM N → K (fClash d w) N) : CI mC_clash [.ref 10, .int d, .int w] M K := by
  refine call_of rfl (Nat.le_of_ble_eq_true rfl) rfl (vC_clash_0 (sC_isDoctor (fun q => ?_) (fun i hi e => ?_)))
  · refine vC_clash_4 ⟨fun _ => ?_, fun q => absurd rfl q⟩
    have hh := h M z.1
    rwa [fClash, nD q, Bool.false_and, if_neg (by decide)] at hh
  · subst e
    refine vC_clash_4 ⟨fun q => absurd q (by decide), fun _ => sC_isEither (fun q1 q2 => ?_) (fun q => ?_)⟩
    · refine vC_clash_11 rfl ⟨fun q => absurd rfl q, fun _ => ?_⟩
      have hh := h M z.1
      rwa [fClash, nE q1 q2, Bool.and_false, if_neg (by decide)] at hh
    · refine vC_clash_11 rfl ⟨fun _ => zC_weighNow z (fun N y => vC_clash_20 ?_), fun q => absurd q (by decide)⟩
      have key := lp 64 (P := fun c => X mC_clash 25 [(0, .ref 10), (1, .int (nI i)), (2, .int w), (3, .long 0), (5, .int (nI c))] [] N (mC mC_clash, mS mC_clash) (QI K)) (fun c hc ih => ?_) ?_
      · exact key
      · refine vC_clash_25 rfl (g10_11 y.1) ⟨fun q => absurd q (nge rfl (by decide) hc), fun _ => zWe_clashes y hi hc (vC_clash_42 ⟨fun _ => ?_, fun q => absurd rfl q⟩)⟩
        rw [nI_s]; exact ih
      · refine vC_clash_25 rfl (g10_11 y.1) ⟨fun _ => zC_manyOrLeast0 (vC_clash_63 ?_), fun q => absurd (nself rfl) q⟩
        have hh := h N y.1.1
        rwa [fClash, yD hi, yE q, if_pos (by decide)] at hh
theorem zC_hangs {d w : Int32} {K : Int32 → Mm → Prop} (z : ZM M) (h : ∀ N, YM N → K (fClash d w) N) : CI mC_hangs [.ref 10, .int d, .int w] M K := by
  refine call_of rfl (Nat.le_of_ble_eq_true rfl) rfl (vC_hangs_0 (sC_isDoctor (fun q => ?_) (fun i hi e => ?_)))
  · refine vC_hangs_4 ⟨fun _ => ?_, fun q => absurd rfl q⟩
    have hh := h M z.1
    rwa [fClash, nD q, Bool.false_and, if_neg (by decide)] at hh
  · subst e
    refine vC_hangs_4 ⟨fun q => absurd q (by decide), fun _ => sC_isEither (fun q1 q2 => ?_) (fun q => ?_)⟩
    · refine vC_hangs_11 rfl ⟨fun q => absurd rfl q, fun _ => ?_⟩
      have hh := h M z.1
      rwa [fClash, nE q1 q2, Bool.and_false, if_neg (by decide)] at hh
    · refine vC_hangs_11 rfl ⟨fun _ => zC_weighNow z (fun N y => vC_hangs_20 ?_), fun q => absurd q (by decide)⟩
      have key := lp 64 (P := fun c => ∀ N, ZW N 4995 → X mC_hangs 25 [(0, .ref 10), (1, .int (nI i)), (2, .int w), (3, .long 0), (5, .int (nI c))] [] N (mC mC_hangs, mS mC_hangs) (QI K)) (fun c hc ih N y => ?_) (fun N y => ?_)
      · exact key N y
      · refine vC_hangs_25 rfl (g10_11 y.1) ⟨fun q => absurd q (nge rfl (by decide) hc), fun _ => zWe_weigh y hc (fun N y => vC_hangs_41 rfl (g10_11 y.1.1) (zWe_heldIf y hi (Or.inl rfl) (vC_hangs_51 rfl (g10_11 y.1.1) ⟨fun _ => ?_, fun q => absurd y.2.2.2.2.2.2.1.symm q⟩)))⟩
        rw [nI_s]; exact ih N y.1
      · refine vC_hangs_25 rfl (g10_11 y.1) ⟨fun _ => zC_manyOrLeast0 (vC_hangs_79 ?_), fun q => absurd (nself rfl) q⟩
        have hh := h N y.1.1
        rwa [fClash, yD hi, yE q, if_pos (by decide)] at hh
theorem zC_sides {d e w : Int32} {K : Int32 → Mm → Prop} (z : ZM M) (h : ∀ N, YM N → K (fSides d e w) N) : CI mC_sides [.ref 10, .int d, .int e, .int w] M K := by
  refine call_of rfl (Nat.le_of_ble_eq_true rfl) rfl (vC_sides_0 (sC_isDoctor (fun q => ?_) (fun i hi e1 => ?_)))
  · refine vC_sides_4 ⟨fun _ => ?_, fun q => absurd rfl q⟩
    have hh := h M z.1
    rwa [fSides, nD q, Bool.false_and, if_neg (by decide)] at hh
  · subst e1
    refine vC_sides_4 ⟨fun q => absurd q (by decide), fun _ => sC_isDoctor (fun q => ?_) (fun j hj e2 => ?_)⟩
    · refine vC_sides_11 rfl ⟨fun _ => ?_, fun q => absurd rfl q.1⟩
      have hh := h M z.1
      rwa [fSides, nD q, Bool.false_and, Bool.and_false, if_neg (by decide)] at hh
    · subst e2
      refine vC_sides_11 rfl ⟨fun q => ?_, fun q => zC_weighNow z (fun N y => vC_sides_34 ?_)⟩
      · have hh := h M z.1
        have ed : decide (¬ nI i = nI j ∧ ¬ w < 0 ∧ w ≤ 2) = false := decide_eq_false (fun p => by
          rcases q with q | q | q | q
          · exact absurd q (by decide)
          · exact p.1 q.2
          · exact p.2.1 q.2.2
          · exact q.2.2.2 p.2.2)
        rwa [fSides, ed, Bool.and_false, Bool.and_false, if_neg (by decide)] at hh
      · have hh := h
        have ed : decide (¬ nI i = nI j ∧ ¬ w < 0 ∧ w ≤ 2) = true := decide_eq_true q.2
        rw [fSides, ed, yD hi, yD hj, if_pos (by decide)] at hh
        have key := lp 64 (P := fun c => X mC_sides 43 [(0, .ref 10), (1, .int (nI i)), (2, .int (nI j)), (3, .int w), (4, .long 0), (6, .long 0), (8, .int (nI c))] [] N (mC mC_sides, mS mC_sides) (QI K)) (fun c hc ih => ?_) ?_
        · exact key
        · refine vC_sides_43 rfl (g10_11 y.1) ⟨fun q => absurd q (nge rfl (by decide) hc), fun _ => zWe_opinion y hi hc (vC_sides_60 rfl (g10_11 y.1) (zWe_opinion y hj hc (vC_sides_72 ⟨fun _ => ?_, fun q => absurd rfl q.1, fun q => absurd rfl q.1⟩)))⟩
          rw [nI_s]; exact ih
        · have hh := hh N y.1.1
          refine vC_sides_43 rfl (g10_11 y.1) ⟨fun _ => ⟨fun q => sJl_bitCount (fun r hr => vC_sides_168 ?_), fun q => sJl_bitCount (fun r hr => vC_sides_174 ?_), fun q => zC_least0 (vC_sides_180 ?_)⟩, fun q => absurd (nself rfl) q⟩
          · rw [hr, show bc64 (0 ||| 0) = 0 from by decide +kernel]; rwa [if_pos q] at hh
          · rw [hr, bc64_0]; rw [if_neg (by rw [q]; decide), if_pos q] at hh; exact hh
          · rwa [if_neg q.1, if_neg q.2] at hh
theorem zC_held {c w : Int32} {K : Int32 → Mm → Prop} (z : ZM M) (h : ∀ N, YM N → K (fHeld c w) N) : CI mC_held [.ref 10, .int c, .int w] M K := by
  refine call_of rfl (Nat.le_of_ble_eq_true rfl) rfl (vC_held_0 (sC_isCase (fun q => ?_) (fun i hi e => ?_)))
  · refine vC_held_4 rfl ⟨fun q => absurd rfl q, fun _ => ?_⟩
    have hh := h M z.1
    rwa [fHeld, nC q, if_neg (by decide)] at hh
  · subst e
    refine vC_held_4 rfl ⟨fun _ => zC_weighNow z (fun N y => vC_held_13 rfl (g10_11 y.1) (zWe_weigh y hi (fun N y => ?_))), fun q => absurd q (by decide)⟩
    have hh := h N y.1.1.1
    obtain ⟨wz, w4, w5, w6, w7, w8, w9, wo⟩ := y
    rw [fHeld, yC hi, if_pos rfl] at hh
    refine vC_held_21 rfl (g10_11 wz.1) ⟨fun q => ?_, fun q => ?_, fun q => ?_, fun q => ?_, fun q => ?_⟩
    · subst q; rw [w9]; exact hh
    · subst q; rw [w8]; exact hh
    · subst q; rw [w6]; exact hh
    · subst q; rw [w7]; exact hh
    · rwa [if_neg q.1, if_neg q.2.1, if_neg q.2.2.1, if_neg q.2.2.2] at hh
theorem zC_reckon {c b y n a : Int32} {K : Int32 → Mm → Prop} (z : ZM M) (h : ∀ N, YM N → K (fReckon c b y n a) N) : CI mC_reckon [.ref 10, .int c, .int b, .int y, .int n, .int a] M K := by
  refine call_of rfl (Nat.le_of_ble_eq_true rfl) rfl (vC_reckon_0 (sC_isCase (fun q => ?_) (fun i hi e => ?_)))
  · refine vC_reckon_4 rfl ⟨fun q => absurd rfl q, fun _ => ?_⟩
    have hh := h M z.1
    rwa [fReckon, nC q, if_neg (by decide)] at hh
  · subst e
    refine vC_reckon_4 rfl ⟨fun _ => zC_weighNow z (fun N y => vC_reckon_13 rfl (g10_11 y.1) (zWe_weigh y hi (fun N y => ?_))), fun q => absurd q (by decide)⟩
    have hh := h N y.1.1.1
    obtain ⟨wz, w4, w5, w6, w7, w8, w9, wo⟩ := y
    rw [fReckon, yC hi, if_pos rfl] at hh
    refine vC_reckon_21 rfl (g10_11 wz.1) ⟨fun q => ?_, fun q => ?_, fun q => ?_, fun q => ?_, fun q => ?_⟩ <;> simp only [w6, w7, w8, w9] at q
    · rwa [if_pos q.1, if_pos q.2.1, if_pos q.2.2.1, if_pos q.2.2.2] at hh
    · rwa [if_pos q.1, if_pos q.2.1, if_pos q.2.2.1, if_neg q.2.2.2] at hh
    · rwa [if_pos q.1, if_pos q.2.1, if_neg q.2.2] at hh
    · rwa [if_pos q.1, if_neg q.2] at hh
    · rwa [if_neg q] at hh
theorem zC_widest {w : Int32} {K : Int32 → Mm → Prop} (z : ZM M) (h : ∀ N, YM N → K (fWidest w) N) : CI mC_widest [.ref 10, .int w] M K := by
  refine call_of rfl (Nat.le_of_ble_eq_true rfl) rfl (vC_widest_0 (sC_isEither (fun q1 q2 => ?_) (fun q => ?_)))
  · refine vC_widest_4 rfl ⟨fun q => absurd rfl q, fun _ => ?_⟩
    have hh := h M z.1
    rwa [fWidest, nE q1 q2, if_neg (by decide)] at hh
  · rw [fWidest, yE q, if_pos rfl] at h
    refine vC_widest_4 rfl ⟨fun _ => zC_weighNow z (fun N y => vC_widest_13 ?_), fun q => absurd q (by decide)⟩
    have key := lp 64 (P := fun c => ∀ N, ZW N 4995 → X mC_widest 24 [(0, .ref 10), (1, .int w), (2, .int (-4)), (3, .int 0), (4, .int 0), (5, .int (nI c))] [] N (mC mC_widest, mS mC_widest) (QI K)) (fun c hc ih N y => ?_) (fun N y => ?_)
    · exact key N y
    · refine vC_widest_24 rfl (g10_11 y.1) ⟨fun q => ?_, fun q => absurd q.1 (nge rfl (by decide) hc), fun _ => zWe_weigh y hc (fun N y => ?_)⟩
      · rcases q with q | q <;> exact absurd q.1 (nge rfl (by decide) hc)
      · obtain ⟨wz, w4, w5, w6, w7, w8, w9, wo⟩ := y
        refine uC_widest_40 rfl (g10_11 wz.1) ⟨fun q => ?_, fun _ => ?_⟩
        · rw [w6, w7] at q
          exact absurd q (by decide)
        · rw [nI_s]; exact ih N wz
    · exact vC_widest_24 rfl (g10_11 y.1) ⟨fun _ => h N y.1.1, fun q => absurd rfl q.2.1, fun q => absurd (nself rfl) q⟩
theorem zC_near {c a w : Int32} {K : Int32 → Mm → Prop} (z : ZM M) (h : ∀ N, YM N → K (fNear c a w) N) : CI mC_near [.ref 10, .int c, .int a, .int w] M K := by
  refine call_of rfl (Nat.le_of_ble_eq_true rfl) rfl (vC_near_0 (sC_isCase (fun q => ?_) (fun i hi e => ?_)))
  · refine vC_near_4 ⟨fun _ => ?_, fun q => absurd rfl q⟩
    have hh := h M z.1
    rwa [fNear, nC q, Bool.false_and, if_neg (by decide)] at hh
  · subst e
    refine vC_near_4 ⟨fun q => absurd q (by decide), fun _ => sC_isEither (fun q1 q2 => ?_) (fun qa => ?_)⟩
    · refine vC_near_11 ⟨fun _ => ?_, fun q => absurd rfl q⟩
      have hh := h M z.1
      rwa [fNear, nE q1 q2, Bool.false_and, Bool.and_false, if_neg (by decide)] at hh
    · refine vC_near_11 ⟨fun q => absurd q (by decide), fun _ => sC_isEither (fun q1 q2 => ?_) (fun qw => ?_)⟩
      · refine vC_near_18 rfl ⟨fun q => absurd rfl q, fun _ => ?_⟩
        have hh := h M z.1
        rwa [fNear, nE q1 q2, Bool.and_false, Bool.and_false, if_neg (by decide)] at hh
      · rw [fNear, yC hi, yE qa, yE qw, if_pos (by decide)] at h
        refine vC_near_18 rfl ⟨fun _ => zC_weighNow z (fun N y => vC_near_27 ?_), fun q => absurd q (by decide)⟩
        have key := lp 64 (P := fun o => ∀ N, ZW N 4995 → X mC_near 38 [(0, .ref 10), (1, .int (nI i)), (2, .int a), (3, .int w), (4, .int (-4)), (5, .int 7), (6, .int (nI o))] [] N (mC mC_near, mS mC_near) (QI K)) (fun o hc ih N y => ?_) (fun N y => ?_)
        · exact key N y
        · refine vC_near_38 ⟨fun q => ?_, fun q => absurd q.1 (nge rfl (by decide) hc), fun _ => sJi_bitCount (fun r hr => vC_near_52 rfl (g10_11 y.1) ⟨fun _ => ?_, fun _ => zWe_heldIn y hc (fun N y => vC_near_70 ⟨fun _ => ?_, fun q => ?_⟩)⟩)⟩
          · rcases q with q | q <;> exact absurd q.1 (nge rfl (by decide) hc)
          · rw [nI_s]; exact ih N y
          · rw [nI_s]; exact ih N y.1
          · rcases qa with rfl | rfl <;> exact absurd q (by decide)
        · exact vC_near_38 ⟨fun _ => h N y.1.1, fun q => absurd rfl q.2.1, fun q => absurd (nself rfl) q⟩
end CLS2
