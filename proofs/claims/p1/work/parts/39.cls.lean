/-! ===== what a new object answers ===== -/
def isC (c : Int32) : Bool := decide (¬ c < 0 ∧ ¬ 64 ≤ c)
def isD (c : Int32) : Bool := decide (¬ c < 0 ∧ ¬ 8 ≤ c)
def isS (c : Int32) : Bool := decide (¬ c < 0 ∧ ¬ 4 ≤ c)
def isL (c : Int32) : Bool := decide (¬ c < 0 ∧ ¬ 2 < c)
def isE (c : Int32) : Bool := decide (c = 0 ∨ c = 1)
def isK (c : Int32) : Bool := decide ((¬ c < 0 ∧ c ≤ 2) ∨ (¬ c < 10 ∧ ¬ 14 < c))
theorem nC {c : Int32} (q : c < 0 ∨ 64 ≤ c) : isC c = false := decide_eq_false (fun h => q.elim h.1 h.2)
theorem nD {c : Int32} (q : c < 0 ∨ 8 ≤ c) : isD c = false := decide_eq_false (fun h => q.elim h.1 h.2)
theorem nS {c : Int32} (q : c < 0 ∨ 4 ≤ c) : isS c = false := decide_eq_false (fun h => q.elim h.1 h.2)
theorem nL {c : Int32} (q : c < 0 ∨ 2 < c) : isL c = false := decide_eq_false (fun h => q.elim h.1 h.2)
theorem nE {c : Int32} (q1 : ¬ c = 0) (q2 : ¬ c = 1) : isE c = false := decide_eq_false (fun h => h.elim q1 q2)
theorem yC {i : Nat} (h : i < 64) : isC (nI i) = true := decide_eq_true ⟨n0 i (by omega), nge rfl (by decide) h⟩
theorem yD {i : Nat} (h : i < 8) : isD (nI i) = true := decide_eq_true ⟨n0 i (by omega), nge rfl (by decide) h⟩
theorem yS {i : Nat} (h : i < 4) : isS (nI i) = true := decide_eq_true ⟨n0 i (by omega), nge rfl (by decide) h⟩
theorem yL {c : Int32} (q1 : ¬ c < 0) (q2 : ¬ 2 < c) : isL c = true := decide_eq_true ⟨q1, q2⟩
theorem yE {c : Int32} (q : c = 0 ∨ c = 1) : isE c = true := decide_eq_true q
def fEnd (n : Int32) : Int32 := if ¬ n < 0 ∧ n ≤ 0 then 0 else -1
def fWeighs (w : Int32) : Int32 := if w = 0 then 31 else if w = 1 then 2 else if w = 2 then 0 else if w = 3 then 0 else if w = 4 then -4 else if w = 5 then -4 else if w = 6 then 1 else -1
def fWords (w : Int32) : Int32 := if w = 0 then 0 else if w = 1 then 0 else if w = 2 then 0 else -1
def fMeets (c w : Int32) : Int32 := if isC c then fWords w else -1
def fEach (d c : Int32) : Int32 := if isD d && isC c then -4 else -1
def fML (w : Int32) : Int32 := if w = 0 then 0 else -4
def fClash (d w : Int32) : Int32 := if isD d && isE w then fML w else -1
def fSides (d e w : Int32) : Int32 := if isD d && (isD e && decide (¬ d = e ∧ ¬ w < 0 ∧ w ≤ 2)) then (if w = 0 then 0 else if w = 1 then 0 else -4) else -1
def fHeld (c w : Int32) : Int32 := if isC c then (if w = 0 then -4 else if w = 1 then 0 else if w = 2 then 0 else if w = 3 then 0 else -1) else -1
def fCases (w : Int32) : Int64 := if isK w then (if w = 2 ∨ w = 10 then -1 else 0) else 0
def fMany (w : Int32) : Int32 := if isK w then (if w = 2 ∨ w = 10 then 64 else 0) else -1
def fReckon (c b y n a : Int32) : Int32 := if isC c then (if b = 0 then (if y = 0 then (if n = 0 then (if a = -4 then 0 else 4) else 3) else 2) else 1) else -1
def fWidest (w : Int32) : Int32 := if isE w then -4 else -1
def fNear (c a w : Int32) : Int32 := if isC c && (isE a && isE w) then -4 else -1
def fBring (b : Int32) : Int32 := if ¬ b < 0 ∧ b ≤ 255 then 255 else -1
def fCopies (b n : Int32) : Int32 := if isD b && decide (¬ n < 0 ∧ n ≤ 9) then 2 else -1
def fGame (c b w : Int32) : Int32 := if isC c && (isE b && isE w) then (if w = 0 then -4 else 0) else -1
def fTurn (w : Int32) : Int32 := if ¬ w < 0 ∧ w ≤ 3 then (if w = 0 then 64 else 0) else -1
def fDiffer (w : Int32) : Int32 := if isE w then fML w else -1
def fBrief (w : Int32) : Int32 := if isE w then 0 else -1
def fSheet (k l n : Int32) : Int32 := if isS k && (isL l && decide (n ≤ 40)) then (if 0 ≤ n then 1 else -14) else -1
def fLay (k : Int32) : Int32 := if isS k then -11 else -1
def fRead (k l n w : Int32) : Int32 := if isS k && (isL l && decide (¬ n < 0 ∧ ¬ 40 < n ∧ ¬ w < 0 ∧ w ≤ 2)) then -11 else -1
def fCount (w : Int32) : Int32 := if w = 0 then 0 else if w = 1 then 0 else if w = 2 then 8 else if w = 3 then 0 else if w = 4 then -4 else if ¬ w < 10 ∧ ¬ 18 ≤ w then 2 else -1
section CLS
variable {M : Mm}
theorem zC_weighNow {M : Mm} {K : Mm → Prop} (z : ZM M) (h : ∀ N, ZW N 4995 → K N) : CV mC_weighNow [.ref 10] M K :=
  call_of rfl (Nat.le_of_ble_eq_true rfl) rfl (vC_weighNow_0 rfl (g10_11 z) (g10_4 z) (g10_6 z) (zWe_begin z (Or.inl rfl) (fun N w => vC_weighNow_19 (h N w))))
theorem zC_least0 {M : Mm} {K : Int32 → Mm → Prop} (h : K (-4) M) : CI mC_least [.long 0] M K :=
  call_of rfl (Nat.le_of_ble_eq_true rfl) rfl (vC_least_0 ⟨fun q => absurd rfl q, fun _ => h⟩)
theorem bc64_0 : bc64 0 = 0 := by decide +kernel
theorem bc64_1 : bc64 (-1) = 64 := by decide +kernel
theorem zC_manyOrLeast0 {M : Mm} {w : Int32} {K : Int32 → Mm → Prop} (h : K (fML w) M) : CI mC_manyOrLeast [.long 0, .int w] M K := by
  refine call_of rfl (Nat.le_of_ble_eq_true rfl) rfl (vC_manyOrLeast_0 ⟨fun q => zC_least0 (vC_manyOrLeast_15 ?_), fun q => sJl_bitCount (fun r hr => vC_manyOrLeast_8 ?_)⟩)
  · rwa [fML, if_neg q] at h
  · rw [fML, if_pos q] at h
    rw [hr, bc64_0]; exact h
theorem zC_end {n : Int32} {K : Int32 → Mm → Prop} (z : ZM M) (h : ∀ N, YM N → K (fEnd n) N) : CI mC_end [.ref 10, .int n] M K := by
  have e : gi M 70 1 = 0 := zf z (by decide +kernel)
  refine call_of rfl (Nat.le_of_ble_eq_true rfl) rfl (vC_end_0 rfl (g10_0 z) ⟨fun q => ?_, fun q => ?_⟩) <;> rw [e] at q
  · have hh := h M z.1
    rwa [fEnd, if_neg (fun p => q.elim p.1 (fun q => q.2 p.2))] at hh
  · have hh := h (si M 70 1 n) (ym_si z.1 (rno_ok (by decide +kernel) _ _))
    rw [fEnd, if_pos q] at hh
    rw [e]; exact hh
theorem zC_fault {K : Int32 → Mm → Prop} (z : ZM M) (h : ∀ N, YM N → K 0 N) : CI mC_fault [.ref 10] M K := by
  refine call_of rfl (Nat.le_of_ble_eq_true rfl) rfl (vC_fault_0 rfl ?_)
  rw [zf (v := 0) z (by decide +kernel)]; exact h M z.1
theorem zC_weighs {w : Int32} {K : Int32 → Mm → Prop} (z : ZM M) (h : ∀ N, YM N → K (fWeighs w) N) : CI mC_weighs [.ref 10, .int w] M K := by
  have hh := h M z.1
  refine call_of rfl (Nat.le_of_ble_eq_true rfl) rfl (vC_weighs_0 rfl (g10_6 z) ⟨fun q => ?_, fun q => ?_, fun q => ?_, fun q => ?_, fun q => ?_, fun q => ?_, fun q => ?_, fun q => ?_⟩)
  · rw [zf (v := 31) z (by decide +kernel)]; subst q; exact hh
  · rw [zf (v := 2) z (by decide +kernel)]; subst q; exact hh
  · rw [zf (v := 0) z (by decide +kernel)]; subst q; exact hh
  · rw [zf (v := 0) z (by decide +kernel)]; subst q; exact hh
  · rw [zf (v := -4) z (by decide +kernel)]; subst q; exact hh
  · rw [zf (v := -4) z (by decide +kernel)]; subst q; exact hh
  · rw [zf (v := 1) z (by decide +kernel)]; subst q; exact hh
  · obtain ⟨q0, q1, q2, q3, q4, q5, q6⟩ := q
    rwa [fWeighs, if_neg q0, if_neg q1, if_neg q2, if_neg q3, if_neg q4, if_neg q5, if_neg q6] at hh
theorem zC_isWord {w : Int32} {K : Int32 → Mm → Prop} (z : ZM M) (h : K 0 M) : CI mC_isWord [.ref 10, .int w] M K := by
  have e : gi M 385 1 = 0 := zf z (by decide +kernel)
  refine call_of rfl (Nat.le_of_ble_eq_true rfl) rfl (vC_isWord_0 rfl (g10_4 z) ⟨fun _ => h, fun q => ?_⟩)
  rw [e] at q
  exact absurd (Int32.not_lt.mp q.1) q.2
theorem zC_word {w c : Int32} {K : Int32 → Mm → Prop} (z : ZM M) (h : ∀ N, YM N → K (-1) N) : CI mC_word [.ref 10, .int w, .int c] M K :=
  call_of rfl (Nat.le_of_ble_eq_true rfl) rfl (vC_word_0 rfl (zC_isWord z (vC_word_5 rfl (g10_4 z) (lr0 (z_lr z)) ⟨fun q => absurd rfl q, fun _ => h M z.1⟩)))
theorem zC_says {w c : Int32} {K : Int32 → Mm → Prop} (z : ZM M) (h : ∀ N, YM N → K (-1) N) : CI mC_says [.ref 10, .int w, .int c] M K :=
  call_of rfl (Nat.le_of_ble_eq_true rfl) rfl (vC_says_0 rfl (zC_isWord z (vC_says_5 ⟨fun _ => h M z.1, fun q => absurd rfl q⟩)))
theorem zC_steps {w : Int32} {K : Int32 → Mm → Prop} (z : ZM M) (h : ∀ N, YM N → K (-1) N) : CI mC_steps [.ref 10, .int w] M K :=
  call_of rfl (Nat.le_of_ble_eq_true rfl) rfl (vC_steps_0 rfl (zC_isWord z (vC_steps_5 rfl (g10_4 z) (lr0 (z_lr z)) ⟨fun _ => h M z.1, fun q => absurd rfl q⟩)))
theorem zC_words {w : Int32} {K : Int32 → Mm → Prop} (z : ZM M) (h : ∀ N, YM N → K (fWords w) N) : CI mC_words [.ref 10, .int w] M K := by
  have hh := h M z.1
  refine call_of rfl (Nat.le_of_ble_eq_true rfl) rfl (vC_words_0 rfl (g10_4 z) (g10_6 z) ⟨fun q => ?_, fun q => ?_, fun q => zLi_counting z rfl (vC_words_59 ?_), fun q => ?_⟩)
  · rw [zf (v := 0) z (by decide +kernel)]; subst q; exact hh
  · rw [zf (v := 0) z (by decide +kernel)]; subst q; exact hh
  · subst q; exact hh
  · rwa [fWords, if_neg q.1, if_neg q.2.1, if_neg q.2.2] at hh
theorem zC_meets {c w : Int32} {K : Int32 → Mm → Prop} (z : ZM M) (h : ∀ N, YM N → K (fMeets c w) N) : CI mC_meets [.ref 10, .int c, .int w] M K := by
  have hh := h M z.1
  refine call_of rfl (Nat.le_of_ble_eq_true rfl) rfl (vC_meets_0 (sC_isCase (fun q => ?_) (fun i hi e => ?_)))
  · refine vC_meets_4 rfl (g10_4 z) (lr3 (z_lr z)) ⟨fun q => absurd rfl q, fun _ => ?_⟩
    rwa [fMeets, nC q, if_neg (by decide)] at hh
  · subst e
    rw [fMeets, yC hi, if_pos rfl] at hh
    have e1 : gi M (385 + 205) i = 0 := za z 64 (by decide +kernel) hi
    have e2 : gi M (385 + 269) i = 0 := za z 64 (by decide +kernel) hi
    refine vC_meets_4 rfl (g10_4 z) (lr3 (z_lr z)) ⟨fun _ => ⟨fun q => sLi_speaking (z_lr z) hi (vC_meets_44 ?_), fun q => ⟨vin hi (by decide), ?_⟩, fun q => sLi_speaking (z_lr z) hi (vC_meets_63 rfl (g10_4 z) (g10_6 z) (zLi_counting z rfl (vC_meets_78 ?_))), fun q => ?_⟩, fun q => absurd q (by decide)⟩
    · subst q; rw [e1, e2]; exact hh
    · subst q; rw [ncl (by omega), e1]; exact hh
    · subst q; rw [e1, e2]; exact hh
    · rwa [fWords, if_neg q.1, if_neg q.2.1, if_neg q.2.2] at hh
theorem zC_each {d c : Int32} {K : Int32 → Mm → Prop} (z : ZM M) (h : ∀ N, YM N → K (fEach d c) N) : CI mC_each [.ref 10, .int d, .int c] M K := by
  refine call_of rfl (Nat.le_of_ble_eq_true rfl) rfl (vC_each_0 (sC_isDoctor (fun q => ?_) (fun i hi e => ?_)))
  · refine vC_each_4 ⟨fun _ => ?_, fun q => absurd rfl q⟩
    have hh := h M z.1
    rwa [fEach, nD q, Bool.false_and, if_neg (by decide)] at hh
  · subst e
    refine vC_each_4 ⟨fun q => absurd q (by decide), fun _ => sC_isCase (fun q => ?_) (fun j hj e => ?_)⟩
    · refine vC_each_11 rfl ⟨fun q => absurd rfl q, fun _ => ?_⟩
      have hh := h M z.1
      rwa [fEach, nC q, Bool.and_false, if_neg (by decide)] at hh
    · subst e
      refine vC_each_11 rfl ⟨fun _ => zC_weighNow z (fun N w => vC_each_20 rfl (g10_11 w.1) (zWe_opinion w hi hj (vC_each_29 ?_))), fun q => absurd q (by decide)⟩
      have hh := h N w.1.1
      rwa [fEach, yC hj, yD hi, if_pos (by decide)] at hh
end CLS
