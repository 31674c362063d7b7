/-! ===== the class as it lies between calls; its queries come to an end and change nothing but what weighing uses ===== -/
def cgt : List (Nat × Nat × Nat) := [(10, 0, 70), (10, 1, 199), (10, 2, 258), (10, 3, 324), (10, 11, 5192), (10, 12, 5312), (10, 13, 5459), (70, 0, 145), (199, 0, 70), (258, 0, 199), (324, 0, 199), (5192, 3, 5261), (5312, 0, 5192), (5312, 1, 5392), (5459, 0, 5509), (5459, 1, 5637), (5459, 2, 5765), (5459, 3, 5893), (5509, 0, 5588), (5637, 0, 5716), (5765, 0, 5844), (5893, 0, 5972)]
def CX (M : Mm) (L P R S U : Nat) : Prop := (∀ q ∈ cgt, gr M q.1 q.2.1 = some q.2.2) ∧ (gr M 10 4 = some L ∧ gr M 10 5 = some P ∧ gr M 10 6 = some R ∧ gr M 10 7 = some S ∧ gr M 10 8 = some U) ∧ (LA L ∧ LA P ∧ RA R ∧ RA S ∧ RA U) ∧ (LR M L ∧ LR M P) ∧ (L ≠ P ∧ R ≠ S ∧ R ≠ U ∧ S ≠ U)
section CX1
variable {M N : Mm} {L P R S U : Nat}
theorem cxg (c : CX M L P R S U) (q : Nat × Nat × Nat) (h : q ∈ cgt) : gr M q.1 q.2.1 = some q.2.2 := c.1 q h
theorem cx_gr (c : CX M L P R S U) (f : ∀ a j, ¬ (a = 5192 ∧ j < 2) → gr N a j = gr M a j) : CX N L P R S U := by
  obtain ⟨c1, ⟨c2, c3, c4, c5, c6⟩, c7, ⟨c8, c9⟩, c10⟩ := c
  have n5 : ∀ q ∈ cgt, ¬ (q.1 = 5192 ∧ q.2.1 < 2) := by decide
  have lr : ∀ {L}, LA L → LR M L → LR N L := fun {L} hL h => by
    refine ⟨h.1, fun q hq => ?_, fun w hw => ?_⟩
    · rw [f L q.1 (fun e => by unfold LA at hL; omega)]; exact h.2.1 q hq
    · rw [f (L + 81) w (fun e => by unfold LA at hL; omega)]; exact h.2.2 w hw
  refine ⟨fun q hq => (f _ _ (n5 q hq)).trans (c1 q hq), ⟨?_, ?_, ?_, ?_, ?_⟩, c7, ⟨lr c7.1 c8, lr c7.2.1 c9⟩, c10⟩
  · rw [f _ _ (by decide)]; exact c2
  · rw [f _ _ (by decide)]; exact c3
  · rw [f _ _ (by decide)]; exact c4
  · rw [f _ _ (by decide)]; exact c5
  · rw [f _ _ (by decide)]; exact c6
theorem cx_cq (f : CQ M N) (c : CX M L P R S U) : CX N L P R S U := cx_gr c f.2.1
theorem cx11 (c : CX M L P R S U) : gr M 10 11 = some 5192 := cxg c (10, 11, 5192) (by decide)
theorem cx4 (c : CX M L P R S U) : gr M 10 4 = some L := c.2.1.1
theorem cx6 (c : CX M L P R S U) : gr M 10 6 = some R := c.2.1.2.2.1
theorem cxlr (c : CX M L P R S U) : LR M L := c.2.2.2.1.1
theorem cxL (c : CX M L P R S U) : LA L := c.2.2.1.1
theorem cxR (c : CX M L P R S U) : RA R := c.2.2.1.2.2.1
theorem raM3 {R : Nat} (h : RA R) : R % 64 = 3 := by unfold RA at h; omega
theorem cxw (c : CX M L P R S U) (b : Int32) : WH (bgn M L R b) L R := wh_bgn b (cxlr c) (cxL c) (cxR c) (cxg c (5192, 3, 5261) (by decide))
theorem lC_weighNow {K : Mm → Prop} (c : CX M L P R S U) (h : K (bgn M L R (gi M 10 9))) : CV mC_weighNow [.ref 10] M K :=
  call_of rfl (Nat.le_of_ble_eq_true rfl) rfl (vC_weighNow_0 rfl (cx11 c) (cx4 c) (cx6 c) (sWe_begin (cxlr c) (cxL c) (cxR c) (vC_weighNow_19 h)))
theorem lC_manyOrLeast {v : Int64} {w : Int32} {K : Int32 → Mm → Prop} (h : ∀ r, K r M) : CI mC_manyOrLeast [.long v, .int w] M K :=
  call_of rfl (Nat.le_of_ble_eq_true rfl) rfl (vC_manyOrLeast_0 ⟨fun _ => call_of rfl (Nat.le_of_ble_eq_true rfl) rfl (vC_least_0 ⟨fun _ => sJl_ntz (vC_least_15 (vC_manyOrLeast_15 (h _))), fun _ => vC_manyOrLeast_15 (h _)⟩), fun _ => sJl_bitCount (fun _ _ => vC_manyOrLeast_8 (h _))⟩)
theorem lC_least {v : Int64} {K : Int32 → Mm → Prop} (h : ∀ r, K r M) : CI mC_least [.long v] M K :=
  call_of rfl (Nat.le_of_ble_eq_true rfl) rfl (vC_least_0 ⟨fun _ => sJl_ntz (vC_least_15 (h _)), fun _ => h _⟩)
theorem lC_fault {K : Int32 → Mm → Prop} (h : K (gi M 10 10) M) : CI mC_fault [.ref 10] M K := call_of rfl (Nat.le_of_ble_eq_true rfl) rfl (vC_fault_0 rfl h)
theorem lC_isWord {v : Int32} {D : Nat} {K : Int32 → Mm → Prop} (c : CX M L P R S U) (hD : gi M L 1 = nI D) (hD2 : D ≤ 24) (h0 : (v < 0 ∨ nI D ≤ v) → K 0 M) (h1 : ∀ w, w < D → v = nI w → K 1 M) : CI mC_isWord [.ref 10, .int v] M K := by
  refine call_of rfl (Nat.le_of_ble_eq_true rfl) rfl (vC_isWord_0 rfl (cx4 c) ⟨fun q => h0 ?_, fun q => ?_⟩)
  · rw [hD] at q; exact q.imp id (fun q => q.2)
  · rw [hD] at q
    obtain ⟨i, hi, e⟩ := rng (n := D) rfl (by omega) q.1 q.2
    exact h1 i hi e
theorem gwd (c : CX M L P R S U) {i : Nat} (hi : i < 24) : gr M (L + 81) (nI i).toNatClampNeg = some (L + 776 + 64 * i) := by rw [ncl (by omega)]; exact (cxlr c).2.2 i hi
theorem lC_word {v w : Int32} {D : Nat} {K : Int32 → Mm → Prop} (c : CX M L P R S U) (hD : gi M L 1 = nI D) (hD2 : D ≤ 24) (h : ∀ r, K r M) : CI mC_word [.ref 10, .int v, .int w] M K :=
  call_of rfl (Nat.le_of_ble_eq_true rfl) rfl (vC_word_0 rfl (lC_isWord c hD hD2 (fun _ => vC_word_5 rfl (cx4 c) (lr0 (cxlr c)) ⟨fun q => absurd rfl q, fun _ => h _⟩) (fun i hi e => vC_word_5 rfl (cx4 c) (lr0 (cxlr c)) ⟨fun _ => ⟨by rw [e]; exact vin (show i < 24 by omega) (by decide), L + 776 + 64 * i, by rw [e]; exact gwd c (by omega), fun _ => h _, fun _ => h _, fun _ => h _, fun _ => h _, fun _ => h _, fun _ => h _, fun _ => h _, fun _ => h _, fun _ => h _, fun _ => h _⟩, fun q => absurd q (by decide)⟩)))
theorem lC_says {v x : Int32} {D : Nat} {K : Int32 → Mm → Prop} (c : CX M L P R S U) (hD : gi M L 1 = nI D) (hD2 : D ≤ 24) (h : ∀ r, K r M) : CI mC_says [.ref 10, .int v, .int x] M K := by
  refine call_of rfl (Nat.le_of_ble_eq_true rfl) rfl (vC_says_0 rfl (lC_isWord c hD hD2 (fun _ => vC_says_5 ⟨fun _ => h _, fun q => absurd rfl q⟩) (fun i hi e => vC_says_5 ⟨fun q => absurd q (by decide), fun _ => sC_isCase (fun _ => vC_says_12 rfl (cx4 c) ⟨fun q => absurd rfl q, fun _ => h _⟩) (fun k hk ek => vC_says_12 rfl (cx4 c) ⟨fun _ => ?_, fun q => absurd q (by decide)⟩)⟩)))
  subst ek
  exact sLi_saying (cxlr c) hk (vC_says_26 (h _))
theorem lC_words {w : Int32} {K : Int32 → Mm → Prop} (c : CX M L P R S U) (h : ∀ r, K r M) : CI mC_words [.ref 10, .int w] M K :=
  call_of rfl (Nat.le_of_ble_eq_true rfl) rfl (vC_words_0 rfl (cx4 c) (cx6 c) ⟨fun _ => h _, fun _ => h _, fun _ => sLi_counting (cxlr c) (raM3 (cxR c)) (vC_words_59 (h _)), fun _ => h _⟩)
theorem lC_meets {x w : Int32} {K : Int32 → Mm → Prop} (c : CX M L P R S U) (h : ∀ r, K r M) : CI mC_meets [.ref 10, .int x, .int w] M K := by
  refine call_of rfl (Nat.le_of_ble_eq_true rfl) rfl (vC_meets_0 (sC_isCase (fun _ => vC_meets_4 rfl (cx4 c) (lr3 (cxlr c)) ⟨fun q => absurd rfl q, fun _ => h _⟩) (fun k hk ek => vC_meets_4 rfl (cx4 c) (lr3 (cxlr c)) ⟨fun _ => ⟨fun _ => ?_, fun _ => ⟨?_, h _⟩, fun _ => ?_, fun _ => h _⟩, fun q => absurd q (by decide)⟩)))
  · subst ek; exact sLi_speaking (cxlr c) hk (vC_meets_44 (h _))
  · subst ek; exact vin hk (by decide)
  · subst ek; exact sLi_speaking (cxlr c) hk (vC_meets_63 rfl (cx4 c) (cx6 c) (sLi_counting (cxlr c) (raM3 (cxR c)) (vC_meets_78 (h _))))
theorem lC_steps {v : Int32} {D : Nat} {K : Int32 → Mm → Prop} (c : CX M L P R S U) (hD : gi M L 1 = nI D) (hD2 : D ≤ 24) (h : ∀ r, K r M) : CI mC_steps [.ref 10, .int v] M K :=
  call_of rfl (Nat.le_of_ble_eq_true rfl) rfl (vC_steps_0 rfl (lC_isWord c hD hD2 (fun _ => vC_steps_5 rfl (cx4 c) (lr0 (cxlr c)) ⟨fun _ => h _, fun q => absurd rfl q⟩) (fun i hi e => vC_steps_5 rfl (cx4 c) (lr0 (cxlr c)) ⟨fun q => absurd q (by decide), fun _ => ⟨by rw [e]; exact vin (show i < 24 by omega) (by decide), L + 776 + 64 * i, by rw [e]; exact gwd c (by omega), h _⟩⟩)))
theorem lC_each {d x : Int32} {K : Int32 → Mm → Prop} (c : CX M L P R S U) (h : ∀ r N, CQ M N → K r N) : CI mC_each [.ref 10, .int d, .int x] M K := by
  have n := fun r => h r M (cq_rf M)
  have cB := cx_cq (cq_bgn M L R (gi M 10 9)) c
  refine call_of rfl (Nat.le_of_ble_eq_true rfl) rfl (vC_each_0 (sC_isDoctor (fun _ => vC_each_4 ⟨fun _ => n _, fun q => absurd rfl q⟩) (fun i hi ei => vC_each_4 ⟨fun q => absurd q (by decide), fun _ => sC_isCase (fun _ => vC_each_11 rfl ⟨fun q => absurd rfl q, fun _ => n _⟩) (fun k hk ek => vC_each_11 rfl ⟨fun _ => lC_weighNow c (vC_each_20 rfl (cx11 cB) ?_), fun q => absurd q (by decide)⟩)⟩)))
  subst ei ek
  exact sWe_opinion (cxw c _) hi hk (vC_each_29 (h _ _ (cq_bgn _ _ _ _)))
theorem lC_clash {d w : Int32} {K : Int32 → Mm → Prop} (c : CX M L P R S U) (h : ∀ r N, CQ M N → K r N) : CI mC_clash [.ref 10, .int d, .int w] M K := by
  have n := fun r => h r M (cq_rf M)
  have cB := cx_cq (cq_bgn M L R (gi M 10 9)) c
  refine call_of rfl (Nat.le_of_ble_eq_true rfl) rfl (vC_clash_0 (sC_isDoctor (fun _ => vC_clash_4 ⟨fun _ => n _, fun q => absurd rfl q⟩) (fun i hi ei => vC_clash_4 ⟨fun q => absurd q (by decide), fun _ => sC_isEither (fun _ _ => vC_clash_11 rfl ⟨fun q => absurd rfl q, fun _ => n _⟩) (fun _ => vC_clash_11 rfl ⟨fun _ => lC_weighNow c (vC_clash_20 ?_), fun q => absurd q (by decide)⟩)⟩)))
  subst ei
  refine lp 64 (P := fun k => ∀ v, X mC_clash 25 [(0, .ref 10), (1, .int (nI i)), (2, .int w), (3, .long v), (5, .int (nI k))] [] (bgn M L R (gi M 10 9)) (mC mC_clash, mS mC_clash) (QI K)) (fun k hk ih v => ?_) (fun v => ?_) _
  · refine vC_clash_25 rfl (cx11 cB) ⟨fun q => absurd q (nge rfl (by decide) hk), fun _ => sWe_clashes (cxw c _) hi hk (vC_clash_42 ⟨fun _ => ?_, fun _ => ?_⟩)⟩
    · rw [nI_s]; exact ih _
    · rw [nI_s]; exact ih _
  · exact vC_clash_25 rfl (cx11 cB) ⟨fun _ => lC_manyOrLeast (fun _ => vC_clash_63 (h _ _ (cq_bgn _ _ _ _))), fun q => absurd (nself rfl) q⟩
theorem lC_sides {d e w : Int32} {K : Int32 → Mm → Prop} (c : CX M L P R S U) (h : ∀ r N, CQ M N → K r N) : CI mC_sides [.ref 10, .int d, .int e, .int w] M K := by
  have n := fun r => h r M (cq_rf M)
  have cB := cx_cq (cq_bgn M L R (gi M 10 9)) c
  refine call_of rfl (Nat.le_of_ble_eq_true rfl) rfl (vC_sides_0 (sC_isDoctor (fun _ => vC_sides_4 ⟨fun _ => n _, fun q => absurd rfl q⟩) (fun i hi ei => vC_sides_4 ⟨fun q => absurd q (by decide), fun _ => sC_isDoctor (fun _ => vC_sides_11 rfl ⟨fun _ => n _, fun q => absurd rfl q.1⟩) (fun j hj ej => vC_sides_11 rfl ⟨fun _ => n _, fun _ => lC_weighNow c (vC_sides_34 ?_)⟩)⟩)))
  subst ei ej
  refine lp 64 (P := fun k => ∀ x y, X mC_sides 43 [(0, .ref 10), (1, .int (nI i)), (2, .int (nI j)), (3, .int w), (4, .long x), (6, .long y), (8, .int (nI k))] [] (bgn M L R (gi M 10 9)) (mC mC_sides, mS mC_sides) (QI K)) (fun k hk ih x y => ?_) (fun x y => ?_) _ _
  · refine vC_sides_43 rfl (cx11 cB) ⟨fun q => absurd q (nge rfl (by decide) hk), fun _ => sWe_opinion (cxw c _) hi hk (vC_sides_60 rfl (cx11 cB) (sWe_opinion (cxw c _) hj hk (vC_sides_72 ⟨fun _ => ?_, fun _ => vC_sides_105 ?_, fun _ => vC_sides_105 ?_⟩)))⟩
    · rw [nI_s]; exact ih _ _
    · rw [nI_s]; exact ih _ _
    · rw [nI_s]; exact ih _ _
  · exact vC_sides_43 rfl (cx11 cB) ⟨fun _ => ⟨fun _ => sJl_bitCount (fun _ _ => vC_sides_168 (h _ _ (cq_bgn _ _ _ _))), fun _ => sJl_bitCount (fun _ _ => vC_sides_174 (h _ _ (cq_bgn _ _ _ _))), fun _ => lC_least (fun _ => vC_sides_180 (h _ _ (cq_bgn _ _ _ _)))⟩, fun q => absurd (nself rfl) q⟩
theorem cqb {b : Int32} (f : WQ (bgn M L R b) N) : CQ M N := cq_tr (cq_bgn M L R b) (cq_wq f)
theorem lC_hangs {d w : Int32} {K : Int32 → Mm → Prop} (c : CX M L P R S U) (h : ∀ r N, CQ M N → K r N) : CI mC_hangs [.ref 10, .int d, .int w] M K := by
  have n := fun r => h r M (cq_rf M)
  refine call_of rfl (Nat.le_of_ble_eq_true rfl) rfl (vC_hangs_0 (sC_isDoctor (fun _ => vC_hangs_4 ⟨fun _ => n _, fun q => absurd rfl q⟩) (fun i hi ei => vC_hangs_4 ⟨fun q => absurd q (by decide), fun _ => sC_isEither (fun _ _ => vC_hangs_11 rfl ⟨fun q => absurd rfl q, fun _ => n _⟩) (fun _ => vC_hangs_11 rfl ⟨fun _ => lC_weighNow c (vC_hangs_20 ?_), fun q => absurd q (by decide)⟩)⟩)))
  subst ei
  refine lp 64 (P := fun k => ∀ v N, WQ (bgn M L R (gi M 10 9)) N → X mC_hangs 25 [(0, .ref 10), (1, .int (nI i)), (2, .int w), (3, .long v), (5, .int (nI k))] [] N (mC mC_hangs, mS mC_hangs) (QI K)) (fun k hk ih v N qN => ?_) (fun v N qN => ?_) _ _ (wq_rf _)
  · have wN := wh_gr (cxw c (gi M 10 9)) qN.1
    have cN := cx_cq (cqb qN) c
    refine vC_hangs_25 rfl (cx11 cN) ⟨fun q => absurd q (nge rfl (by decide) hk), fun _ => eWe_weigh wN (cxL c) (cxR c) hk (fun O qO _ => ?_)⟩
    have qBO := wq_tr qN qO
    have cO := cx_cq (cqb qBO) c
    refine vC_hangs_41 rfl (cx11 cO) (lWe_heldIf (wh_gr wN qO.1) hi (fun _ => vC_hangs_51 rfl (cx11 cO) ⟨fun _ => ?_, fun _ => ?_⟩))
    · rw [nI_s]; exact ih _ _ qBO
    · rw [nI_s]; exact ih _ _ qBO
  · exact vC_hangs_25 rfl (cx11 (cx_cq (cqb qN) c)) ⟨fun _ => lC_manyOrLeast (fun _ => vC_hangs_79 (h _ _ (cqb qN))), fun q => absurd (nself rfl) q⟩
theorem lC_held {x w : Int32} {K : Int32 → Mm → Prop} (c : CX M L P R S U) (h : ∀ r N, CQ M N → K r N) : CI mC_held [.ref 10, .int x, .int w] M K := by
  have n := fun r => h r M (cq_rf M)
  refine call_of rfl (Nat.le_of_ble_eq_true rfl) rfl (vC_held_0 (sC_isCase (fun _ => vC_held_4 rfl ⟨fun q => absurd rfl q, fun _ => n _⟩) (fun k hk ek => vC_held_4 rfl ⟨fun _ => lC_weighNow c (vC_held_13 rfl (cx11 (cx_cq (cq_bgn M L R (gi M 10 9)) c)) ?_), fun q => absurd q (by decide)⟩)))
  subst ek
  refine eWe_weigh (cxw c _) (cxL c) (cxR c) hk (fun O qO _ => ?_)
  have f := fun r => h r O (cqb qO)
  exact vC_held_21 rfl (cx11 (cx_cq (cqb qO) c)) ⟨fun _ => f _, fun _ => f _, fun _ => f _, fun _ => f _, fun _ => f _⟩
theorem lC_isKind {w : Int32} {K : Int32 → Mm → Prop} (h0 : K 0 M) (h1 : K 1 M) : CI mC_isKindOfCases [.int w] M K :=
  call_of rfl (Nat.le_of_ble_eq_true rfl) rfl (vC_isKindOfCases_0 ⟨fun _ => ⟨fun _ => h0, fun _ => h1⟩, fun _ => h1⟩)
theorem lC_casesNow {w : Int32} {K : Int64 → Mm → Prop} (c : CX M L P R S U) (h : ∀ r N, CQ M N → K r N) : CJ mC_casesNow [.ref 10, .int w] M K :=
  call_of rfl (Nat.le_of_ble_eq_true rfl) rfl (vC_casesNow_0 rfl (lC_weighNow c (vC_casesNow_4 rfl (cx11 (cx_cq (cq_bgn M L R (gi M 10 9)) c)) (eWe_casesOf (cxw c _) (cxL c) (cxR c) (fun N qN => vC_casesNow_12 (h _ N (cqb qN)))))))
theorem lC_cases {w : Int32} {K : Int64 → Mm → Prop} (c : CX M L P R S U) (h : ∀ r N, CQ M N → K r N) : CJ mC_cases [.ref 10, .int w] M K :=
  call_of rfl (Nat.le_of_ble_eq_true rfl) rfl (vC_cases_0 (lC_isKind (vC_cases_4 rfl ⟨fun _ => h _ M (cq_rf M), fun q => absurd rfl q⟩) (vC_cases_4 rfl ⟨fun q => absurd q (by decide), fun _ => lC_casesNow c (fun r N qN => vC_cases_12 (h r N qN))⟩)))
theorem lC_many {w : Int32} {K : Int32 → Mm → Prop} (c : CX M L P R S U) (h : ∀ r N, CQ M N → K r N) : CI mC_many [.ref 10, .int w] M K :=
  call_of rfl (Nat.le_of_ble_eq_true rfl) rfl (vC_many_0 (lC_isKind (vC_many_4 rfl ⟨fun _ => h _ M (cq_rf M), fun q => absurd rfl q⟩) (vC_many_4 rfl ⟨fun q => absurd q (by decide), fun _ => lC_casesNow c (fun r N qN => vC_many_12 (sJl_bitCount (fun _ _ => vC_many_15 (h _ N qN))))⟩)))
theorem lC_reckon {x b y n a : Int32} {K : Int32 → Mm → Prop} (c : CX M L P R S U) (h : ∀ r N, CQ M N → K r N) : CI mC_reckon [.ref 10, .int x, .int b, .int y, .int n, .int a] M K := by
  have n' := fun r => h r M (cq_rf M)
  refine call_of rfl (Nat.le_of_ble_eq_true rfl) rfl (vC_reckon_0 (sC_isCase (fun _ => vC_reckon_4 rfl ⟨fun q => absurd rfl q, fun _ => n' _⟩) (fun k hk ek => vC_reckon_4 rfl ⟨fun _ => lC_weighNow c (vC_reckon_13 rfl (cx11 (cx_cq (cq_bgn M L R (gi M 10 9)) c)) ?_), fun q => absurd q (by decide)⟩)))
  subst ek
  refine eWe_weigh (cxw c _) (cxL c) (cxR c) hk (fun O qO _ => ?_)
  have f := fun r => h r O (cqb qO)
  exact vC_reckon_21 rfl (cx11 (cx_cq (cqb qO) c)) ⟨fun _ => f _, fun _ => f _, fun _ => f _, fun _ => f _, fun _ => f _⟩
theorem lC_widest {w : Int32} {K : Int32 → Mm → Prop} (c : CX M L P R S U) (h : ∀ r N, CQ M N → K r N) : CI mC_widest [.ref 10, .int w] M K := by
  have n := fun r => h r M (cq_rf M)
  refine call_of rfl (Nat.le_of_ble_eq_true rfl) rfl (vC_widest_0 (sC_isEither (fun _ _ => vC_widest_4 rfl ⟨fun q => absurd rfl q, fun _ => n _⟩) (fun _ => vC_widest_4 rfl ⟨fun _ => lC_weighNow c (vC_widest_13 ?_), fun q => absurd q (by decide)⟩)))
  refine lp 64 (P := fun k => ∀ x y z N, WQ (bgn M L R (gi M 10 9)) N → X mC_widest 24 [(0, .ref 10), (1, .int w), (2, .int x), (3, .int y), (4, .int z), (5, .int (nI k))] [] N (mC mC_widest, mS mC_widest) (QI K)) (fun k hk ih x y z N qN => ?_) (fun x y z N qN => ?_) _ _ _ _ (wq_rf _)
  · have wN := wh_gr (cxw c (gi M 10 9)) qN.1
    have nk := nge (c := 64) (i := k) (n := 64) rfl (by decide) hk
    refine vC_widest_24 rfl (cx11 (cx_cq (cqb qN) c)) ⟨fun q => ?_, fun q => absurd q.1 nk, fun _ => eWe_weigh wN (cxL c) (cxR c) hk (fun O qO _ => uC_widest_40 rfl (cx11 (cx_cq (cqb (wq_tr qN qO)) c)) ⟨fun _ => ?_, fun _ => ?_⟩)⟩
    · exfalso
      rcases q with q | q <;> exact nk q.1
    · rw [nI_s]; exact ih _ _ _ _ (wq_tr qN qO)
    · rw [nI_s]; exact ih _ _ _ _ (wq_tr qN qO)
  · have l : (64 : Int32) ≤ nI 64 := nself rfl
    exact vC_widest_24 rfl (cx11 (cx_cq (cqb qN) c)) ⟨fun _ => h _ _ (cqb qN), fun _ => h _ _ (cqb qN), fun q => absurd l q⟩
theorem lC_near {x a w : Int32} {K : Int32 → Mm → Prop} (c : CX M L P R S U) (h : ∀ r N, CQ M N → K r N) : CI mC_near [.ref 10, .int x, .int a, .int w] M K := by
  have n := fun r => h r M (cq_rf M)
  refine call_of rfl (Nat.le_of_ble_eq_true rfl) rfl (vC_near_0 (sC_isCase (fun _ => vC_near_4 ⟨fun _ => n _, fun q => absurd rfl q⟩) (fun j hj ej => vC_near_4 ⟨fun q => absurd q (by decide), fun _ => sC_isEither (fun _ _ => vC_near_11 ⟨fun _ => n _, fun q => absurd rfl q⟩) (fun _ => vC_near_11 ⟨fun q => absurd q (by decide), fun _ => sC_isEither (fun _ _ => vC_near_18 rfl ⟨fun q => absurd rfl q, fun _ => n _⟩) (fun _ => vC_near_18 rfl ⟨fun _ => lC_weighNow c (vC_near_27 ?_), fun q => absurd q (by decide)⟩)⟩)⟩)))
  refine lp 64 (P := fun k => ∀ y z N, WQ (bgn M L R (gi M 10 9)) N → X mC_near 38 [(0, .ref 10), (1, .int x), (2, .int a), (3, .int w), (4, .int y), (5, .int z), (6, .int (nI k))] [] N (mC mC_near, mS mC_near) (QI K)) (fun k hk ih y z N qN => ?_) (fun y z N qN => ?_) _ _ _ (wq_rf _)
  · have wN := wh_gr (cxw c (gi M 10 9)) qN.1
    have nk := nge (c := 64) (i := k) (n := 64) rfl (by decide) hk
    refine vC_near_38 ⟨fun q => ?_, fun q => absurd q.1 nk, fun _ => sJi_bitCount (fun _ _ => vC_near_52 rfl (cx11 (cx_cq (cqb qN) c)) ⟨fun _ => ?_, fun _ => eWe_heldIn wN (cxL c) (cxR c) hk (fun O qO _ => vC_near_70 ⟨fun _ => ?_, fun _ => ?_⟩)⟩)⟩
    · exfalso
      rcases q with q | q <;> exact nk q.1
    · rw [nI_s]; exact ih _ _ _ qN
    · rw [nI_s]; exact ih _ _ _ (wq_tr qN qO)
    · rw [nI_s]; exact ih _ _ _ (wq_tr qN qO)
  · have l : (64 : Int32) ≤ nI 64 := nself rfl
    exact vC_near_38 ⟨fun _ => h _ _ (cqb qN), fun _ => h _ _ (cqb qN), fun q => absurd l q⟩
end CX1
