section MG72
/-! ===== the class as it lies between calls; its queries come to an end and change nothing but what weighing uses ===== -/
def cgt : List (Nat × Nat × Nat) := [(10, 0, 70), (10, 1, 199), (10, 2, 258), (10, 3, 324), (10, 11, 5192), (10, 12, 5312), (10, 13, 5459), (70, 0, 145), (199, 0, 70), (258, 0, 199), (324, 0, 199), (5192, 3, 5261), (5312, 0, 5192), (5312, 1, 5392), (5459, 0, 5509), (5459, 1, 5637), (5459, 2, 5765), (5459, 3, 5893), (5509, 0, 5588), (5637, 0, 5716), (5765, 0, 5844), (5893, 0, 5972)]
def CX (M : Mm) (L P R S U : Nat) : Prop := (∀ q ∈ cgt, gr M q.1 q.2.1 = some q.2.2) ∧ (gr M 10 4 = some L ∧ gr M 10 5 = some P ∧ gr M 10 6 = some R ∧ gr M 10 7 = some S ∧ gr M 10 8 = some U) ∧ (LA L ∧ LA P ∧ RA R ∧ RA S ∧ RA U) ∧ (LR M L ∧ LR M P) ∧ (L ≠ P ∧ R ≠ S ∧ R ≠ U ∧ S ≠ U)
section CX1
variable {M N : Mm} {L P R S U : Nat}
theorem cxg (c : CX M L P R S U) (q : Nat × Nat × Nat) (h : q ∈ cgt) : gr M q.1 q.2.1 = some q.2.2 := c.1 q h
theorem cx_gr (c : CX M L P R S U) (f : ∀ a j, ¬ (a = 5192 ∧ j < 2) → gr N a j = gr M a j) : CX N L P R S U := by
  obtain ⟨c1, ⟨c2, c3, c4, c5, c6⟩, c7, ⟨c8, c9⟩, c10⟩ := c
  have n5 : ∀ q ∈ cgt, ¬ (q.1 = 5192 ∧ q.2.1 < 2) := by decide
  have lr : ∀ {L}, LA L → LR M L → LR N L := fun {L} hL h => by
    refine ⟨h.1, fun q hq => ?_, fun w hw => ?_⟩
    · rw [f L q.1 (fun e => by unfold LA at hL; omega)]; exact h.2.1 q hq
    · rw [f (L + 81) w (fun e => by unfold LA at hL; omega)]; exact h.2.2 w hw
  refine ⟨fun q hq => (f _ _ (n5 q hq)).trans (c1 q hq), ⟨?_, ?_, ?_, ?_, ?_⟩, c7, ⟨lr c7.1 c8, lr c7.2.1 c9⟩, c10⟩
  · rw [f _ _ (by decide)]; exact c2
  · rw [f _ _ (by decide)]; exact c3
  · rw [f _ _ (by decide)]; exact c4
  · rw [f _ _ (by decide)]; exact c5
  · rw [f _ _ (by decide)]; exact c6
theorem cx_cq (f : CQ M N) (c : CX M L P R S U) : CX N L P R S U := cx_gr c f.2.1
theorem cx11 (c : CX M L P R S U) : gr M 10 11 = some 5192 := cxg c (10, 11, 5192) (by decide)
theorem cx4 (c : CX M L P R S U) : gr M 10 4 = some L := c.2.1.1
theorem cx6 (c : CX M L P R S U) : gr M 10 6 = some R := c.2.1.2.2.1
theorem cxlr (c : CX M L P R S U) : LR M L := c.2.2.2.1.1
theorem cxL (c : CX M L P R S U) : LA L := c.2.2.1.1
theorem cxR (c : CX M L P R S U) : RA R := c.2.2.1.2.2.1
theorem raM3 {R : Nat} (h : RA R) : R % 64 = 3 := by unfold RA at h; omega
theorem cxw (c : CX M L P R S U) (b : Int32) : WH (bgn M L R b) L R := wh_bgn b (cxlr c) (cxL c) (cxR c) (cxg c (5192, 3, 5261) (by decide))
theorem lC_weighNow {K : Mm → Prop} (c : CX M L P R S U) (h : K (bgn M L R (gi M 10 9))) : CV mC_weighNow [.ref 10] M K :=
  call_of rfl (Nat.le_of_ble_eq_true rfl) rfl (vC_weighNow_0 rfl (cx11 c) (cx4 c) (cx6 c) (sWe_begin (cxlr c) (cxL c) (cxR c) (vC_weighNow_19 h)))
theorem lC_manyOrLeast {v : Int64} {w : Int32} {K : Int32 → Mm → Prop} (h : ∀ r, K r M) : CI mC_manyOrLeast [.long v, .int w] M K :=
  call_of rfl (Nat.le_of_ble_eq_true rfl) rfl (vC_manyOrLeast_0 ⟨fun _ => call_of rfl (Nat.le_of_ble_eq_true rfl) rfl (vC_least_0 ⟨fun _ => sJl_ntz (vC_least_15 (vC_manyOrLeast_15 (h _))), fun _ => vC_manyOrLeast_15 (h _)⟩), fun _ => sJl_bitCount (fun _ _ => vC_manyOrLeast_8 (h _))⟩)
theorem lC_least {v : Int64} {K : Int32 → Mm → Prop} (h : ∀ r, K r M) : CI mC_least [.long v] M K :=
  call_of rfl (Nat.le_of_ble_eq_true rfl) rfl (vC_least_0 ⟨fun _ => sJl_ntz (vC_least_15 (h _)), fun _ => h _⟩)
theorem lC_fault {K : Int32 → Mm → Prop} (h : K (gi M 10 10) M) : CI mC_fault [.ref 10] M K := call_of rfl (Nat.le_of_ble_eq_true rfl) rfl (vC_fault_0 rfl h)
theorem lC_isWord {v : Int32} {D : Nat} {K : Int32 → Mm → Prop} (c : CX M L P R S U) (hD : gi M L 1 = nI D) (hD2 : D ≤ 24) (h0 : (v < 0 ∨ nI D ≤ v) → K 0 M) (h1 : ∀ w, w < D → v = nI w → K 1 M) : CI mC_isWord [.ref 10, .int v] M K := by
  refine call_of rfl (Nat.le_of_ble_eq_true rfl) rfl (vC_isWord_0 rfl (cx4 c) ⟨fun q => h0 ?_, fun q => ?_⟩)
  · rw [hD] at q; exact q.imp id (fun q => q.2)
  · rw [hD] at q
    obtain ⟨i, hi, e⟩ := rng (n := D) rfl (by omega) q.1 q.2
    exact h1 i hi e
theorem gwd (c : CX M L P R S U) {i : Nat} (hi : i < 24) : gr M (L + 81) (nI i).toNatClampNeg = some (L + 776 + 64 * i) := by rw [ncl (by omega)]; exact (cxlr c).2.2 i hi
theorem lC_word {v w : Int32} {D : Nat} {K : Int32 → Mm → Prop} (c : CX M L P R S U) (hD : gi M L 1 = nI D) (hD2 : D ≤ 24) (h : ∀ r, K r M) : CI mC_word [.ref 10, .int v, .int w] M K :=
  call_of rfl (Nat.le_of_ble_eq_true rfl) rfl (vC_word_0 rfl (lC_isWord c hD hD2 (fun _ => vC_word_5 rfl (cx4 c) (lr0 (cxlr c)) ⟨fun q => absurd rfl q, fun _ => h _⟩) (fun i hi e => vC_word_5 rfl (cx4 c) (lr0 (cxlr c)) ⟨fun _ => ⟨by rw [e]; exact vin (show i < 24 by omega) (by decide), L + 776 + 64 * i, by rw [e]; exact gwd c (by omega), fun _ => h _, fun _ => h _, fun _ => h _, fun _ => h _, fun _ => h _, fun _ => h _, fun _ => h _, fun _ => h _, fun _ => h _, fun _ => h _⟩, fun q => absurd q (by decide)⟩)))
theorem lC_says {v x : Int32} {D : Nat} {K : Int32 → Mm → Prop} (c : CX M L P R S U) (hD : gi M L 1 = nI D) (hD2 : D ≤ 24) (h : ∀ r, K r M) : CI mC_says [.ref 10, .int v, .int x] M K := by
  refine call_of rfl (Nat.le_of_ble_eq_true rfl) rfl (vC_says_0 rfl (lC_isWord c hD hD2 (fun _ => vC_says_5 ⟨fun _ => h _, fun q => absurd rfl q⟩) (fun i hi e => vC_says_5 ⟨fun q => absurd q (by decide), fun _ => sC_isCase (fun _ => vC_says_12 rfl (cx4 c) ⟨fun q => absurd rfl q, fun _ => h _⟩) (fun k hk ek => vC_says_12 rfl (cx4 c) ⟨fun _ => ?_, fun q => absurd q (by decide)⟩)⟩)))
  subst ek
  exact sLi_saying (cxlr c) hk (vC_says_26 (h _))
theorem lC_words {w : Int32} {K : Int32 → Mm → Prop} (c : CX M L P R S U) (h : ∀ r, K r M) : CI mC_words [.ref 10, .int w] M K :=
  call_of rfl (Nat.le_of_ble_eq_true rfl) rfl (vC_words_0 rfl (cx4 c) (cx6 c) ⟨fun _ => h _, fun _ => h _, fun _ => sLi_counting (cxlr c) (raM3 (cxR c)) (vC_words_59 (h _)), fun _ => h _⟩)
theorem lC_meets {x w : Int32} {K : Int32 → Mm → Prop} (c : CX M L P R S U) (h : ∀ r, K r M) : CI mC_meets [.ref 10, .int x, .int w] M K := by
  refine call_of rfl (Nat.le_of_ble_eq_true rfl) rfl (vC_meets_0 (sC_isCase (fun _ => vC_meets_4 rfl (cx4 c) (lr3 (cxlr c)) ⟨fun q => absurd rfl q, fun _ => h _⟩) (fun k hk ek => vC_meets_4 rfl (cx4 c) (lr3 (cxlr c)) ⟨fun _ => ⟨fun _ => ?_, fun _ => ⟨?_, h _⟩, fun _ => ?_, fun _ => h _⟩, fun q => absurd q (by decide)⟩)))
  · subst ek; exact sLi_speaking (cxlr c) hk (vC_meets_44 (h _))
  · subst ek; exact vin hk (by decide)
  · subst ek; exact sLi_speaking (cxlr c) hk (vC_meets_63 rfl (cx4 c) (cx6 c) (sLi_counting (cxlr c) (raM3 (cxR c)) (vC_meets_78 (h _))))
theorem lC_steps {v : Int32} {D : Nat} {K : Int32 → Mm → Prop} (c : CX M L P R S U) (hD : gi M L 1 = nI D) (hD2 : D ≤ 24) (h : ∀ r, K r M) : CI mC_steps [.ref 10, .int v] M K :=
  call_of rfl (Nat.le_of_ble_eq_true rfl) rfl (vC_steps_0 rfl (lC_isWord c hD hD2 (fun _ => vC_steps_5 rfl (cx4 c) (lr0 (cxlr c)) ⟨fun _ => h _, fun q => absurd rfl q⟩) (fun i hi e => vC_steps_5 rfl (cx4 c) (lr0 (cxlr c)) ⟨fun q => absurd q (by decide), fun _ => ⟨by rw [e]; exact vin (show i < 24 by omega) (by decide), L + 776 + 64 * i, by rw [e]; exact gwd c (by omega), h _⟩⟩)))
theorem lC_each {d x : Int32} {K : Int32 → Mm → Prop} (c : CX M L P R S U) (h : ∀ r N, CQ M N → K r N) : CI mC_each [.ref 10, .int d, .int x] M K := by
  have n := fun r => h r M (cq_rf M)
  have cB := cx_cq (cq_bgn M L R (gi M 10 9)) c
  refine call_of rfl (Nat.le_of_ble_eq_true rfl) rfl (vC_each_0 (sC_isDoctor (fun _ => vC_each_4 ⟨fun _ => n _, fun q => absurd rfl q⟩) (fun i hi ei => vC_each_4 ⟨fun q => absurd q (by decide), fun _ => sC_isCase (fun _ => vC_each_11 rfl ⟨fun q => absurd rfl q, fun _ => n _⟩) (fun k hk ek => vC_each_11 rfl ⟨fun _ => lC_weighNow c (vC_each_20 rfl (cx11 cB) ?_), fun q => absurd q (by decide)⟩)⟩)))
  subst ei ek
  exact sWe_opinion (cxw c _) hi hk (vC_each_29 (h _ _ (cq_bgn _ _ _ _)))
theorem lC_clash {d w : Int32} {K : Int32 → Mm → Prop} (c : CX M L P R S U) (h : ∀ r N, CQ M N → K r N) : CI mC_clash [.ref 10, .int d, .int w] M K := by
  have n := fun r => h r M (cq_rf M)
  have cB := cx_cq (cq_bgn M L R (gi M 10 9)) c
  refine call_of rfl (Nat.le_of_ble_eq_true rfl) rfl (vC_clash_0 (sC_isDoctor (fun _ => vC_clash_4 ⟨fun _ => n _, fun q => absurd rfl q⟩) (fun i hi ei => vC_clash_4 ⟨fun q => absurd q (by decide), fun _ => sC_isEither (fun _ _ => vC_clash_11 rfl ⟨fun q => absurd rfl q, fun _ => n _⟩) (fun _ => vC_clash_11 rfl ⟨fun _ => lC_weighNow c (vC_clash_20 ?_), fun q => absurd q (by decide)⟩)⟩)))
  subst ei
  refine lp 64 (P := fun k => ∀ v, X mC_clash 25 [(0, .ref 10), (1, .int (nI i)), (2, .int w), (3, .long v), (5, .int (nI k))] [] (bgn M L R (gi M 10 9)) (mC mC_clash, mS mC_clash) (QI K)) (fun k hk ih v => ?_) (fun v => ?_) _
  · refine vC_clash_25 rfl (cx11 cB) ⟨fun q => absurd q (nge rfl (by decide) hk), fun _ => sWe_clashes (cxw c _) hi hk (vC_clash_42 ⟨fun _ => ?_, fun _ => ?_⟩)⟩
    · rw [nI_s]; exact ih _
    · rw [nI_s]; exact ih _
  · exact vC_clash_25 rfl (cx11 cB) ⟨fun _ => lC_manyOrLeast (fun _ => vC_clash_63 (h _ _ (cq_bgn _ _ _ _))), fun q => absurd (nself rfl) q⟩
theorem lC_sides {d e w : Int32} {K : Int32 → Mm → Prop} (c : CX M L P R S U) (h : ∀ r N, CQ M N → K r N) : CI mC_sides [.ref 10, .int d, .int e, .int w] M K := by
  have n := fun r => h r M (cq_rf M)
  have cB := cx_cq (cq_bgn M L R (gi M 10 9)) c
  refine call_of rfl (Nat.le_of_ble_eq_true rfl) rfl (vC_sides_0 (sC_isDoctor (fun _ => vC_sides_4 ⟨fun _ => n _, fun q => absurd rfl q⟩) (fun i hi ei => vC_sides_4 ⟨fun q => absurd q (by decide), fun _ => sC_isDoctor (fun _ => vC_sides_11 rfl ⟨fun _ => n _, fun q => absurd rfl q.1⟩) (fun j hj ej => vC_sides_11 rfl ⟨fun _ => n _, fun _ => lC_weighNow c (vC_sides_34 ?_)⟩)⟩)))
  subst ei ej
  refine lp 64 (P := fun k => ∀ x y, X mC_sides 43 [(0, .ref 10), (1, .int (nI i)), (2, .int (nI j)), (3, .int w), (4, .long x), (6, .long y), (8, .int (nI k))] [] (bgn M L R (gi M 10 9)) (mC mC_sides, mS mC_sides) (QI K)) (fun k hk ih x y => ?_) (fun x y => ?_) _ _
  · refine vC_sides_43 rfl (cx11 cB) ⟨fun q => absurd q (nge rfl (by decide) hk), fun _ => sWe_opinion (cxw c _) hi hk (vC_sides_60 rfl (cx11 cB) (sWe_opinion (cxw c _) hj hk (vC_sides_72 ⟨fun _ => ?_, fun _ => vC_sides_105 ?_, fun _ => vC_sides_105 ?_⟩)))⟩
    · rw [nI_s]; exact ih _ _
    · rw [nI_s]; exact ih _ _
    · rw [nI_s]; exact ih _ _
  · exact vC_sides_43 rfl (cx11 cB) ⟨fun _ => ⟨fun _ => sJl_bitCount (fun _ _ => vC_sides_168 (h _ _ (cq_bgn _ _ _ _))), fun _ => sJl_bitCount (fun _ _ => vC_sides_174 (h _ _ (cq_bgn _ _ _ _))), fun _ => lC_least (fun _ => vC_sides_180 (h _ _ (cq_bgn _ _ _ _)))⟩, fun q => absurd (nself rfl) q⟩
theorem cqb {b : Int32} (f : WQ (bgn M L R b) N) : CQ M N := cq_tr (cq_bgn M L R b) (cq_wq f)
theorem lC_hangs {d w : Int32} {K : Int32 → Mm → Prop} (c : CX M L P R S U) (h : ∀ r N, CQ M N → K r N) : CI mC_hangs [.ref 10, .int d, .int w] M K := by
  have n := fun r => h r M (cq_rf M)
  refine call_of rfl (Nat.le_of_ble_eq_true rfl) rfl (vC_hangs_0 (sC_isDoctor (fun _ => vC_hangs_4 ⟨fun _ => n _, fun q => absurd rfl q⟩) (fun i hi ei => vC_hangs_4 ⟨fun q => absurd q (by decide), fun _ => sC_isEither (fun _ _ => vC_hangs_11 rfl ⟨fun q => absurd rfl q, fun _ => n _⟩) (fun _ => vC_hangs_11 rfl ⟨fun _ => lC_weighNow c (vC_hangs_20 ?_), fun q => absurd q (by decide)⟩)⟩)))
  subst ei
  refine lp 64 (P := fun k => ∀ v N, WQ (bgn M L R (gi M 10 9)) N → X mC_hangs 25 [(0, .ref 10), (1, .int (nI i)), (2, .int w), (3, .long v), (5, .int (nI k))] [] N (mC mC_hangs, mS mC_hangs) (QI K)) (fun k hk ih v N qN => ?_) (fun v N qN => ?_) _ _ (wq_rf _)
  · have wN := wh_gr (cxw c (gi M 10 9)) qN.1
    have cN := cx_cq (cqb qN) c
    refine vC_hangs_25 rfl (cx11 cN) ⟨fun q => absurd q (nge rfl (by decide) hk), fun _ => eWe_weigh wN (cxL c) (cxR c) hk (fun O qO _ => ?_)⟩
    have qBO := wq_tr qN qO
    have cO := cx_cq (cqb qBO) c
    refine vC_hangs_41 rfl (cx11 cO) (lWe_heldIf (wh_gr wN qO.1) hi (fun _ => vC_hangs_51 rfl (cx11 cO) ⟨fun _ => ?_, fun _ => ?_⟩))
    · rw [nI_s]; exact ih _ _ qBO
    · rw [nI_s]; exact ih _ _ qBO
  · exact vC_hangs_25 rfl (cx11 (cx_cq (cqb qN) c)) ⟨fun _ => lC_manyOrLeast (fun _ => vC_hangs_79 (h _ _ (cqb qN))), fun q => absurd (nself rfl) q⟩
theorem lC_held {x w : Int32} {K : Int32 → Mm → Prop} (c : CX M L P R S U) (h : ∀ r N, CQ M N → K r N) : CI mC_held [.ref 10, .int x, .int w] M K := by
  have n := fun r => h r M (cq_rf M)
  refine call_of rfl (Nat.le_of_ble_eq_true rfl) rfl (vC_held_0 (sC_isCase (fun _ => vC_held_4 rfl ⟨fun q => absurd rfl q, fun _ => n _⟩) (fun k hk ek => vC_held_4 rfl ⟨fun _ => lC_weighNow c (vC_held_13 rfl (cx11 (cx_cq (cq_bgn M L R (gi M 10 9)) c)) ?_), fun q => absurd q (by decide)⟩)))
  subst ek
  refine eWe_weigh (cxw c _) (cxL c) (cxR c) hk (fun O qO _ => ?_)
  have f := fun r => h r O (cqb qO)
  exact vC_held_21 rfl (cx11 (cx_cq (cqb qO) c)) ⟨fun _ => f _, fun _ => f _, fun _ => f _, fun _ => f _, fun _ => f _⟩
theorem lC_isKind {w : Int32} {K : Int32 → Mm → Prop} (h0 : K 0 M) (h1 : K 1 M) : CI mC_isKindOfCases [.int w] M K :=
  call_of rfl (Nat.le_of_ble_eq_true rfl) rfl (vC_isKindOfCases_0 ⟨fun _ => ⟨fun _ => h0, fun _ => h1⟩, fun _ => h1⟩)
theorem lC_casesNow {w : Int32} {K : Int64 → Mm → Prop} (c : CX M L P R S U) (h : ∀ r N, CQ M N → K r N) : CJ mC_casesNow [.ref 10, .int w] M K :=
  call_of rfl (Nat.le_of_ble_eq_true rfl) rfl (vC_casesNow_0 rfl (lC_weighNow c (vC_casesNow_4 rfl (cx11 (cx_cq (cq_bgn M L R (gi M 10 9)) c)) (eWe_casesOf (cxw c _) (cxL c) (cxR c) (fun N qN => vC_casesNow_12 (h _ N (cqb qN)))))))
theorem lC_cases {w : Int32} {K : Int64 → Mm → Prop} (c : CX M L P R S U) (h : ∀ r N, CQ M N → K r N) : CJ mC_cases [.ref 10, .int w] M K :=
  call_of rfl (Nat.le_of_ble_eq_true rfl) rfl (vC_cases_0 (lC_isKind (vC_cases_4 rfl ⟨fun _ => h _ M (cq_rf M), fun q => absurd rfl q⟩) (vC_cases_4 rfl ⟨fun q => absurd q (by decide), fun _ => lC_casesNow c (fun r N qN => vC_cases_12 (h r N qN))⟩)))
theorem lC_many {w : Int32} {K : Int32 → Mm → Prop} (c : CX M L P R S U) (h : ∀ r N, CQ M N → K r N) : CI mC_many [.ref 10, .int w] M K :=
  call_of rfl (Nat.le_of_ble_eq_true rfl) rfl (vC_many_0 (lC_isKind (vC_many_4 rfl ⟨fun _ => h _ M (cq_rf M), fun q => absurd rfl q⟩) (vC_many_4 rfl ⟨fun q => absurd q (by decide), fun _ => lC_casesNow c (fun r N qN => vC_many_12 (sJl_bitCount (fun _ _ => vC_many_15 (h _ N qN))))⟩)))
theorem lC_reckon {x b y n a : Int32} {K : Int32 → Mm → Prop} (c : CX M L P R S U) (h : ∀ r N, CQ M N → K r N) : CI mC_reckon [.ref 10, .int x, .int b, .int y, .int n, .int a] M K := by
  have n' := fun r => h r M (cq_rf M)
  refine call_of rfl (Nat.le_of_ble_eq_true rfl) rfl (vC_reckon_0 (sC_isCase (fun _ => vC_reckon_4 rfl ⟨fun q => absurd rfl q, fun _ => n' _⟩) (fun k hk ek => vC_reckon_4 rfl ⟨fun _ => lC_weighNow c (vC_reckon_13 rfl (cx11 (cx_cq (cq_bgn M L R (gi M 10 9)) c)) ?_), fun q => absurd q (by decide)⟩)))
  subst ek
  refine eWe_weigh (cxw c _) (cxL c) (cxR c) hk (fun O qO _ => ?_)
  have f := fun r => h r O (cqb qO)
  exact vC_reckon_21 rfl (cx11 (cx_cq (cqb qO) c)) ⟨fun _ => f _, fun _ => f _, fun _ => f _, fun _ => f _, fun _ => f _⟩
theorem lC_widest {w : Int32} {K : Int32 → Mm → Prop} (c : CX M L P R S U) (h : ∀ r N, CQ M N → K r N) : CI mC_widest [.ref 10, .int w] M K := by
  have n := fun r => h r M (cq_rf M)
  refine call_of rfl (Nat.le_of_ble_eq_true rfl) rfl (vC_widest_0 (sC_isEither (fun _ _ => vC_widest_4 rfl ⟨fun q => absurd rfl q, fun _ => n _⟩) (fun _ => vC_widest_4 rfl ⟨fun _ => lC_weighNow c (vC_widest_13 ?_), fun q => absurd q (by decide)⟩)))
  refine lp 64 (P := fun k => ∀ x y z N, WQ (bgn M L R (gi M 10 9)) N → X mC_widest 24 [(0, .ref 10), (1, .int w), (2, .int x), (3, .int y), (4, .int z), (5, .int (nI k))] [] N (mC mC_widest, mS mC_widest) (QI K)) (fun k hk ih x y z N qN => ?_) (fun x y z N qN => ?_) _ _ _ _ (wq_rf _)
  · have wN := wh_gr (cxw c (gi M 10 9)) qN.1
    have nk := nge (c := 64) (i := k) (n := 64) rfl (by decide) hk
    refine vC_widest_24 rfl (cx11 (cx_cq (cqb qN) c)) ⟨fun q => ?_, fun q => absurd q.1 nk, fun _ => eWe_weigh wN (cxL c) (cxR c) hk (fun O qO _ => uC_widest_40 rfl (cx11 (cx_cq (cqb (wq_tr qN qO)) c)) ⟨fun _ => ?_, fun _ => ?_⟩)⟩
    · exfalso
      rcases q with q | q <;> exact nk q.1
    · rw [nI_s]; exact ih _ _ _ _ (wq_tr qN qO)
    · rw [nI_s]; exact ih _ _ _ _ (wq_tr qN qO)
  · have l : (64 : Int32) ≤ nI 64 := nself rfl
    exact vC_widest_24 rfl (cx11 (cx_cq (cqb qN) c)) ⟨fun _ => h _ _ (cqb qN), fun _ => h _ _ (cqb qN), fun q => absurd l q⟩
theorem lC_near {x a w : Int32} {K : Int32 → Mm → Prop} (c : CX M L P R S U) (h : ∀ r N, CQ M N → K r N) : CI mC_near [.ref 10, .int x, .int a, .int w] M K := by
  have n := fun r => h r M (cq_rf M)
  refine call_of rfl (Nat.le_of_ble_eq_true rfl) rfl (vC_near_0 (sC_isCase (fun _ => vC_near_4 ⟨fun _ => n _, fun q => absurd rfl q⟩) (fun j hj ej => vC_near_4 ⟨fun q => absurd q (by decide), fun _ => sC_isEither (fun _ _ => vC_near_11 ⟨fun _ => n _, fun q => absurd rfl q⟩) (fun _ => vC_near_11 ⟨fun q => absurd q (by decide), fun _ => sC_isEither (fun _ _ => vC_near_18 rfl ⟨fun q => absurd rfl q, fun _ => n _⟩) (fun _ => vC_near_18 rfl ⟨fun _ => lC_weighNow c (vC_near_27 ?_), fun q => absurd q (by decide)⟩)⟩)⟩)))
  refine lp 64 (P := fun k => ∀ y z N, WQ (bgn M L R (gi M 10 9)) N → X mC_near 38 [(0, .ref 10), (1, .int x), (2, .int a), (3, .int w), (4, .int y), (5, .int z), (6, .int (nI k))] [] N (mC mC_near, mS mC_near) (QI K)) (fun k hk ih y z N qN => ?_) (fun y z N qN => ?_) _ _ _ (wq_rf _)
  · have wN := wh_gr (cxw c (gi M 10 9)) qN.1
    have nk := nge (c := 64) (i := k) (n := 64) rfl (by decide) hk
    refine vC_near_38 ⟨fun q => ?_, fun q => absurd q.1 nk, fun _ => sJi_bitCount (fun _ _ => vC_near_52 rfl (cx11 (cx_cq (cqb qN) c)) ⟨fun _ => ?_, fun _ => eWe_heldIn wN (cxL c) (cxR c) hk (fun O qO _ => vC_near_70 ⟨fun _ => ?_, fun _ => ?_⟩)⟩)⟩
    · exfalso
      rcases q with q | q <;> exact nk q.1
    · rw [nI_s]; exact ih _ _ _ qN
    · rw [nI_s]; exact ih _ _ _ (wq_tr qN qO)
    · rw [nI_s]; exact ih _ _ _ (wq_tr qN qO)
  · have l : (64 : Int32) ≤ nI 64 := nself rfl
    exact vC_near_38 ⟨fun _ => h _ _ (cqb qN), fun _ => h _ _ (cqb qN), fun q => absurd l q⟩
end CX1
end MG72
section MG73
/-! ===== the class: books, words found, rules, sheets, counts ===== -/
section CX2
variable {M N : Mm} {L P R S U : Nat}
theorem lC_fewestBooks {k : Nat} {a : Int32} {K : Int32 → Mm → Prop} (c : CX M L P R S U) (hk : k < 64) (h : ∀ r N, CQ M N → K r N) : CI mC_fewestBooks [.ref 10, .int (nI k), .int a] M K := by
  refine call_of rfl (Nat.le_of_ble_eq_true rfl) rfl (vC_fewestBooks_0 rfl (cx4 c) (cx6 c) (lS_tellingBooks (cxlr c) (raM3 (cxR c)) (fun t => vC_fewestBooks_11 ?_)))
  refine lp 256 (P := fun s => ∀ y z N, CQ M N → X mC_fewestBooks 22 [(0, .ref 10), (1, .int (nI k)), (2, .int a), (3, .int t), (4, .int y), (5, .int z), (6, .int (nI s))] [] N (mC mC_fewestBooks, mS mC_fewestBooks) (QI K)) (fun s hs ih y z N qN => ?_) (fun y z N qN => ?_) _ _ _ (cq_rf M)
  · have ns : ¬ (255 : Int32) < nI s := by rw [show (255 : Int32) = nI 255 from rfl, nlt (by omega) (by decide)]; omega
    have cN := cx_cq qN c
    refine vC_fewestBooks_22 ⟨fun q => absurd q ns, fun _ => ?_, fun _ => sJi_bitCount (fun _ _ => vC_fewestBooks_44 rfl (cx11 cN) (cx4 cN) (cx6 cN) ⟨fun _ => ?_, fun _ => sWe_begin (cxlr cN) (cxL c) (cxR c) ?_⟩)⟩
    · rw [nI_s]; exact ih _ _ _ qN
    · rw [nI_s]; exact ih _ _ _ qN
    · have qB := cq_tr qN (cq_bgn N L R (nI s))
      refine vC_fewestBooks_66 rfl (cx11 (cx_cq qB c)) (eWe_heldIn (cxw cN _) (cxL c) (cxR c) hk (fun O qO _ => vC_fewestBooks_74 ⟨fun _ => ?_, fun _ => sJi_bitCount (fun _ _ => vC_fewestBooks_87 ?_)⟩))
      · rw [nI_s]; exact ih _ _ _ (cq_tr qB (cq_wq qO))
      · rw [nI_s]; exact ih _ _ _ (cq_tr qB (cq_wq qO))
  · have l : (255 : Int32) < nI 256 := by decide
    exact vC_fewestBooks_22 ⟨fun _ => h _ N qN, fun q => absurd l q.1, fun q => absurd l q.1⟩
theorem lC_argue {x a w : Int32} {K : Int32 → Mm → Prop} (c : CX M L P R S U) (h : ∀ r N, CQ M N → K r N) : CI mC_argue [.ref 10, .int x, .int a, .int w] M K := by
  have n := fun r => h r M (cq_rf M)
  refine call_of rfl (Nat.le_of_ble_eq_true rfl) rfl (vC_argue_0 (sC_isCase (fun _ => vC_argue_4 ⟨fun _ => n _, fun q => absurd rfl q⟩) (fun j hj ej => vC_argue_4 ⟨fun q => absurd q (by decide), fun _ => sC_isEither (fun _ _ => vC_argue_11 ⟨fun _ => n _, fun q => absurd rfl q⟩) (fun _ => vC_argue_11 ⟨fun q => absurd q (by decide), fun _ => sC_isEither (fun _ _ => vC_argue_18 rfl ⟨fun q => absurd rfl q, fun _ => n _⟩) (fun _ => vC_argue_18 rfl ⟨fun _ => ?_, fun q => absurd q (by decide)⟩)⟩)⟩)))
  subst ej
  exact lC_fewestBooks c hj (fun r N qN => vC_argue_29 ⟨fun _ => h _ N qN, fun _ => sJi_bitCount (fun _ _ => vC_argue_48 (h _ N qN)), fun _ => h _ N qN⟩)
theorem lC_game {x b w : Int32} {K : Int32 → Mm → Prop} (c : CX M L P R S U) (h : ∀ r N, CQ M N → K r N) : CI mC_game [.ref 10, .int x, .int b, .int w] M K := by
  have n := fun r => h r M (cq_rf M)
  have e11 := cx11 c
  have cB := cx_cq (cq_bgn M L R 63) c
  refine call_of rfl (Nat.le_of_ble_eq_true rfl) rfl (vC_game_0 (sC_isCase (fun _ => vC_game_4 ⟨fun _ => n _, fun q => absurd rfl q⟩) (fun j hj ej => vC_game_4 ⟨fun q => absurd q (by decide), fun _ => sC_isEither (fun _ _ => vC_game_11 ⟨fun _ => n _, fun q => absurd rfl q⟩) (fun _ => vC_game_11 ⟨fun q => absurd q (by decide), fun _ => sC_isEither (fun _ _ => vC_game_18 rfl e11 (cx4 c) (cx6 c) ⟨fun q => absurd rfl q, fun _ => n _⟩) (fun _ => vC_game_18 rfl e11 (cx4 c) (cx6 c) ⟨fun _ => sWe_begin (cxlr c) (cxL c) (cxR c) (vC_game_40 rfl (cx11 cB) ⟨fun _ => h _ _ (cq_bgn _ _ _ _), fun _ => ?_⟩), fun q => absurd q (by decide)⟩)⟩)⟩)))
  subst ej
  exact eWe_heldIn (cxw c _) (cxL c) (cxR c) hj (fun O qO _ => vC_game_52 (h _ O (cqb qO)))
theorem lC_turns {d a m : Int32} {K : Int32 → Mm → Prop} (c : CX M L P R S U) (h : ∀ r N, CQ M N → K r N) : CI mC_turns [.ref 10, .int d, .int a, .int m] M K := by
  have n := fun r => h r M (cq_rf M)
  refine call_of rfl (Nat.le_of_ble_eq_true rfl) rfl (vC_turns_0 (sC_isDoctor (fun _ => vC_turns_4 ⟨fun _ => n _, fun q => absurd rfl q⟩) (fun j hj ej => vC_turns_4 ⟨fun q => absurd q (by decide), fun _ => sC_isEither (fun _ _ => vC_turns_11 ⟨fun _ => n _, fun q => absurd rfl q⟩) (fun _ => vC_turns_11 ⟨fun q => absurd q (by decide), fun _ => sC_isCase (fun _ => vC_turns_18 rfl (cx6 c) ⟨fun q => absurd rfl q, fun _ => n _⟩) (fun _ _ _ => vC_turns_18 rfl (cx6 c) ⟨fun _ => sRu_isMain (raM3 (cxR c)) (vC_turns_31 rfl ⟨fun _ => lC_weighNow c (vC_turns_41 ?_), fun _ => n _⟩), fun q => absurd q (by decide)⟩)⟩)⟩)))
  subst ej
  refine lp 64 (P := fun k => ∀ y N, WQ (bgn M L R (gi M 10 9)) N → X mC_turns 47 [(0, .ref 10), (1, .int (nI j)), (2, .int a), (3, .int m), (4, .int y), (5, .int (nI k))] [] N (mC mC_turns, mS mC_turns) (QI K)) (fun k hk ih y N qN => ?_) (fun y N qN => ?_) _ _ (wq_rf _)
  · have wN := wh_gr (cxw c (gi M 10 9)) qN.1
    refine vC_turns_47 rfl (cx11 (cx_cq (cqb qN) c)) ⟨fun q => absurd q (nge rfl (by decide) hk), fun _ => ?_, fun _ => eWe_weigh wN (cxL c) (cxR c) hk (fun O qO vO => vC_turns_72 rfl (cx11 (cx_cq (cqb (wq_tr qN qO)) c)) (sJi_bitCount (fun _ _ => vC_turns_84 rfl (lWe_turnsBy (wh_gr wN qO.1) hj hk vO.1 (fun _ => vC_turns_87 ?_)))))⟩
    · rw [nI_s]; exact ih _ _ qN
    · rw [nI_s]; exact ih _ _ (wq_tr qN qO)
  · exact vC_turns_47 rfl (cx11 (cx_cq (cqb qN) c)) ⟨fun _ => h _ _ (cqb qN), fun q => absurd (nself rfl) q.1, fun q => absurd (nself rfl) q.1⟩
/-- a rule becomes as another -/
theorem lC_keep {K : Int32 → Mm → Prop} (c : CX M L P R S U) (rn : RN M R) (h : ∀ N, PX S M N → RN N S → (∀ i, i < 7 → gi N S i = gi M R i) → K 1 N) : CI mC_keep [.ref 10] M K := by
  have hS : RA S := c.2.2.1.2.2.2.1
  have hR := cxR c
  have ne : R ≠ S := c.2.2.2.2.2.1
  refine call_of rfl (Nat.le_of_ble_eq_true rfl) rfl (vC_keep_0 rfl c.2.1.2.2.2.1 (cx6 c) (call_of rfl (Nat.le_of_ble_eq_true rfl) rfl (vRu_becomeAs_0 (raM3 hR) (raM3 hS) ?_)))
  have e : ∀ (A : Mm) (j : Nat) (v : Int32) (k : Nat), gi (si A S j v) R k = gi A R k := fun A j v k => giR _ _ _ _ _ _ ne
  simp only [e]
  refine ⟨rn, vC_keep_11 (h _ (px_tr px_si (px_tr px_si (px_tr px_si (px_tr px_si (px_tr px_si (px_tr px_si px_si)))))) ?_ (fun i hi => ?_))⟩
  · unfold RN; simp only [gxs]; exact rn
  · simp only [gxs]
    match i, hi with
    | 0, _ => rfl
    | 1, _ => rfl
    | 2, _ => rfl
    | 3, _ => rfl
    | 4, _ => rfl
    | 5, _ => rfl
    | 6, _ => rfl
theorem lC_swap {K : Int32 → Mm → Prop} (c : CX M L P R S U) (h : K 1 (sr (sr M 10 6 (some S)) 10 7 (some R))) : CI mC_swap [.ref 10] M K :=
  call_of rfl (Nat.le_of_ble_eq_true rfl) rfl (vC_swap_0 rfl (cx6 c) c.2.1.2.2.2.1 h)
theorem lC_differ {w : Int32} {K : Int32 → Mm → Prop} (c : CX M L P R S U) (h : ∀ r N, CQ M N → K r N) : CI mC_differ [.ref 10, .int w] M K := by
  have n := fun r => h r M (cq_rf M)
  have hS : RA S := c.2.2.1.2.2.2.1
  have cB := cx_cq (cq_bgn M L R (gi M 10 9)) c
  refine call_of rfl (Nat.le_of_ble_eq_true rfl) rfl (vC_differ_0 (sC_isEither (fun _ _ => vC_differ_4 rfl ⟨fun q => absurd rfl q, fun _ => n _⟩) (fun _ => vC_differ_4 rfl ⟨fun _ => lC_weighNow c (vC_differ_13 rfl (cx11 cB) (eWe_casesOf (cxw c _) (cxL c) (cxR c) (fun N qN => ?_))), fun q => absurd q (by decide)⟩)))
  have cN := cx_cq (cqb qN) c
  refine vC_differ_21 rfl (cx11 cN) (eWe_casesOf (wh_gr (cxw c _) qN.1) (cxL c) (cxR c) (fun O qO => ?_))
  have q2 := cqb (wq_tr qN qO)
  have cO := cx_cq q2 c
  refine vC_differ_30 rfl (cx11 cO) (cx4 cO) cO.2.1.2.2.2.1 (sWe_begin (cxlr cO) (cxL c) hS ?_)
  have q3 := cq_tr q2 (cq_bgn O L S (gi O 10 9))
  have w3 : WH (bgn O L S (gi O 10 9)) L S := wh_bgn _ (cxlr cO) (cxL c) hS (cxg cO (5192, 3, 5261) (by decide))
  refine vC_differ_51 rfl (cx11 (cx_cq q3 c)) (eWe_casesOf w3 (cxL c) hS (fun V qV => ?_))
  have q4 := cq_tr q3 (cq_wq qV)
  refine vC_differ_60 rfl (cx11 (cx_cq q4 c)) (eWe_casesOf (wh_gr w3 qV.1) (cxL c) hS (fun W qW => vC_differ_71 (lC_manyOrLeast (fun _ => vC_differ_81 (h _ W (cq_tr q4 (cq_wq qW)))))))
theorem lC_tellsApart {m : Int32} {y n : Int64} {K : Int32 → Mm → Prop} (h : ∀ r, K r M) : CI mC_tellsApart [.int m, .long y, .long n] M K := by
  refine call_of rfl (Nat.le_of_ble_eq_true rfl) rfl (vC_tellsApart_0 ?_)
  refine lp 64 (P := fun k => ∀ u v, X mC_tellsApart 9 [(0, .int m), (1, .long y), (3, .long n), (5, .long u), (7, .long v), (9, .int (nI k))] [] M (mC mC_tellsApart, mS mC_tellsApart) (QI K)) (fun k hk ih u v => ?_) (fun u v => ?_) _ _
  · have nk := nge (c := 64) (i := k) (n := 64) rfl (by decide) hk
    refine vC_tellsApart_9 ⟨fun q => absurd q.1 nk, fun q => absurd q.1 nk, fun _ => ?_⟩
    rw [nI_s]; exact ih _ _
  · exact vC_tellsApart_9 ⟨fun _ => h _, fun _ => h _, fun q => absurd (nself rfl) q⟩
theorem lC_brief {w : Int32} {K : Int32 → Mm → Prop} (c : CX M L P R S U) (h : ∀ r N, CQ M N → K r N) : CI mC_brief [.ref 10, .int w] M K := by
  have n := fun r => h r M (cq_rf M)
  refine call_of rfl (Nat.le_of_ble_eq_true rfl) rfl (vC_brief_0 (sC_isEither (fun _ _ => vC_brief_4 rfl ⟨fun q => absurd rfl q, fun _ => n _⟩) (fun _ => vC_brief_4 rfl ⟨fun _ => lC_casesNow c (fun y N qN => vC_brief_14 rfl (lC_casesNow (cx_cq qN c) (fun z O qO => vC_brief_20 ?_))), fun q => absurd q (by decide)⟩)))
  have q := cq_tr qN qO
  refine lp 64 (P := fun k => ∀ x, X mC_brief 29 [(1, .int w), (2, .long y), (4, .long z), (6, .int x), (7, .int (nI k))] [] O (mC mC_brief, mS mC_brief) (QI K)) (fun k hk ih x => ?_) (fun x => ?_) _
  · have nk := nge (c := 64) (i := k) (n := 64) rfl (by decide) hk
    refine vC_brief_29 ⟨fun q => absurd q.1 nk, fun q => absurd q.1 nk, fun _ => sJi_bitCount (fun _ _ => vC_brief_41 (sJi_bitCount (fun _ _ => vC_brief_46 ⟨fun _ => ?_, fun _ => lC_tellsApart (fun _ => vC_brief_57 ⟨fun _ => ?_, fun _ => ?_⟩)⟩)))⟩
    · rw [nI_s]; exact ih _
    · rw [nI_s]; exact ih _
    · rw [nI_s]; exact ih _
  · exact vC_brief_29 ⟨fun _ => h _ O q, fun _ => sJi_bitCount (fun _ _ => vC_brief_79 (h _ O q)), fun q => absurd (nself rfl) q⟩
/-- sheets -/
def sa (e : Nat) : Nat := 5509 + 128 * e
theorem sag (c : CX M L P R S U) {e : Nat} (he : e < 4) : gr M 5459 (nI e).toNatClampNeg = some (sa e) ∧ gr M (sa e) 0 = some (5588 + 128 * e) ∧ sa e % 64 = 5 ∧ (5588 + 128 * e) % 64 = 20 := by
  rw [ncl (by omega)]
  match e, he with
  | 0, _ => exact ⟨cxg c (5459, 0, 5509) (by decide), cxg c (5509, 0, 5588) (by decide), rfl, rfl⟩
  | 1, _ => exact ⟨cxg c (5459, 1, 5637) (by decide), cxg c (5637, 0, 5716) (by decide), rfl, rfl⟩
  | 2, _ => exact ⟨cxg c (5459, 2, 5765) (by decide), cxg c (5765, 0, 5844) (by decide), rfl, rfl⟩
  | 3, _ => exact ⟨cxg c (5459, 3, 5893) (by decide), cxg c (5893, 0, 5972) (by decide), rfl, rfl⟩
theorem lC_sheet {k l n : Int32} {K : Int32 → Mm → Prop} (c : CX M L P R S U) (h0 : ((isS k && isL l) = false ∨ ¬ n ≤ 40) → K (-1) M) (h1 : (isS k && isL l) = true → n ≤ 40 → ¬ 0 ≤ n → K (-14) M) (h2 : ∀ e, e < 4 → k = nI e → isL l = true → n ≤ 40 → 0 ≤ n → K 1 (fl (si (si M (sa e) 1 l) (sa e) 2 n) (5588 + 128 * e) 40 0)) : CI mC_sheet [.ref 10, .int k, .int l, .int n] M K := by
  have g13 := cxg c (10, 13, 5459) (by decide)
  refine call_of rfl (Nat.le_of_ble_eq_true rfl) rfl (vC_sheet_0 (sC_isSheet (fun q => vC_sheet_4 ⟨fun _ => h0 (Or.inl ?_), fun q => absurd rfl q⟩) (fun e he ek => vC_sheet_4 ⟨fun q => absurd q (by decide), fun _ => sC_isLane (fun q => vC_sheet_11 rfl g13 ⟨fun _ => h0 (Or.inl ?_), fun q => absurd rfl q.1, fun q => absurd rfl q.1⟩) (fun q1 q2 => vC_sheet_11 rfl g13 ⟨fun q => h0 (Or.inr ?_), fun q => ?_, fun q => ?_⟩)⟩)))
  · rw [nS q, Bool.false_and]
  · rw [nL q, Bool.and_false]
  · rcases q with q | q
    · exact absurd q (by decide)
    · exact q.2
  · obtain ⟨s1, s2, s3, s4⟩ := sag c he
    have il : isL l = true := decide_eq_true ⟨q1, q2⟩
    have := h2 e he ek il q.2.1 q.2.2
    refine ⟨by rw [ek]; exact vin he (by decide), sa e, by rw [ek]; exact s1, call_of rfl (Nat.le_of_ble_eq_true rfl) rfl (vSh_renew_0 s3 s2 (sJr_fill s4 ak_20 (by decide) (vSh_renew_18 (vC_sheet_40 this))))⟩
  · refine h1 ?_ q.2.1 q.2.2
    have ie : isS k = true := by rw [ek]; exact decide_eq_true ⟨n0 e (by omega), nge rfl (by decide) he⟩
    rw [ie, show isL l = true from decide_eq_true ⟨q1, q2⟩]; rfl
theorem lC_lay {k i v : Int32} {K : Int32 → Mm → Prop} (c : CX M L P R S U) (hs : ∀ e, e < 4 → ∃ n, n ≤ 40 ∧ gi M (sa e) 2 = nI n) (h0 : isS k = false → K (-1) M) (h1 : ∀ e, e < 4 → k = nI e → gi M (sa e) 1 = -4 → K (-11) M) (h2 : ∀ e, e < 4 → k = nI e → ¬ gi M (sa e) 1 = -4 → (i < 0 ∨ gi M (sa e) 2 ≤ i) → K (-12) M) (h3 : ∀ e j n, e < 4 → k = nI e → i = nI j → n ≤ 40 → gi M (sa e) 2 = nI n → j < n → ¬ gi M (sa e) 1 = -4 → K 1 (si M (5588 + 128 * e) j (layv (gi M (sa e) 1) v))) : CI mC_lay [.ref 10, .int k, .int i, .int v] M K := by
  have g13 := cxg c (10, 13, 5459) (by decide)
  refine call_of rfl (Nat.le_of_ble_eq_true rfl) rfl (vC_lay_0 (sC_isSheet (fun q => vC_lay_4 rfl g13 ⟨fun q => absurd rfl q, fun _ => h0 (nS q)⟩) (fun e he ek => vC_lay_4 rfl g13 ⟨fun _ => ?_, fun q => absurd q (by decide)⟩)))
  obtain ⟨s1, s2, s3, s4⟩ := sag c he
  obtain ⟨n, hn, en⟩ := hs e he
  refine ⟨by rw [ek]; exact vin he (by decide), sa e, by rw [ek]; exact s1, call_of rfl (Nat.le_of_ble_eq_true rfl) rfl (vSh_isNothing_0 s3 (vC_lay_22 s3 ⟨fun q => ?_, fun q => ?_⟩))⟩
  · have n4 : ¬ gi M (sa e) 1 = -4 := fun z => by rw [if_pos z] at q; exact absurd q (by decide)
    refine call_of rfl (Nat.le_of_ble_eq_true rfl) rfl (vSh_hasCell_0 s3 ⟨fun p => vC_lay_34 s3 ⟨fun q => absurd rfl q, fun _ => h2 e he ek n4 (p.imp id (fun p => p.2))⟩, fun p => vC_lay_34 s3 ⟨fun _ => ?_, fun q => absurd q (by decide)⟩⟩)
    rw [en] at p
    obtain ⟨j, hj, ej⟩ := rng (n := n) rfl (by omega) p.1 p.2
    have := h3 e j n he ek ej hn en hj n4
    refine call_of rfl (Nat.le_of_ble_eq_true rfl) rfl (vSh_put_0 s3 s2 ⟨by rw [ej]; exact vin (by omega) (by decide), vC_lay_47 ?_⟩)
    rw [ej, ncl (by omega)]
    exact this
  · have n4 : gi M (sa e) 1 = -4 := by
      by_cases z : gi M (sa e) 1 = -4
      · exact z
      · rw [if_neg z] at q; exact absurd rfl q
    exact h1 e he ek n4
theorem lC_readCells {e : Nat} {f w : Int32} {n : Nat} {K : Int32 → Mm → Prop} (c : CX M L P R S U) (he : e < 4) (hn : n ≤ 40) (hs : ∃ z, z ≤ 40 ∧ gi M (sa e) 2 = nI z) (h : ∀ r N, CQ M N → K r N) : CI mC_readCells [.ref 10, .ref (sa e), .int f, .int (nI n), .int w] M K := by
  obtain ⟨z, hz, ez⟩ := hs
  refine call_of rfl (Nat.le_of_ble_eq_true rfl) rfl (vC_readCells_0 rfl (lC_weighNow c (vC_readCells_4 ?_)))
  have nsa : ¬ (sa e = 5192 ∨ sa e = 5261 ∨ sa e = 5392) := by unfold sa; omega
  refine lp n (P := fun i => ∀ x N, WQ (bgn M L R (gi M 10 9)) N → X mC_readCells 10 [(0, .ref 10), (1, .ref (sa e)), (2, .int f), (3, .int (nI n)), (4, .int w), (5, .int x), (6, .int (nI i))] [] N (mC mC_readCells, mS mC_readCells) (QI K)) (fun i hi ih x N qN => ?_) (fun x N qN => ?_) _ _ (wq_rf _)
  · have q := cqb qN
    have cN := cx_cq q c
    have k := h
    obtain ⟨s1, s2, s3, s4⟩ := sag cN he
    have eN : gi N (sa e) 2 = nI z := by rw [q.2.2 _ nsa]; exact ez
    refine vC_readCells_10 s3 ⟨fun p => absurd p (nge rfl (by omega) hi), fun _ => call_of rfl (Nat.le_of_ble_eq_true rfl) rfl (vSh_hasCell_0 s3 ⟨fun _ => vC_readCells_21 s3 ⟨fun _ => h _ N q, fun p => absurd rfl p⟩, fun _ => vC_readCells_21 s3 ⟨fun p => absurd p (by decide), fun _ => call_of rfl (Nat.le_of_ble_eq_true rfl) rfl (vSh_hasCell_0 s3 ⟨fun _ => vC_readCells_32 s3 s2 ⟨fun p => absurd rfl p, fun p => absurd rfl p, fun _ => h _ N q⟩, fun p => vC_readCells_32 s3 s2 ⟨fun _ => ?_, fun _ => sC_isCase (fun _ => vC_readCells_54 rfl (cx11 cN) ⟨fun p => absurd rfl p, fun _ => h _ N q⟩) (fun m hm em => vC_readCells_54 rfl (cx11 cN) ⟨fun _ => ?_, fun p => absurd p (by decide)⟩), fun p => absurd p (by decide)⟩⟩)⟩⟩)⟩
    · rw [eN] at p
      obtain ⟨j, hj, ej⟩ := rng (n := z) rfl (by omega) p.1 p.2
      rw [ej]; exact vin (by omega) (by decide)
    · rw [em]
      refine eWe_heldIn (wh_gr (cxw c _) qN.1) (cxL c) (cxR c) hm (fun O qO _ => vC_readCells_74 ?_)
      rw [nI_s]; exact ih _ _ (wq_tr qN qO)
  · obtain ⟨s1, s2, s3, s4⟩ := sag c he
    exact vC_readCells_10 s3 ⟨fun _ => h _ N (cqb qN), fun p => absurd (Int32.le_refl _) p⟩
theorem lC_read {k l f n w : Int32} {K : Int32 → Mm → Prop} (c : CX M L P R S U) (hs : ∀ e, e < 4 → ∃ n, n ≤ 40 ∧ gi M (sa e) 2 = nI n) (h : ∀ r N, CQ M N → K r N) : CI mC_read [.ref 10, .int k, .int l, .int f, .int n, .int w] M K := by
  have n' := fun r => h r M (cq_rf M)
  have g13 := cxg c (10, 13, 5459) (by decide)
  refine call_of rfl (Nat.le_of_ble_eq_true rfl) rfl (vC_read_0 (sC_isSheet (fun _ => vC_read_4 ⟨fun _ => n' _, fun q => absurd rfl q⟩) (fun e he ek => vC_read_4 ⟨fun q => absurd q (by decide), fun _ => sC_isLane (fun _ => vC_read_11 rfl g13 ⟨fun _ => n' _, fun q => absurd rfl q.1⟩) (fun _ _ => vC_read_11 rfl g13 ⟨fun _ => n' _, fun q => ?_⟩)⟩)))
  obtain ⟨s1, s2, s3, s4⟩ := sag c he
  obtain ⟨m, hm, em⟩ := rngL (c := 40) (n := 40) rfl (by decide) q.2.1 q.2.2.1
  have b97 : ∀ x, X mC_read 97 [] [.int x, .int n, .int f, .ref (sa e), .ref 10] M (mC mC_read, mS mC_read) (QI K) := by
    intro x
    rw [em]
    exact vC_read_97 rfl (lC_readCells c he (by omega) (hs e he) (fun r N qN => vC_read_100 (h r N qN)))
  exact ⟨by rw [ek]; exact vin he (by decide), sa e, by rw [ek]; exact s1, call_of rfl (Nat.le_of_ble_eq_true rfl) rfl (vSh_isNothing_0 s3 (vC_read_52 s3 ⟨fun _ => b97 _, fun _ => b97 _, fun _ => b97 _, fun _ => n' _, fun _ => n' _⟩))⟩
theorem lC_count {w : Int32} {K : Int32 → Mm → Prop} (c : CX M L P R S U) (h : ∀ r, K r M) : CI mC_count [.ref 10, .int w] M K := by
  have g13 := cxg c (10, 13, 5459) (by decide)
  obtain ⟨s1, s2, s3, s4⟩ := sag c (show 0 < 4 by decide)
  refine call_of rfl (Nat.le_of_ble_eq_true rfl) rfl (vC_count_0 rfl (cx4 c) (cxg c (10, 0, 70) (by decide)) g13 (lr2 (cxlr c)) ⟨fun _ => h _, fun _ => sJi_bitCount (fun _ _ => vC_count_54 (h _)), fun _ => sJi_bitCount (fun _ _ => vC_count_62 (h _)), fun _ => h _, fun _ => ⟨sa 0, s1, call_of rfl (Nat.le_of_ble_eq_true rfl) rfl (vSh_isNothing_0 s3 (vC_count_80 rfl g13 ⟨fun _ => ⟨sa 0, s1, h _⟩, fun _ => h _⟩))⟩, fun _ => ⟨fun q => ?_, fun _ => h _, fun _ => h _⟩⟩)
  obtain ⟨i, hi, e⟩ := rng (c := 18) (n := 18) rfl (by decide) (fun z => q.1 (Int32.lt_trans z (by decide))) q.2
  have q1 := q.1
  rw [e] at q1 ⊢
  rw [show (10 : Int32) = nI 10 from rfl, nlt (by decide) (by omega)] at q1
  rw [show (10 : Int32) = nI 10 from rfl, nsub (by omega)]
  exact vin (by omega) (by decide)
end CX2
end MG73
section MG74
/-! ===== the class: feed, end, library, rule ===== -/
/-- the byte i of v, as a number -/
def bv (v : Int64) (i : Nat) : Nat := (v.toBitVec.toNat >>> (56 - 8 * i)) % 256
theorem i8_of (n : Nat) (hn : n < 256) : (nI n).toInt8.toBitVec = BitVec.ofNat 8 n := by
  have : ∀ n, n < 256 → (nI n).toInt8.toBitVec = BitVec.ofNat 8 n := by decide +kernel
  exact this n hn
def cbt (v : Int64) (i : Nat) : Int32 := vp_nar .byte (((lushr v (56 - (8 * nI i))).toInt32).toInt8.toInt32)
theorem lsh_s : ∀ i, i < 8 → (((56 : Int32) - (8 * nI i)).toInt64.toUInt64 &&& Int64.toUInt64 63).toNat % 64 = 56 - 8 * i := by decide +kernel
theorem rsh_s : ∀ i, i < 8 → (((d8 i).toInt64 &&& 63).toBitVec.smod 64).toNat = 56 - 8 * i := by decide +kernel
theorem bv_b (v : Int64) {i j : Nat} (hi : i < 8) : (bv v i).testBit j = (decide (j < 8) && v.toBitVec.getLsbD (56 - 8 * i + j)) := by
  unfold bv
  rw [show (256 : Nat) = 2 ^ 8 from rfl, Nat.testBit_mod_two_pow, Nat.testBit_shiftRight]
  rfl
theorem cbt_e (v : Int64) {i : Nat} (hi : i < 8) : cbt v i = (nI (bv v i)).toInt8.toInt32 := by
  unfold cbt
  rw [vp_nar_byte, Int8.toInt8_toInt32]
  congr 1
  apply Int8.toBitVec_inj.1
  rw [i8_of (bv v i) (Nat.mod_lt _ (by decide)), Int32.toBitVec_toInt8, Int64.toBitVec_toInt32]
  apply BitVec.eq_of_getLsbD_eq
  intro j hj
  rw [BitVec.getLsbD_signExtend, BitVec.getLsbD_signExtend, BitVec.getLsbD_ofNat, bv_b v hi]
  have e : (lushr v (56 - (8 * nI i))).toBitVec.getLsbD j = v.toBitVec.getLsbD (56 - 8 * i + j) := by
    show ((v.toUInt64 >>> (((56 : Int32) - (8 * nI i)).toInt64.toUInt64 &&& Int64.toUInt64 63)).toBitVec).getLsbD j = _
    rw [UInt64.toBitVec_shiftRight]
    show (v.toBitVec >>> ((((56 : Int32) - (8 * nI i)).toInt64.toUInt64 &&& Int64.toUInt64 63).toBitVec % 64).toNat).getLsbD j = _
    have h : ((((56 : Int32) - (8 * nI i)).toInt64.toUInt64 &&& Int64.toUInt64 63).toBitVec % 64).toNat = 56 - 8 * i := lsh_s i hi
    rw [h, BitVec.getLsbD_ushiftRight]
  simp only [hj, show j < 32 by omega, show j < 64 by omega, e, decide_true, Bool.true_and, if_true]
theorem byt_e (v : Int64) {i : Nat} (hi : i < 8) : byt v i = nI (bv v i) := by
  unfold byt
  apply Int32.toBitVec_inj.1
  show _ = BitVec.ofNat 32 (bv v i)
  rw [Int64.toBitVec_toInt32, Int64.toBitVec_and, Int64.toBitVec_shiftRight]
  apply BitVec.eq_of_getLsbD_eq
  intro j hj
  rw [BitVec.getLsbD_signExtend, BitVec.getLsbD_and, BitVec.getLsbD_ofNat, bv_b v hi]
  have h : (((d8 i).toInt64 &&& 63).toBitVec.smod 64).toNat = 56 - 8 * i := rsh_s i hi
  have e : (v.toBitVec.sshiftRight' (((d8 i).toInt64 &&& 63).toBitVec.smod 64)).getLsbD j = if 56 - 8 * i + j < 64 then v.toBitVec.getLsbD (56 - 8 * i + j) else v.toBitVec.msb := by
    show (v.toBitVec.sshiftRight (((d8 i).toInt64 &&& 63).toBitVec.smod 64).toNat).getLsbD j = _
    rw [h, BitVec.getLsbD_sshiftRight]
    simp [show j < 64 by omega]
  have m : (255 : Int64).toBitVec.getLsbD j = decide (j < 8) := by
    have : ∀ j, j < 32 → (255 : Int64).toBitVec.getLsbD j = decide (j < 8) := by decide +kernel
    exact this j hj
  rw [e, m]
  by_cases l : j < 8
  · simp [l, hj, show j < 64 by omega, show 56 - 8 * i + j < 64 by omega]
  · simp [l, hj, show j < 64 by omega]
theorem by_feed (v : Int64) {i : Nat} (hi : i < 8) : BY (cbt v i) (byt v i) := ⟨bv v i, Nat.mod_lt _ (by decide), cbt_e v hi, byt_e v hi⟩
section CX3
variable {M N : Mm} {L P R S U : Nat}
/-- the tape of the class, with i bytes of v behind its t -/
def FC (t : Nat) (v : Int64) (i : Nat) (M N : Mm) : Prop := gr N = gr M ∧ gl N = gl M ∧ (∀ a, a ≠ 145 → gi N a = gi M a) ∧ ∀ k, gi N 145 k = if t ≤ k ∧ k < t + i then cbt v (k - t) else gi M 145 k
theorem sC_feed {v : Int64} {t : Nat} {K : Int32 → Mm → Prop} (c : CX M L P R S U) (ht : gi M 70 1 = nI t) (ht2 : t ≤ 400) (h0 : 392 < t → K (-3) M) (h1 : t ≤ 392 → ∀ N, FC t v 8 M N → K (nI (t + 8)) (si N 70 1 (nI (t + 8)))) : CI mC_feed [.ref 10, .long v] M K := by
  have g0 := cxg c (10, 0, 70) (by decide)
  have gb := cxg c (70, 0, 145) (by decide)
  refine call_of rfl (Nat.le_of_ble_eq_true rfl) rfl (vC_feed_0 rfl g0 (call_of rfl (Nat.le_of_ble_eq_true rfl) rfl (vTa_append_0 rfl ⟨fun q => ?_, fun q => ?_⟩)))
  · rw [ht, show (392 : Int32) = nI 392 from rfl, nle (by decide) (by omega)] at q
    have key := lp 8 (P := fun i => ∀ N, FC t v i M N → X mTa_append 14 [(0, .ref 70), (1, .long v), (3, .int (nI i))] [] N (mC mTa_append, mS mTa_append) (QI (fun rv N => X mC_feed 8 [(0, .ref 10)] [.int rv] N (mC mC_feed, mS mC_feed) (QI K)))) (fun i hi ih N fN => ?_) (fun N fN => ?_)
    · exact key M ⟨rfl, rfl, fun _ _ => rfl, fun k => by rw [if_neg (by omega)]⟩
    · have nt : gi N 70 1 = nI t := by rw [fN.2.2.1 70 (by decide)]; exact ht
      have gN : gr N 70 0 = some 145 := by rw [fN.1]; exact gb
      refine vTa_append_14 rfl gN ⟨fun q => absurd q (nge rfl (by decide) hi), fun _ => ?_⟩
      rw [nt, nadd]
      refine ⟨vin (by omega) (by decide), ?_⟩
      rw [ncl (by omega), nI_s]
      refine ih _ ⟨fN.1, fN.2.1, fun a n => by rw [gi_ne n]; exact fN.2.2.1 a n, fun k => ?_⟩
      rw [gi_si, fN.2.2.2 k]
      by_cases e : k = t + i
      · rw [if_pos ⟨rfl, e⟩, if_pos (by omega), show k - t = i by omega]; rfl
      · rw [if_neg (fun z => e z.2)]
        by_cases l : t ≤ k ∧ k < t + i
        · rw [if_pos l, if_pos (by omega)]
        · rw [if_neg l, if_neg (by omega)]
    · have nt : gi N 70 1 = nI t := by rw [fN.2.2.1 70 (by decide)]; exact ht
      have gN : gr N 70 0 = some 145 := by rw [fN.1]; exact gb
      refine vTa_append_14 rfl gN ⟨fun _ => vC_feed_8 rfl (by show gr N 10 0 = some 70; rw [fN.1]; exact g0) ?_, fun q => absurd (nself rfl) q⟩
      rw [if_neg (by decide), gi_si, if_pos ⟨rfl, rfl⟩, nt, show (8 : Int32) = nI 8 from rfl, nadd]
      exact h1 q N fN
  · rw [ht, show (392 : Int32) = nI 392 from rfl, nle (by decide) (by omega)] at q
    refine vC_feed_8 rfl g0 ?_
    rw [if_pos rfl]
    exact h0 (by omega)
theorem sC_end {n : Int32} {K : Int32 → Mm → Prop} (c : CX M L P R S U) (h0 : (n < 0 ∨ ¬ n ≤ gi M 70 1) → K (-1) M) (h1 : ¬ n < 0 → n ≤ gi M 70 1 → K (gi M 70 1) (si M 70 1 n)) : CI mC_end [.ref 10, .int n] M K :=
  call_of rfl (Nat.le_of_ble_eq_true rfl) rfl (vC_end_0 rfl (cxg c (10, 0, 70) (by decide)) ⟨fun q => h0 (q.imp id (fun q => q.2)), fun q => h1 q.1 q.2⟩)
/-- what library may change, of the class -/
def LCF (P : Nat) (M N : Mm) : Prop := gl N = gl M ∧ (∀ a, a ≠ 10 → gr N a = gr M a) ∧ (∀ a, a ≠ 199 → a ≠ 258 → a ≠ 70 → a ≠ 10 → ¬ (P ≤ a ∧ a < P + 2304) → gi N a = gi M a) ∧ gi N 70 1 = 0
/-- what rule may change, of the class -/
def RCF (U : Nat) (M N : Mm) : Prop := gl N = gl M ∧ (∀ a, a ≠ 10 → gr N a = gr M a) ∧ (∀ a, a ≠ 199 → a ≠ 70 → a ≠ 10 → a ≠ U → gi N a = gi M a) ∧ gi N 70 1 = 0 ∧ RN N U
end CX3
end MG74
section MG75
/-! ===== what holds of both between calls ===== -/
def CP (M : Mm) (L P R S U D : Nat) : Prop := CX M L P R S U ∧ gi M L 1 = nI D ∧ D ≤ 24 ∧ RN M 4995 ∧ RN M 5059 ∧ RN M 5123
def MP (M : Mm) (W : Nat) : Prop := JW M W ∧ W ≤ 24 ∧ HD M ∧ HO M ∧ UM M W
def JA (M : Mm) (t : Nat) : Prop := gi M 70 1 = nI t ∧ t ≤ 400 ∧ gi M 6027 11 = nI t ∧ ∀ k, k < 400 → BY (gi M 145 k) (gi M 6486 k)
def JS (M : Mm) : Prop := ∀ e, e < 4 → (∃ n, n ≤ 40 ∧ gi M (sa e) 2 = nI n ∧ gi M 7708 e = nI n) ∧ gi M (sa e) 1 = gi M 7644 e ∧ ∀ i, i < 40 → gi M (5588 + 128 * e) i = gi M 7773 (40 * e + i)
def IV (M : Mm) (L P R S U D W t : Nat) : Prop := CP M L P R S U D ∧ MP M W ∧ JA M t ∧ JS M
section IV1
variable {M N : Mm} {L P R S U D W t : Nat}
/-- the class's part stays when its rows do -/
theorem cp_eq (c : CP M L P R S U D) (h1 : ∀ a j, ¬ (a = 5192 ∧ j < 2) → a ≠ 6027 → gr N a j = gr M a j) (h2 : ∀ a, a = 385 ∨ a = 2689 ∨ a = 4995 ∨ a = 5059 ∨ a = 5123 → gi N a = gi M a) : CP N L P R S U D := by
  obtain ⟨c1, c2, c3, c4, c5, c6⟩ := c
  obtain ⟨x1, ⟨x2, x3, x4, x5, x6⟩, x7, ⟨x8, x9⟩, x10⟩ := c1
  have n5 : ∀ q ∈ cgt, ¬ (q.1 = 5192 ∧ q.2.1 < 2) ∧ q.1 ≠ 6027 := by decide
  have lr : ∀ {L}, LA L → LR M L → LR N L := fun {L} hL h => by
    refine ⟨h.1, fun q hq => ?_, fun w hw => ?_⟩
    · rw [h1 L q.1 (fun e => by unfold LA at hL; omega) (by unfold LA at hL; omega)]; exact h.2.1 q hq
    · rw [h1 (L + 81) w (fun e => by unfold LA at hL; omega) (by unfold LA at hL; omega)]; exact h.2.2 w hw
  refine ⟨⟨fun q hq => (h1 _ _ (n5 q hq).1 (n5 q hq).2).trans (x1 q hq), ⟨?_, ?_, ?_, ?_, ?_⟩, x7, ⟨lr x7.1 x8, lr x7.2.1 x9⟩, x10⟩, ?_, c3, ?_, ?_, ?_⟩
  · rw [h1 _ _ (by decide) (by decide)]; exact x2
  · rw [h1 _ _ (by decide) (by decide)]; exact x3
  · rw [h1 _ _ (by decide) (by decide)]; exact x4
  · rw [h1 _ _ (by decide) (by decide)]; exact x5
  · rw [h1 _ _ (by decide) (by decide)]; exact x6
  · rw [h2 L (by have := x7.1; unfold LA at this; omega)]; exact c2
  · unfold RN; rw [h2 _ (by decide)]; exact c4
  · unfold RN; rw [h2 _ (by decide)]; exact c5
  · unfold RN; rw [h2 _ (by decide)]; exact c6
theorem chn_eq (h : gi N 6101 = gi M 6101) (B : Nat) : ∀ n v, chn M B n v → chn N B n v
  | 0, v, q => by
    have e : wd N v 6 = wd M v 6 := by unfold wd; rw [h]
    show wd N v 6 = -4
    rw [e]; exact q
  | n + 1, v, q => by
    have e : wd N v 6 = wd M v 6 := by unfold wd; rw [h]
    show wd N v 6 = -4 ∨ _
    rw [e]
    exact q.imp id (fun ⟨f, a, b, c⟩ => ⟨f, a, b, chn_eq h B n f c⟩)
theorem jw_eq (j : JW M W) (h0 : ∀ k, gr N 6027 k = gr M 6027 k) (h1 : gi N 6101 = gi M 6101) (h2 : gi N 6027 0 = gi M 6027 0) (h3 : gi N 6027 24 = gi M 6027 24) : JW N W := by
  obtain ⟨j1, j2, j3, j4⟩ := j
  refine ⟨fun q hq => (h0 _).trans (j1 q hq), h2.trans j2, j3, fun w hw => ?_⟩
  obtain ⟨⟨b, hb, eb⟩, c⟩ := j4 w hw
  refine ⟨⟨b, hb, ?_⟩, fun u => chn_eq h1 W 25 w (c (fun z => u ?_))⟩
  · unfold wd; rw [h1]; exact eb
  · unfold uns; rw [h3]; exact z
theorem mp_eq (m : MP M W) (h0 : ∀ k, gr N 6027 k = gr M 6027 k) (h1 : gi N 6101 = gi M 6101) (h2 : gi N 6027 0 = gi M 6027 0) (h3 : gi N 6027 24 = gi M 6027 24) (h4 : gi N 6543 4 = gi M 6543 4) (h5 : gi N 6607 4 = gi M 6607 4) : MP N W := by
  obtain ⟨m1, m2, m3, m4, m5⟩ := m
  refine ⟨jw_eq m1 h0 h1 h2 h3, m2, ?_, ?_, ?_⟩
  · unfold HD; rw [h4]; exact m3
  · unfold HO; rw [h5]; exact m4
  · unfold UM; rw [h3]; exact m5
theorem ja_eq (j : JA M t) (h1 : gi N 70 = gi M 70) (h2 : gi N 145 = gi M 145) (h3 : gi N 6027 11 = gi M 6027 11) (h4 : gi N 6486 = gi M 6486) : JA N t := by
  unfold JA; rw [h1, h2, h3, h4]; exact j
theorem js_eq (j : JS M) (h1 : ∀ e, e < 4 → gi N (sa e) = gi M (sa e)) (h2 : ∀ e, e < 4 → gi N (5588 + 128 * e) = gi M (5588 + 128 * e)) (h3 : gi N 7708 = gi M 7708) (h4 : gi N 7644 = gi M 7644) (h5 : gi N 7773 = gi M 7773) : JS N := by
  intro e he
  rw [h1 e he, h2 e he, h3, h4, h5]; exact j e he
/-- a query of the class -/
theorem iv_cq (f : CQ M N) (i : IV M L P R S U D W t) : IV N L P R S U D W t := by
  obtain ⟨i1, i2, i3, i4⟩ := i
  have g : ∀ a, ¬ (a = 5192 ∨ a = 5261 ∨ a = 5392) → gi N a = gi M a := f.2.2
  refine ⟨cp_eq i1 (fun a j n _ => f.2.1 a j n) (fun a ha => g a (by omega)), mp_eq i2 (fun k => f.2.1 _ _ (by omega)) (g _ (by decide)) (by rw [g _ (by decide)]) (by rw [g _ (by decide)]) (by rw [g _ (by decide)]) (by rw [g _ (by decide)]), ja_eq i3 (g _ (by decide)) (g _ (by decide)) (by rw [g _ (by decide)]) (g _ (by decide)), js_eq i4 (fun e he => g _ (by unfold sa; omega)) (fun e he => g _ (by omega)) (g _ (by decide)) (g _ (by decide)) (g _ (by decide))⟩
/-- a query of the reference -/
theorem iv_qf (f : QF W M N) (i : IV M L P R S U D W t) : IV N L P R S U D W t := by
  obtain ⟨i1, i2, i3, i4⟩ := i
  have g : ∀ a, ¬ (a = 7310 ∨ a = 7374 ∨ a = 7246 ∨ a = 7182 ∨ a = 7438 ∨ a = 7502 ∨ a = 7582 ∨ a = 6101 ∨ a = 6027) → gi N a = gi M a := f.2.1
  refine ⟨cp_eq i1 (fun a j _ _ => by rw [f.1]) (fun a ha => g a (by omega)), ⟨jw_sm (qf_sm f) i2.1, i2.2.1, ?_, ?_, um_qf f i2.2.2.2.2⟩, ja_eq i3 (g _ (by decide)) (g _ (by decide)) (f.2.2.2.1 11 (by decide)) (g _ (by decide)), js_eq i4 (fun e he => g _ (by unfold sa; omega)) (fun e he => g _ (by omega)) (g _ (by decide)) (g _ (by decide)) (g _ (by decide))⟩
  · unfold HD; rw [g _ (by decide)]; exact i2.2.2.1
  · unfold HO; rw [g _ (by decide)]; exact i2.2.2.2.1
theorem iv_af (f : AF M N) (i : IV M L P R S U D W t) : IV N L P R S U D W t := iv_qf (qf_af f) i
theorem tc_of (c : CX M L P R S U) (j : JA M t) : TC M (gi M 6486) t := ⟨cxg c (199, 0, 70) (by decide), cxg c (70, 0, 145) (by decide), j.1, j.2.1, j.2.2.2⟩
theorem js_n (j : JS M) : ∀ e, e < 4 → ∃ n, n ≤ 40 ∧ gi M (sa e) 2 = nI n := fun e he => by
  obtain ⟨⟨n, a, b, -⟩, -⟩ := j e he
  exact ⟨n, a, b⟩
theorem js_m (j : JS M) : ∀ e, e < 4 → ∃ n, n ≤ 40 ∧ gi M 7708 e = nI n := fun e he => by
  obtain ⟨⟨n, a, -, b⟩, -⟩ := j e he
  exact ⟨n, a, b⟩
end IV1
end MG75
section MG76
/-! ===== more that holds of both between calls: what was read is the same ===== -/
def EX (M : Mm) (L R S D W : Nat) : Prop := (LA L ∧ RA R ∧ RA S) ∧ gi M 10 9 = gi M 6027 9 ∧ gi M 10 10 = gi M 6027 16 ∧ (∀ i, i < 7 → gi M R i = gi M 6543 i) ∧ (∀ i, i < 7 → gi M S i = gi M 6607 i) ∧ (∀ b, b < 8 → gi M (L + 140) b = gi M 6157 b) ∧ (D = W ∧ D ≤ 24) ∧ ∀ w, w < D → ∀ i, i < 8 → gi M (L + 776 + 64 * w) (cf i) = gi M 6101 (10 * w + i)
section EQE
variable {M N : Mm} {L P R S U D W t : Nat}
theorem ex_eq (x : EX M L R S D W) (h : ∀ a, (a = 10 ∨ (385 ≤ a ∧ a < 4993) ∨ a = 4995 ∨ a = 5059 ∨ a = 5123 ∨ a = 6543 ∨ a = 6607 ∨ a = 6157) → gi N a = gi M a) (h1 : ∀ k, k < 10 * W → gi N 6101 k = gi M 6101 k) (h9 : gi N 6027 9 = gi M 6027 9) (h16 : gi N 6027 16 = gi M 6027 16) : EX N L R S D W := by
  obtain ⟨⟨a1, a2, a3⟩, x1, x2, x3, x4, x5, ⟨x6, x7⟩, x8⟩ := x
  have a1' := a1
  have a2' := a2
  have a3' := a3
  unfold LA at a1'
  unfold RA at a2' a3'
  refine ⟨⟨a1, a2, a3⟩, ?_, ?_, fun i hi => ?_, fun i hi => ?_, fun b hb => ?_, ⟨x6, x7⟩, fun w hw i hi => ?_⟩
  · rw [h 10 (by omega), h9]; exact x1
  · rw [h 10 (by omega), h16]; exact x2
  · rw [h R (by omega), h 6543 (by omega)]; exact x3 i hi
  · rw [h S (by omega), h 6607 (by omega)]; exact x4 i hi
  · rw [h (L + 140) (by omega), h 6157 (by omega)]; exact x5 b hb
  · rw [h (L + 776 + 64 * w) (by omega), h1 _ (by omega)]; exact x8 w hw i hi
end EQE
end MG76
section MG77
/-! ===== and what was settled is the same ===== -/
def EY (M : Mm) (L W : Nat) (G : Nat → Nat → Int32) : Prop := (∀ w, w < W → ∀ i, i < 8 → gi M 6101 (10 * w + i) = G w i) ∧ (∀ w, w < W → RT (G w) ∧ RF G w ∧ RS6 G W w) ∧ SE M L G W ∧ gi M 6027 23 = ring G W ∧ gi M 6027 24 = unsd G W ∧ RYZ M W (said G W).2.1 (said G W).2.2 ∧ WL M L G W ∧ RV M
def EZ (M : Mm) (L R S D W : Nat) : Prop := EX M L R S D W ∧ ∃ G, EY M L W G
def INY (M : Mm) : Prop := ∃ L P R S U D W t, IV M L P R S U D W t ∧ EZ M L R S D W
section EQT
variable {M N : Mm} {L P R S U D W t : Nat}
theorem se_eq {r : Nat} {g : Nat → Nat → Int32} (h : ∀ a, (a = r ∨ a = r + 205 ∨ a = r + 269 ∨ a = r + 460 ∨ a = r + 524) → gi N a = gi M a) (s : SE M r g D) : SE N r g D := by
  obtain ⟨s1, s2, s3, s4⟩ := s
  refine ⟨sw_cg (fun a ha k _ _ => by rw [h a (by omega)]) (fun _ _ _ _ => rfl) s1, by rw [h r (by omega)]; exact s2, by rw [h r (by omega)]; exact s3, fun c hc v hv => ?_⟩
  rw [h (r + 205) (by omega), h (r + 269) (by omega)]; exact s4 c hc v hv
theorem ey_eq {G : Nat → Nat → Int32} (y : EY M L W G) (h : ∀ a, (L ≤ a ∧ a < L + 2304 ∧ a ≠ L + 140) → gi N a = gi M a) (h1 : ∀ k, k < 10 * W → gi N 6101 k = gi M 6101 k) (h23 : gi N 6027 23 = gi M 6027 23) (h24 : gi N 6027 24 = gi M 6027 24) (hl : ∀ k, k < W → gl N 6874 k = gl M 6874 k ∧ gl N 6938 k = gl M 6938 k) (hr : RV M → RV N) : EY N L W G := by
  obtain ⟨y1, y2, y3, y4, y5, y6, y7, y8⟩ := y
  refine ⟨fun w hw i hi => by rw [h1 _ (by omega)]; exact y1 w hw i hi, y2, se_eq (fun a ha => h a (by omega)) y3, h23.trans y4, h24.trans y5, fun v hv c hc => ?_, wl_eq h y7, hr y8⟩
  rw [(hl v hv).1, (hl v hv).2]; exact y6 v hv c hc
theorem ez2 (y : ∃ G, EY M L W G) (h : ∀ a, (L ≤ a ∧ a < L + 2304 ∧ a ≠ L + 140) → gi N a = gi M a) (h1 : ∀ k, k < 10 * W → gi N 6101 k = gi M 6101 k) (h23 : gi N 6027 23 = gi M 6027 23) (h24 : gi N 6027 24 = gi M 6027 24) (hl : ∀ k, k < W → gl N 6874 k = gl M 6874 k ∧ gl N 6938 k = gl M 6938 k) (hr : RV M → RV N) : ∃ G, EY N L W G := by
  obtain ⟨G, y⟩ := y
  exact ⟨G, ey_eq y h h1 h23 h24 hl hr⟩
theorem ez_eq (z : EZ M L R S D W) (h : ∀ a, (a = 10 ∨ (385 ≤ a ∧ a < 4993) ∨ a = 4995 ∨ a = 5059 ∨ a = 5123 ∨ a = 6543 ∨ a = 6607 ∨ a = 6157) → gi N a = gi M a) (h1 : ∀ k, k < 10 * W → gi N 6101 k = gi M 6101 k) (h6 : ∀ k, k = 9 ∨ k = 16 ∨ k = 23 ∨ k = 24 → gi N 6027 k = gi M 6027 k) (hl : ∀ k, k < W → gl N 6874 k = gl M 6874 k ∧ gl N 6938 k = gl M 6938 k) : EZ N L R S D W := by
  have a1 := z.1.1.1
  unfold LA at a1
  exact ⟨ex_eq z.1 h h1 (h6 9 (by decide)) (h6 16 (by decide)), ez2 z.2 (fun a ha => h a (by omega)) h1 (h6 23 (by decide)) (h6 24 (by decide)) hl (rv_eq (h 6543 (by omega)) (h 6607 (by omega)))⟩
theorem ez_cq (f : CQ M N) (x : EZ M L R S D W) : EZ N L R S D W := by
  have g : ∀ a, ¬ (a = 5192 ∨ a = 5261 ∨ a = 5392) → gi N a = gi M a := f.2.2
  exact ez_eq x (fun a ha => g a (by omega)) (fun k _ => by rw [g _ (by decide)]) (fun k _ => by rw [g _ (by decide)]) (fun k _ => by rw [f.1]; exact ⟨rfl, rfl⟩)
theorem ez_qf (f : QF W M N) (x : EZ M L R S D W) : EZ N L R S D W := by
  have g : ∀ a, ¬ (a = 7310 ∨ a = 7374 ∨ a = 7246 ∨ a = 7182 ∨ a = 7438 ∨ a = 7502 ∨ a = 7582 ∨ a = 6101 ∨ a = 6027) → gi N a = gi M a := f.2.1
  exact ez_eq x (fun a ha => g a (by omega)) f.2.2.1 (fun k hk => f.2.2.2.1 k (by omega)) (fun k hk => ⟨f.2.2.2.2 _ _ (by decide) (by omega), f.2.2.2.2 _ _ (by decide) (by omega)⟩)
theorem ez_af (f : AF M N) (x : EZ M L R S D W) : EZ N L R S D W := ez_qf (qf_af f) x
end EQT
end MG77
section MG78
/-! ===== pairs of calls that change what both stand on ===== -/
section PR2
variable {M : Mm}
theorem rn_of {L P R S U D : Nat} (c : CP M L P R S U D) {X : Nat} (h : RA X) : RN M X := by
  unfold RA at h
  rcases h with rfl | rfl | rfl
  · exact c.2.2.2.1
  · exact c.2.2.2.2.1
  · exact c.2.2.2.2.2
end PR2
end MG78
section MG79
/-! ===== pairs of calls: library, rule, sheet, lay ===== -/
section PR3
variable {M : Mm}
theorem isS_e {k : Int32} {e : Nat} (he : e < 4) (ek : k = nI e) : isS k = true := by rw [ek]; exact decide_eq_true ⟨n0 e (by omega), nge rfl (by decide) he⟩
end PR3
end MG79
section MG80
/-! ===== the class's library exactly; library on both sides ===== -/
section EQA
variable {M N : Mm} {L P R S U : Nat}
theorem eC_afterText {v : Int32} {K : Int32 → Mm → Prop} (g0 : gr M 10 0 = some 70) (g1 : gr M 10 1 = some 199) (h : K (if v < 0 then (-10) - gi M 199 6 else v) (si (si M 70 1 0) 10 10 (gi M 199 5))) : CI mC_afterText [.ref 10, .int v] M K := by
  refine call_of rfl (Nat.le_of_ble_eq_true rfl) rfl (vC_afterText_0 rfl g0 g1 ?_)
  have e : gi (si M 70 1 0) 199 5 = gi M 199 5 := giR _ _ _ _ _ _ (by decide)
  have e6 : gi (si (si M 70 1 0) 10 10 (gi M 199 5)) 199 6 = gi M 199 6 := by rw [giR _ _ _ _ _ _ (by decide), giR _ _ _ _ _ _ (by decide)]
  rw [e, e6]; exact h
end EQA
section EQA2
variable {M : Mm}
end EQA2
end MG80
section MG81
/-! ===== the class's rule exactly; rule on both sides ===== -/
section EQD
variable {M N : Mm} {L P R S U : Nat}
theorem eC_rule {T : Nat → Int32} {t : Nat} {x0 v0 p0 : Int32} {K : Int32 → Mm → Prop} (c : CX M L P R S U) (tc : TC M T t)
    (h1 : ∀ N, RCF U M N → gr N = gr M → ¬ (qpS T t 401 (qS0 T t x0 v0 p0) 0).1.1.2.2.2.2.1 = 0 → gi N 10 10 = (qpS T t 401 (qS0 T t x0 v0 p0) 0).1.1.2.2.2.2.1 → gi N 10 9 = gi M 10 9 → K ((-10) - (qpS T t 401 (qS0 T t x0 v0 p0) 0).1.1.2.2.2.2.2) N)
    (h3 : ∀ N, RCF U M N → (∀ j, gr N 10 j = if j = 8 then some R else if j = 6 then some U else gr M 10 j) → (qpS T t 401 (qS0 T t x0 v0 p0) 0).1.1.2.2.2.2.1 = 0 → gi N 10 10 = 0 → gi N 10 9 = gi M 10 9 → (∀ i, i < 7 → gi N U i = (qpS T t 401 (qS0 T t x0 v0 p0) 0).1.2.2 i) → K (nI (qpS T t 401 (qS0 T t x0 v0 p0) 0).2) N) : CI mC_rule [.ref 10] M K := by
  have hU : RA U := c.2.2.1.2.2.2.2
  have u10 : U ≠ 10 ∧ U ≠ 70 := by unfold RA at hU; omega
  have main := eRr_readInto (M := M) (T := T) (t := t) (r := U) (x0 := x0) (v0 := v0) (p0 := p0) (K := fun rv N => X mC_rule 11 [(0, .ref 10)] [.int rv] N (mC mC_rule, mS mC_rule) (QI K)) (raM3 hU) (cxg c (324, 0, 199) (by decide)) tc
  generalize qpS T t 401 (qS0 T t x0 v0 p0) 0 = F at h1 h3 main
  refine call_of rfl (Nat.le_of_ble_eq_true rfl) rfl (vC_rule_0 rfl (cxg c (10, 3, 324) (by decide)) c.2.1.2.2.2.2 (main (fun N pN rn nf e5 e6 => ?_) (fun N pN rn zf e5 vals hl => ?_)))
  · have g6 : gr N 10 6 = some R := by rw [pN.1]; exact cx6 c
    have g8 : gr N 10 8 = some U := by rw [pN.1]; exact c.2.1.2.2.2.2
    refine vC_rule_11 rfl g6 g8 ⟨fun _ => vC_rule_34 rfl (eC_afterText (by rw [pN.1]; exact cxg c (10, 0, 70) (by decide)) (by rw [pN.1]; exact cxg c (10, 1, 199) (by decide)) (vC_rule_39 ?_)), fun q => absurd (by decide) q⟩
    rw [if_pos (by decide), e6]
    refine h1 _ ⟨pN.2.1, fun a _ => by show gr N a = _; rw [pN.1], fun a a1 a3 a4 a5 => ?_, ?_, ?_⟩ pN.1 nf ?_ ?_
    · rw [gi_ne a4, gi_ne a3]; exact pN.2.2 a a1 a5
    · rw [giR _ _ _ _ _ _ (by decide), gi_si, if_pos ⟨rfl, rfl⟩]
    · unfold RN
      rw [giR _ _ _ _ _ _ u10.1, giR _ _ _ _ _ _ u10.2]; exact rn
    · rw [gi_si, if_pos ⟨rfl, rfl⟩]; exact e5
    · rw [gi_si, if_neg (by decide), giR _ _ _ _ _ _ (by decide), pN.2.2 10 (by decide) (Ne.symm u10.1)]
  · have g6 : gr N 10 6 = some R := by rw [pN.1]; exact cx6 c
    have g8 : gr N 10 8 = some U := by rw [pN.1]; exact c.2.1.2.2.2.2
    have nl : ¬ nI F.2 < 0 := n0 F.2 (by omega)
    refine vC_rule_11 rfl g6 g8 ⟨fun q => absurd q nl, fun _ => vC_rule_34 rfl ?_⟩
    have gr' : ∀ a j, gr (sr (sr N 10 6 (some U)) 10 8 (some R)) a j = if a = 10 ∧ j = 8 then some R else if a = 10 ∧ j = 6 then some U else gr M a j := by
      intro a j
      rw [gr_sr, gr_sr, pN.1]
    have gi' : ∀ a, gi (sr (sr N 10 6 (some U)) 10 8 (some R)) a = gi N a := fun a => rfl
    refine eC_afterText (by rw [gr', if_neg (by decide), if_neg (by decide)]; exact cxg c (10, 0, 70) (by decide)) (by rw [gr', if_neg (by decide), if_neg (by decide)]; exact cxg c (10, 1, 199) (by decide)) (vC_rule_39 ?_)
    rw [if_neg nl]
    refine h3 _ ⟨pN.2.1, fun a n => ?_, fun a a1 a3 a4 a5 => ?_, ?_, ?_⟩ (fun j => ?_) zf ?_ ?_ (fun i hi => ?_)
    · funext j
      show gr (sr (sr N 10 6 (some U)) 10 8 (some R)) a j = _
      rw [gr', if_neg (fun e => n e.1), if_neg (fun e => n e.1)]
    · rw [gi_ne a4, gi_ne a3]; exact pN.2.2 a a1 a5
    · rw [giR _ _ _ _ _ _ (by decide), gi_si, if_pos ⟨rfl, rfl⟩]
    · unfold RN
      rw [giR _ _ _ _ _ _ u10.1, giR _ _ _ _ _ _ u10.2]; exact rn
    · show gr (sr (sr N 10 6 (some U)) 10 8 (some R)) 10 j = _
      rw [gr']
      simp only [true_and]
    · rw [gi_si, if_pos ⟨rfl, rfl⟩]; exact e5
    · rw [gi_si, if_neg (by decide), giR _ _ _ _ _ _ (by decide), gi', pN.2.2 10 (by decide) (Ne.symm u10.1)]
    · rw [giR _ _ _ _ _ _ u10.1, giR _ _ _ _ _ _ u10.2, gi']; exact vals i hi
end EQD
section EQD2
variable {M : Mm}
end EQD2
end MG81
section MG82
/-! ===== the class's library exactly, with what is settled ===== -/
section EQU
variable {M N : Mm} {L P R S U : Nat}
theorem eC_library2 {T : Nat → Int32} {t : Nat} {x0 v0 p0 : Int32} {K : Int32 → Mm → Prop} (c : CX M L P R S U) (tc : TC M T t)
    (h1 : ∀ N, LCF P M N → gr N = gr M → ¬ (lpS T t 401 (lS0 T t x0 v0 p0) 0).1.1.2.2.2.2.1 = 0 → gi N 10 10 = (lpS T t 401 (lS0 T t x0 v0 p0) 0).1.1.2.2.2.2.1 → gi N 10 9 = gi M 10 9 → K ((-10) - (lpS T t 401 (lS0 T t x0 v0 p0) 0).1.1.2.2.2.2.2) N)
    (h2 : ∀ N w, LCF P M N → gr N = gr M → (lpS T t 401 (lS0 T t x0 v0 p0) 0).1.1.2.2.2.2.1 = 0 → w < (lpS T t 401 (lS0 T t x0 v0 p0) 0).1.2.1 → bdS (lpS T t 401 (lS0 T t x0 v0 p0) 0).1 w → (∀ v, v < w → ¬ bdS (lpS T t 401 (lS0 T t x0 v0 p0) 0).1 v) → gi N 10 10 = 6 → gi N 10 9 = gi M 10 9 → K ((-10) - (lpS T t 401 (lS0 T t x0 v0 p0) 0).1.2.2.2.2.2.2 w) N)
    (h3 : ∀ N, LCF P M N → (∀ j, gr N 10 j = if j = 5 then some L else if j = 4 then some P else gr M 10 j) → (lpS T t 401 (lS0 T t x0 v0 p0) 0).1.1.2.2.2.2.1 = 0 → (∀ w, w < (lpS T t 401 (lS0 T t x0 v0 p0) 0).1.2.1 → ¬ bdS (lpS T t 401 (lS0 T t x0 v0 p0) 0).1 w) → gi N 10 10 = 0 → gi N 10 9 = 255 → gi N P 1 = nI (lpS T t 401 (lS0 T t x0 v0 p0) 0).1.2.1 → (lpS T t 401 (lS0 T t x0 v0 p0) 0).1.2.1 ≤ 24 → okS (lpS T t 401 (lS0 T t x0 v0 p0) 0).1 → (∀ w, w < (lpS T t 401 (lS0 T t x0 v0 p0) 0).1.2.1 → ∀ i, i < 8 → gi N (P + 776 + 64 * w) (cf i) = (lpS T t 401 (lS0 T t x0 v0 p0) 0).1.2.2.1 w i) → (∀ b, b < 8 → gi N (P + 140) b = (lpS T t 401 (lS0 T t x0 v0 p0) 0).1.2.2.2.1 b) → SE N P (lpS T t 401 (lS0 T t x0 v0 p0) 0).1.2.2.1 (lpS T t 401 (lS0 T t x0 v0 p0) 0).1.2.1 → okT (lpS T t 401 (lS0 T t x0 v0 p0) 0).1 → WL N P (lpS T t 401 (lS0 T t x0 v0 p0) 0).1.2.2.1 (lpS T t 401 (lS0 T t x0 v0 p0) 0).1.2.1 → K (nI (lpS T t 401 (lS0 T t x0 v0 p0) 0).2) N) : CI mC_library [.ref 10] M K := by
  have hP : LA P := c.2.2.1.2.1
  have lP : LR M P := c.2.2.2.1.2
  have hP' := hP
  unfold LA at hP'
  have pr : 258 < P := by omega
  have fa : ∀ N v, PC P M N → (∀ N', LCF P M N' → gr N' = gr M → gi N' 10 10 = gi N 199 5 → gi N' 10 9 = gi M 10 9 → K ((-10) - gi N 199 6) N') → v < 0 → X mC_library 11 [(0, .ref 10)] [.int v] N (mC mC_library, mS mC_library) (QI K) := by
    intro N v pN h hv
    have g5 : gr N 10 5 = some P := by rw [pN.1]; exact c.2.1.2.1
    refine vC_library_11 rfl g5 ⟨fun _ => vC_library_48 rfl (eC_afterText (by rw [pN.1]; exact cxg c (10, 0, 70) (by decide)) (by rw [pN.1]; exact cxg c (10, 1, 199) (by decide)) (vC_library_53 ?_)), fun q => absurd hv q⟩
    rw [if_pos hv]
    refine h _ ⟨pN.2.1, fun a _ => by show gr N a = _; rw [pN.1], fun a a1 a2 a3 a4 a5 => ?_, ?_⟩ pN.1 ?_ ?_
    · rw [gi_ne a4, gi_ne a3]; exact pN.2.2 a a1 a2 a5
    · rw [giR _ _ _ _ _ _ (by decide), gi_si, if_pos ⟨rfl, rfl⟩]
    · rw [gi_si, if_pos ⟨rfl, rfl⟩]
    · rw [gi_si, if_neg (by decide), giR _ _ _ _ _ _ (by decide), pN.2.2 10 (by decide) (by decide) (by omega)]
  refine call_of rfl (Nat.le_of_ble_eq_true rfl) rfl (vC_library_0 rfl (cxg c (10, 2, 258) (by decide)) c.2.1.2.1 ?_)
  have main := eLr_readInto (M := M) (T := T) (t := t) (r := P) (x0 := x0) (v0 := v0) (p0 := p0) (K := fun rv N => X mC_library 11 [(0, .ref 10)] [.int rv] N (mC mC_library, mS mC_library) (QI K)) lP pr (cxg c (258, 0, 199) (by decide)) tc
  have kt := lpS_okT (T := T) (t := t) 401 (lS0 T t x0 v0 p0) 0 okT0
  have kd := lpS_okD (T := T) (t := t) 401 (lS0 T t x0 v0 p0) 0 okD0
  generalize lpS T t 401 (lS0 T t x0 v0 p0) 0 = F at h1 h2 h3 main kt kd
  refine main (fun N pN nf e5 e6 => fa N _ pN (fun O a1 a2 a3 a4 => ?_) (by decide)) (fun N w pN zf hw b1 b2 e5 e6 => fa N _ pN (fun O a1 a2 a3 a4 => ?_) (by decide)) (fun N u pN zf nb e5 ld cl ok hl => ?_)
  · rw [e5] at a3
    rw [e6]
    exact h1 O a1 a2 nf a3 a4
  · rw [e5] at a3
    rw [e6]
    exact h2 O w a1 a2 zf hw b1 b2 a3 a4
  · have g5 : gr N 10 5 = some P := by rw [pN.1]; exact c.2.1.2.1
    have nl : ¬ nI F.2 < 0 := n0 F.2 (by omega)
    refine vC_library_11 rfl g5 ⟨fun q => absurd q nl, fun _ => eS_settle (g := F.1.2.2.1) ld (fun w hw i hi => ?_) (fun w hw => cl.2.2.1 w hw 7 (by decide)) (fun w hw => (cl.2.2.2.2.2.2.2 w hw).2) (fun w hw => (rows_ok ok (kt zf) nb w hw).1) (fun w hw => (rows_ok ok (kt zf) nb w hw).2.1) (fun w hw => ⟨(kt zf w hw).2.2.1, (kt zf w hw).2.2.2.1, kd zf w hw⟩) (fun O sO se wl => ?_)⟩
    · have := cl.2.2.1 w hw i (by omega)
      rw [show cf i = i by unfold cf; rw [if_neg (by omega)]] at this
      exact this
    have gO : gr O = gr M := sO.1.trans pN.1
    refine vC_library_23 rfl (r1 := L) (r2 := P) (by rw [gO]; exact cx4 c) (by rw [gO]; exact c.2.1.2.1) (vC_library_48 rfl ?_)
    have gr' : ∀ a j, gr (si (sr (sr O 10 4 (some P)) 10 5 (some L)) 10 9 255) a j = if a = 10 ∧ j = 5 then some L else if a = 10 ∧ j = 4 then some P else gr M a j := by
      intro a j
      show gr (sr (sr O 10 4 (some P)) 10 5 (some L)) a j = _
      rw [gr_sr, gr_sr, gO]
    refine eC_afterText (by rw [gr', if_neg (by decide), if_neg (by decide)]; exact cxg c (10, 0, 70) (by decide)) (by rw [gr', if_neg (by decide), if_neg (by decide)]; exact cxg c (10, 1, 199) (by decide)) (vC_library_53 ?_)
    rw [if_neg nl]
    have hD := ok.1
    have gx : ∀ x k, x ≠ 10 → x ≠ 70 → gi (si (si (si (sr (sr O 10 4 (some P)) 10 5 (some L)) 10 9 255) 70 1 0) 10 10 (gi (si (sr (sr O 10 4 (some P)) 10 5 (some L)) 10 9 255) 199 5)) x k = gi O x k := by
      intro x k n1 n2
      rw [giR _ _ _ _ _ _ n1, giR _ _ _ _ _ _ n2, giR _ _ _ _ _ _ n1]
      rfl
    refine h3 _ ⟨?_, fun a n => ?_, fun a a1 a2 a3 a4 a5 => ?_, ?_⟩ (fun j => ?_) zf nb ?_ ?_ ?_ hD ok (fun w hw i hi => ?_) (fun b hb => ?_) (se_eq (fun a ha => funext (fun k => gx a k (by omega) (by omega))) se) (kt zf) (wl_eq (fun a ha => funext (fun k => gx a k (by omega) (by omega))) wl)
    · show gl O = _
      rw [sO.2.1, pN.2.1]
    · funext j
      show gr (si (sr (sr O 10 4 (some P)) 10 5 (some L)) 10 9 255) a j = _
      rw [gr', if_neg (fun e => n e.1), if_neg (fun e => n e.1)]
    · rw [gi_ne a4, gi_ne a3, gi_ne a4]
      show gi O a = _
      rw [sO.2.2.2.2.1 a a5, pN.2.2 a a1 a2 a5]
    · rw [giR _ _ _ _ _ _ (by decide), gi_si, if_pos ⟨rfl, rfl⟩]
    · show gr (si (sr (sr O 10 4 (some P)) 10 5 (some L)) 10 9 255) 10 j = _
      rw [gr']
      simp only [true_and]
    · rw [gi_si, if_pos ⟨rfl, rfl⟩, giR _ _ _ _ _ _ (by decide)]
      show gi O 199 5 = 0
      rw [sO.2.2.2.2.1 199 (by omega)]; exact e5
    · rw [gi_si, if_neg (by decide), giR _ _ _ _ _ _ (by decide), gi_si, if_pos ⟨rfl, rfl⟩]
    · rw [gx _ _ (by omega) (by omega), sO.2.2.1]; exact ld.2.1
    · rw [gx _ _ (by omega) (by omega), sO.2.2.2.1 w (by omega) (cf i) (by unfold cf; split <;> omega)]
      exact cl.2.2.1 w hw i hi
    · rw [gx _ _ (by omega) (by omega), sO.2.2.2.2.2]
      exact cl.2.2.2.2.1 b hb
end EQU
end MG82
