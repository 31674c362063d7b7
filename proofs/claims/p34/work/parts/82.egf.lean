section MG45
/-! ===== the class: books, words found, rules, sheets, counts ===== -/
section CX2
variable {M N : Mm} {L P R S U : Nat}
theorem lC_bring {b : Int32} {K : Int32 → Mm → Prop} (h0 : K (-1) M) (h1 : K (gi M 10 9) (si M 10 9 b)) : CI mC_bring [.ref 10, .int b] M K :=
  call_of rfl (Nat.le_of_ble_eq_true rfl) rfl (vC_bring_0 rfl ⟨fun _ => h0, fun _ => h1⟩)
theorem lC_copies {b n : Int32} {K : Int32 → Mm → Prop} (c : CX M L P R S U) (h0 : K (-1) M) (h1 : ∀ r i, i < 8 → b = nI i → K r (si M (L + 140) i n)) : CI mC_copies [.ref 10, .int b, .int n] M K := by
  refine call_of rfl (Nat.le_of_ble_eq_true rfl) rfl (vC_copies_0 rfl (cx4 c) (lr2 (cxlr c)) ⟨fun q => ?_, fun _ => h0, fun q => ?_⟩)
  · obtain ⟨i, hi, e⟩ := rng (c := 8) (n := 8) rfl (by decide) q.1 q.2.1
    rw [e]; exact vin hi (by decide)
  · obtain ⟨i, hi, e⟩ := rng (c := 8) (n := 8) rfl (by decide) q.1 q.2.1
    have := h1 (gi M (L + 140) b.toNatClampNeg) i hi e
    have ec : b.toNatClampNeg = i := by rw [e]; exact ncl (by omega)
    rw [ec] at this ⊢
    refine ⟨by rw [e]; exact vin hi (by decide), this⟩
theorem lC_fewestBooks {k : Nat} {a : Int32} {K : Int32 → Mm → Prop} (c : CX M L P R S U) (hk : k < 64) (h : ∀ r N, CQ M N → K r N) : CI mC_fewestBooks [.ref 10, .int (nI k), .int a] M K := by
  refine call_of rfl (Nat.le_of_ble_eq_true rfl) rfl (vC_fewestBooks_0 rfl (cx4 c) (cx6 c) (lS_tellingBooks (cxlr c) (raM3 (cxR c)) (fun t => vC_fewestBooks_11 ?_)))
  refine lp 256 (P := fun s => ∀ y z N, CQ M N → X mC_fewestBooks 22 [(0, .ref 10), (1, .int (nI k)), (2, .int a), (3, .int t), (4, .int y), (5, .int z), (6, .int (nI s))] [] N (mC mC_fewestBooks, mS mC_fewestBooks) (QI K)) (fun s hs ih y z N qN => ?_) (fun y z N qN => ?_) _ _ _ (cq_rf M)
  · have ns : ¬ (255 : Int32) < nI s := by rw [show (255 : Int32) = nI 255 from rfl, nlt (by omega) (by decide)]; omega
    have cN := cx_cq qN c
    refine vC_fewestBooks_22 ⟨fun q => absurd q ns, fun _ => ?_, fun _ => sJi_bitCount (fun _ _ => vC_fewestBooks_44 rfl (cx11 cN) (cx4 cN) (cx6 cN) ⟨fun _ => ?_, fun _ => sWe_begin (cxlr cN) (cxL c) (cxR c) ?_⟩)⟩
    · rw [nI_s]; exact ih _ _ _ qN
    · rw [nI_s]; exact ih _ _ _ qN
    · have qB := cq_tr qN (cq_bgn N L R (nI s))
      refine vC_fewestBooks_66 rfl (cx11 (cx_cq qB c)) (eWe_heldIn (cxw cN _) (cxL c) (cxR c) hk (fun O qO _ => vC_fewestBooks_74 ⟨fun _ => ?_, fun _ => sJi_bitCount (fun _ _ => vC_fewestBooks_87 ?_)⟩))
      · rw [nI_s]; exact ih _ _ _ (cq_tr qB (cq_wq qO))
      · rw [nI_s]; exact ih _ _ _ (cq_tr qB (cq_wq qO))
  · have l : (255 : Int32) < nI 256 := by decide
    exact vC_fewestBooks_22 ⟨fun _ => h _ N qN, fun q => absurd l q.1, fun q => absurd l q.1⟩
theorem lC_argue {x a w : Int32} {K : Int32 → Mm → Prop} (c : CX M L P R S U) (h : ∀ r N, CQ M N → K r N) : CI mC_argue [.ref 10, .int x, .int a, .int w] M K := by
  have n := fun r => h r M (cq_rf M)
  refine call_of rfl (Nat.le_of_ble_eq_true rfl) rfl (vC_argue_0 (sC_isCase (fun _ => vC_argue_4 ⟨fun _ => n _, fun q => absurd rfl q⟩) (fun j hj ej => vC_argue_4 ⟨fun q => absurd q (by decide), fun _ => sC_isEither (fun _ _ => vC_argue_11 ⟨fun _ => n _, fun q => absurd rfl q⟩) (fun _ => vC_argue_11 ⟨fun q => absurd q (by decide), fun _ => sC_isEither (fun _ _ => vC_argue_18 rfl ⟨fun q => absurd rfl q, fun _ => n _⟩) (fun _ => vC_argue_18 rfl ⟨fun _ => ?_, fun q => absurd q (by decide)⟩)⟩)⟩)))
  subst ej
  exact lC_fewestBooks c hj (fun r N qN => vC_argue_29 ⟨fun _ => h _ N qN, fun _ => sJi_bitCount (fun _ _ => vC_argue_48 (h _ N qN)), fun _ => h _ N qN⟩)
theorem lC_game {x b w : Int32} {K : Int32 → Mm → Prop} (c : CX M L P R S U) (h : ∀ r N, CQ M N → K r N) : CI mC_game [.ref 10, .int x, .int b, .int w] M K := by
  have n := fun r => h r M (cq_rf M)
  have e11 := cx11 c
  have cB := cx_cq (cq_bgn M L R 63) c
  refine call_of rfl (Nat.le_of_ble_eq_true rfl) rfl (vC_game_0 (sC_isCase (fun _ => vC_game_4 ⟨fun _ => n _, fun q => absurd rfl q⟩) (fun j hj ej => vC_game_4 ⟨fun q => absurd q (by decide), fun _ => sC_isEither (fun _ _ => vC_game_11 ⟨fun _ => n _, fun q => absurd rfl q⟩) (fun _ => vC_game_11 ⟨fun q => absurd q (by decide), fun _ => sC_isEither (fun _ _ => vC_game_18 rfl e11 (cx4 c) (cx6 c) ⟨fun q => absurd rfl q, fun _ => n _⟩) (fun _ => vC_game_18 rfl e11 (cx4 c) (cx6 c) ⟨fun _ => sWe_begin (cxlr c) (cxL c) (cxR c) (vC_game_40 rfl (cx11 cB) ⟨fun _ => h _ _ (cq_bgn _ _ _ _), fun _ => ?_⟩), fun q => absurd q (by decide)⟩)⟩)⟩)))
  subst ej
  exact eWe_heldIn (cxw c _) (cxL c) (cxR c) hj (fun O qO _ => vC_game_52 (h _ O (cqb qO)))
theorem lC_turn {w : Int32} {K : Int32 → Mm → Prop} (c : CX M L P R S U) (h : ∀ r N, CQ M N → K r N) : CI mC_turn [.ref 10, .int w] M K := by
  have cB := cx_cq (cq_bgn M L R (gi M 10 9)) c
  refine call_of rfl (Nat.le_of_ble_eq_true rfl) rfl (vC_turn_0 rfl ⟨fun _ => h _ M (cq_rf M), fun _ => lC_weighNow c (vC_turn_15 rfl (cxg cB (10, 12, 5312) (by decide)) (lFi_best (cxw c _) (cxL c) (cxR c) (cxg cB (5312, 0, 5192) (by decide)) (cxg cB (5312, 1, 5392) (by decide)) (fun v N qN hv => ?_)))⟩)
  have q := cq_tr (cq_bgn M L R (gi M 10 9)) (cq_bq qN)
  have cN := cx_cq q c
  refine vC_turn_22 rfl (cxg cN (10, 12, 5312) (by decide)) (cxg cN (5312, 1, 5392) (by decide)) ⟨fun p => ⟨fun _ => ⟨?_, h _ N q⟩, fun _ => call_of rfl (Nat.le_of_ble_eq_true rfl) rfl (vFi_doctorAt_0 (vC_turn_70 (h _ N q))), fun _ => call_of rfl (Nat.le_of_ble_eq_true rfl) rfl (vFi_answerAt_0 (vC_turn_75 (h _ N q))), fun _ => call_of rfl (Nat.le_of_ble_eq_true rfl) rfl (vFi_marksAt_0 (vC_turn_80 (h _ N q)))⟩, fun _ => h _ N q⟩
  rcases hv with hv | ⟨i, hi, e⟩
  · exact absurd p (Int32.not_le.mpr hv)
  · rw [e]; exact vin hi (by decide)
theorem lC_turns {d a m : Int32} {K : Int32 → Mm → Prop} (c : CX M L P R S U) (h : ∀ r N, CQ M N → K r N) : CI mC_turns [.ref 10, .int d, .int a, .int m] M K := by
  have n := fun r => h r M (cq_rf M)
  refine call_of rfl (Nat.le_of_ble_eq_true rfl) rfl (vC_turns_0 (sC_isDoctor (fun _ => vC_turns_4 ⟨fun _ => n _, fun q => absurd rfl q⟩) (fun j hj ej => vC_turns_4 ⟨fun q => absurd q (by decide), fun _ => sC_isEither (fun _ _ => vC_turns_11 ⟨fun _ => n _, fun q => absurd rfl q⟩) (fun _ => vC_turns_11 ⟨fun q => absurd q (by decide), fun _ => sC_isCase (fun _ => vC_turns_18 rfl (cx6 c) ⟨fun q => absurd rfl q, fun _ => n _⟩) (fun _ _ _ => vC_turns_18 rfl (cx6 c) ⟨fun _ => sRu_isMain (raM3 (cxR c)) (vC_turns_31 rfl ⟨fun _ => lC_weighNow c (vC_turns_41 ?_), fun _ => n _⟩), fun q => absurd q (by decide)⟩)⟩)⟩)))
  subst ej
  refine lp 64 (P := fun k => ∀ y N, WQ (bgn M L R (gi M 10 9)) N → X mC_turns 47 [(0, .ref 10), (1, .int (nI j)), (2, .int a), (3, .int m), (4, .int y), (5, .int (nI k))] [] N (mC mC_turns, mS mC_turns) (QI K)) (fun k hk ih y N qN => ?_) (fun y N qN => ?_) _ _ (wq_rf _)
  · have wN := wh_gr (cxw c (gi M 10 9)) qN.1
    refine vC_turns_47 rfl (cx11 (cx_cq (cqb qN) c)) ⟨fun q => absurd q (nge rfl (by decide) hk), fun _ => ?_, fun _ => eWe_weigh wN (cxL c) (cxR c) hk (fun O qO vO => vC_turns_72 rfl (cx11 (cx_cq (cqb (wq_tr qN qO)) c)) (sJi_bitCount (fun _ _ => vC_turns_84 rfl (lWe_turnsBy (wh_gr wN qO.1) hj hk vO.1 (fun _ => vC_turns_87 ?_)))))⟩
    · rw [nI_s]; exact ih _ _ qN
    · rw [nI_s]; exact ih _ _ (wq_tr qN qO)
  · exact vC_turns_47 rfl (cx11 (cx_cq (cqb qN) c)) ⟨fun _ => h _ _ (cqb qN), fun q => absurd (nself rfl) q.1, fun q => absurd (nself rfl) q.1⟩
/-- a rule becomes as another -/
theorem lC_keep {K : Int32 → Mm → Prop} (c : CX M L P R S U) (rn : RN M R) (h : ∀ N, PX S M N → RN N S → (∀ i, i < 7 → gi N S i = gi M R i) → K 1 N) : CI mC_keep [.ref 10] M K := by
  have hS : RA S := c.2.2.1.2.2.2.1
  have hR := cxR c
  have ne : R ≠ S := c.2.2.2.2.2.1
  refine call_of rfl (Nat.le_of_ble_eq_true rfl) rfl (vC_keep_0 rfl c.2.1.2.2.2.1 (cx6 c) (call_of rfl (Nat.le_of_ble_eq_true rfl) rfl (vRu_becomeAs_0 (raM3 hR) (raM3 hS) ?_)))
  have e : ∀ (A : Mm) (j : Nat) (v : Int32) (k : Nat), gi (si A S j v) R k = gi A R k := fun A j v k => giR _ _ _ _ _ _ ne
  simp only [e]
  refine ⟨rn, vC_keep_11 (h _ (px_tr px_si (px_tr px_si (px_tr px_si (px_tr px_si (px_tr px_si (px_tr px_si px_si)))))) ?_ (fun i hi => ?_))⟩
  · unfold RN; simp only [gxs]; exact rn
  · simp only [gxs]
    match i, hi with
    | 0, _ => rfl
    | 1, _ => rfl
    | 2, _ => rfl
    | 3, _ => rfl
    | 4, _ => rfl
    | 5, _ => rfl
    | 6, _ => rfl
theorem lC_swap {K : Int32 → Mm → Prop} (c : CX M L P R S U) (h : K 1 (sr (sr M 10 6 (some S)) 10 7 (some R))) : CI mC_swap [.ref 10] M K :=
  call_of rfl (Nat.le_of_ble_eq_true rfl) rfl (vC_swap_0 rfl (cx6 c) c.2.1.2.2.2.1 h)
theorem lC_differ {w : Int32} {K : Int32 → Mm → Prop} (c : CX M L P R S U) (h : ∀ r N, CQ M N → K r N) : CI mC_differ [.ref 10, .int w] M K := by
  have n := fun r => h r M (cq_rf M)
  have hS : RA S := c.2.2.1.2.2.2.1
  have cB := cx_cq (cq_bgn M L R (gi M 10 9)) c
  refine call_of rfl (Nat.le_of_ble_eq_true rfl) rfl (vC_differ_0 (sC_isEither (fun _ _ => vC_differ_4 rfl ⟨fun q => absurd rfl q, fun _ => n _⟩) (fun _ => vC_differ_4 rfl ⟨fun _ => lC_weighNow c (vC_differ_13 rfl (cx11 cB) (eWe_casesOf (cxw c _) (cxL c) (cxR c) (fun N qN => ?_))), fun q => absurd q (by decide)⟩)))
  have cN := cx_cq (cqb qN) c
  refine vC_differ_21 rfl (cx11 cN) (eWe_casesOf (wh_gr (cxw c _) qN.1) (cxL c) (cxR c) (fun O qO => ?_))
  have q2 := cqb (wq_tr qN qO)
  have cO := cx_cq q2 c
  refine vC_differ_30 rfl (cx11 cO) (cx4 cO) cO.2.1.2.2.2.1 (sWe_begin (cxlr cO) (cxL c) hS ?_)
  have q3 := cq_tr q2 (cq_bgn O L S (gi O 10 9))
  have w3 : WH (bgn O L S (gi O 10 9)) L S := wh_bgn _ (cxlr cO) (cxL c) hS (cxg cO (5192, 3, 5261) (by decide))
  refine vC_differ_51 rfl (cx11 (cx_cq q3 c)) (eWe_casesOf w3 (cxL c) hS (fun V qV => ?_))
  have q4 := cq_tr q3 (cq_wq qV)
  refine vC_differ_60 rfl (cx11 (cx_cq q4 c)) (eWe_casesOf (wh_gr w3 qV.1) (cxL c) hS (fun W qW => vC_differ_71 (lC_manyOrLeast (fun _ => vC_differ_81 (h _ W (cq_tr q4 (cq_wq qW)))))))
theorem lC_tellsApart {m : Int32} {y n : Int64} {K : Int32 → Mm → Prop} (h : ∀ r, K r M) : CI mC_tellsApart [.int m, .long y, .long n] M K := by
  refine call_of rfl (Nat.le_of_ble_eq_true rfl) rfl (vC_tellsApart_0 ?_)
  refine lp 64 (P := fun k => ∀ u v, X mC_tellsApart 9 [(0, .int m), (1, .long y), (3, .long n), (5, .long u), (7, .long v), (9, .int (nI k))] [] M (mC mC_tellsApart, mS mC_tellsApart) (QI K)) (fun k hk ih u v => ?_) (fun u v => ?_) _ _
  · have nk := nge (c := 64) (i := k) (n := 64) rfl (by decide) hk
    refine vC_tellsApart_9 ⟨fun q => absurd q.1 nk, fun q => absurd q.1 nk, fun _ => ?_⟩
    rw [nI_s]; exact ih _ _
  · exact vC_tellsApart_9 ⟨fun _ => h _, fun _ => h _, fun q => absurd (nself rfl) q⟩
theorem lC_brief {w : Int32} {K : Int32 → Mm → Prop} (c : CX M L P R S U) (h : ∀ r N, CQ M N → K r N) : CI mC_brief [.ref 10, .int w] M K := by
  have n := fun r => h r M (cq_rf M)
  refine call_of rfl (Nat.le_of_ble_eq_true rfl) rfl (vC_brief_0 (sC_isEither (fun _ _ => vC_brief_4 rfl ⟨fun q => absurd rfl q, fun _ => n _⟩) (fun _ => vC_brief_4 rfl ⟨fun _ => lC_casesNow c (fun y N qN => vC_brief_14 rfl (lC_casesNow (cx_cq qN c) (fun z O qO => vC_brief_20 ?_))), fun q => absurd q (by decide)⟩)))
  have q := cq_tr qN qO
  refine lp 64 (P := fun k => ∀ x, X mC_brief 29 [(1, .int w), (2, .long y), (4, .long z), (6, .int x), (7, .int (nI k))] [] O (mC mC_brief, mS mC_brief) (QI K)) (fun k hk ih x => ?_) (fun x => ?_) _
  · have nk := nge (c := 64) (i := k) (n := 64) rfl (by decide) hk
    refine vC_brief_29 ⟨fun q => absurd q.1 nk, fun q => absurd q.1 nk, fun _ => sJi_bitCount (fun _ _ => vC_brief_41 (sJi_bitCount (fun _ _ => vC_brief_46 ⟨fun _ => ?_, fun _ => lC_tellsApart (fun _ => vC_brief_57 ⟨fun _ => ?_, fun _ => ?_⟩)⟩)))⟩
    · rw [nI_s]; exact ih _
    · rw [nI_s]; exact ih _
    · rw [nI_s]; exact ih _
  · exact vC_brief_29 ⟨fun _ => h _ O q, fun _ => sJi_bitCount (fun _ _ => vC_brief_79 (h _ O q)), fun q => absurd (nself rfl) q⟩
/-- sheets -/
def sa (e : Nat) : Nat := 5509 + 128 * e
theorem sag (c : CX M L P R S U) {e : Nat} (he : e < 4) : gr M 5459 (nI e).toNatClampNeg = some (sa e) ∧ gr M (sa e) 0 = some (5588 + 128 * e) ∧ sa e % 64 = 5 ∧ (5588 + 128 * e) % 64 = 20 := by
  rw [ncl (by omega)]
  match e, he with
  | 0, _ => exact ⟨cxg c (5459, 0, 5509) (by decide), cxg c (5509, 0, 5588) (by decide), rfl, rfl⟩
  | 1, _ => exact ⟨cxg c (5459, 1, 5637) (by decide), cxg c (5637, 0, 5716) (by decide), rfl, rfl⟩
  | 2, _ => exact ⟨cxg c (5459, 2, 5765) (by decide), cxg c (5765, 0, 5844) (by decide), rfl, rfl⟩
  | 3, _ => exact ⟨cxg c (5459, 3, 5893) (by decide), cxg c (5893, 0, 5972) (by decide), rfl, rfl⟩
theorem lC_sheet {k l n : Int32} {K : Int32 → Mm → Prop} (c : CX M L P R S U) (h0 : ((isS k && isL l) = false ∨ ¬ n ≤ 40) → K (-1) M) (h1 : (isS k && isL l) = true → n ≤ 40 → ¬ 0 ≤ n → K (-14) M) (h2 : ∀ e, e < 4 → k = nI e → isL l = true → n ≤ 40 → 0 ≤ n → K 1 (fl (si (si M (sa e) 1 l) (sa e) 2 n) (5588 + 128 * e) 40 0)) : CI mC_sheet [.ref 10, .int k, .int l, .int n] M K := by
  have g13 := cxg c (10, 13, 5459) (by decide)
  refine call_of rfl (Nat.le_of_ble_eq_true rfl) rfl (vC_sheet_0 (sC_isSheet (fun q => vC_sheet_4 ⟨fun _ => h0 (Or.inl ?_), fun q => absurd rfl q⟩) (fun e he ek => vC_sheet_4 ⟨fun q => absurd q (by decide), fun _ => sC_isLane (fun q => vC_sheet_11 rfl g13 ⟨fun _ => h0 (Or.inl ?_), fun q => absurd rfl q.1, fun q => absurd rfl q.1⟩) (fun q1 q2 => vC_sheet_11 rfl g13 ⟨fun q => h0 (Or.inr ?_), fun q => ?_, fun q => ?_⟩)⟩)))
  · rw [nS q, Bool.false_and]
  · rw [nL q, Bool.and_false]
  · rcases q with q | q
    · exact absurd q (by decide)
    · exact q.2
  · obtain ⟨s1, s2, s3, s4⟩ := sag c he
    have il : isL l = true := decide_eq_true ⟨q1, q2⟩
    have := h2 e he ek il q.2.1 q.2.2
    refine ⟨by rw [ek]; exact vin he (by decide), sa e, by rw [ek]; exact s1, call_of rfl (Nat.le_of_ble_eq_true rfl) rfl (vSh_renew_0 s3 s2 (sJr_fill s4 ak_20 (by decide) (vSh_renew_18 (vC_sheet_40 this))))⟩
  · refine h1 ?_ q.2.1 q.2.2
    have ie : isS k = true := by rw [ek]; exact decide_eq_true ⟨n0 e (by omega), nge rfl (by decide) he⟩
    rw [ie, show isL l = true from decide_eq_true ⟨q1, q2⟩]; rfl
theorem lC_lay {k i v : Int32} {K : Int32 → Mm → Prop} (c : CX M L P R S U) (hs : ∀ e, e < 4 → ∃ n, n ≤ 40 ∧ gi M (sa e) 2 = nI n) (h0 : isS k = false → K (-1) M) (h1 : ∀ e, e < 4 → k = nI e → gi M (sa e) 1 = -4 → K (-11) M) (h2 : ∀ e, e < 4 → k = nI e → ¬ gi M (sa e) 1 = -4 → (i < 0 ∨ gi M (sa e) 2 ≤ i) → K (-12) M) (h3 : ∀ e j n, e < 4 → k = nI e → i = nI j → n ≤ 40 → gi M (sa e) 2 = nI n → j < n → ¬ gi M (sa e) 1 = -4 → K 1 (si M (5588 + 128 * e) j (layv (gi M (sa e) 1) v))) : CI mC_lay [.ref 10, .int k, .int i, .int v] M K := by
  have g13 := cxg c (10, 13, 5459) (by decide)
  refine call_of rfl (Nat.le_of_ble_eq_true rfl) rfl (vC_lay_0 (sC_isSheet (fun q => vC_lay_4 rfl g13 ⟨fun q => absurd rfl q, fun _ => h0 (nS q)⟩) (fun e he ek => vC_lay_4 rfl g13 ⟨fun _ => ?_, fun q => absurd q (by decide)⟩)))
  obtain ⟨s1, s2, s3, s4⟩ := sag c he
  obtain ⟨n, hn, en⟩ := hs e he
  refine ⟨by rw [ek]; exact vin he (by decide), sa e, by rw [ek]; exact s1, call_of rfl (Nat.le_of_ble_eq_true rfl) rfl (vSh_isNothing_0 s3 (vC_lay_22 s3 ⟨fun q => ?_, fun q => ?_⟩))⟩
  · have n4 : ¬ gi M (sa e) 1 = -4 := fun z => by rw [if_pos z] at q; exact absurd q (by decide)
    refine call_of rfl (Nat.le_of_ble_eq_true rfl) rfl (vSh_hasCell_0 s3 ⟨fun p => vC_lay_34 s3 ⟨fun q => absurd rfl q, fun _ => h2 e he ek n4 (p.imp id (fun p => p.2))⟩, fun p => vC_lay_34 s3 ⟨fun _ => ?_, fun q => absurd q (by decide)⟩⟩)
    rw [en] at p
    obtain ⟨j, hj, ej⟩ := rng (n := n) rfl (by omega) p.1 p.2
    have := h3 e j n he ek ej hn en hj n4
    refine call_of rfl (Nat.le_of_ble_eq_true rfl) rfl (vSh_put_0 s3 s2 ⟨by rw [ej]; exact vin (by omega) (by decide), vC_lay_47 ?_⟩)
    rw [ej, ncl (by omega)]
    exact this
  · have n4 : gi M (sa e) 1 = -4 := by
      by_cases z : gi M (sa e) 1 = -4
      · exact z
      · rw [if_neg z] at q; exact absurd rfl q
    exact h1 e he ek n4
theorem lC_readCells {e : Nat} {f w : Int32} {n : Nat} {K : Int32 → Mm → Prop} (c : CX M L P R S U) (he : e < 4) (hn : n ≤ 40) (hs : ∃ z, z ≤ 40 ∧ gi M (sa e) 2 = nI z) (h : ∀ r N, CQ M N → K r N) : CI mC_readCells [.ref 10, .ref (sa e), .int f, .int (nI n), .int w] M K := by
  obtain ⟨z, hz, ez⟩ := hs
  refine call_of rfl (Nat.le_of_ble_eq_true rfl) rfl (vC_readCells_0 rfl (lC_weighNow c (vC_readCells_4 ?_)))
  have nsa : ¬ (sa e = 5192 ∨ sa e = 5261 ∨ sa e = 5392) := by unfold sa; omega
  refine lp n (P := fun i => ∀ x N, WQ (bgn M L R (gi M 10 9)) N → X mC_readCells 10 [(0, .ref 10), (1, .ref (sa e)), (2, .int f), (3, .int (nI n)), (4, .int w), (5, .int x), (6, .int (nI i))] [] N (mC mC_readCells, mS mC_readCells) (QI K)) (fun i hi ih x N qN => ?_) (fun x N qN => ?_) _ _ (wq_rf _)
  · have q := cqb qN
    have cN := cx_cq q c
    have k := h
    obtain ⟨s1, s2, s3, s4⟩ := sag cN he
    have eN : gi N (sa e) 2 = nI z := by rw [q.2.2 _ nsa]; exact ez
    refine vC_readCells_10 s3 ⟨fun p => absurd p (nge rfl (by omega) hi), fun _ => call_of rfl (Nat.le_of_ble_eq_true rfl) rfl (vSh_hasCell_0 s3 ⟨fun _ => vC_readCells_21 s3 ⟨fun _ => h _ N q, fun p => absurd rfl p⟩, fun _ => vC_readCells_21 s3 ⟨fun p => absurd p (by decide), fun _ => call_of rfl (Nat.le_of_ble_eq_true rfl) rfl (vSh_hasCell_0 s3 ⟨fun _ => vC_readCells_32 s3 s2 ⟨fun p => absurd rfl p, fun p => absurd rfl p, fun _ => h _ N q⟩, fun p => vC_readCells_32 s3 s2 ⟨fun _ => ?_, fun _ => sC_isCase (fun _ => vC_readCells_54 rfl (cx11 cN) ⟨fun p => absurd rfl p, fun _ => h _ N q⟩) (fun m hm em => vC_readCells_54 rfl (cx11 cN) ⟨fun _ => ?_, fun p => absurd p (by decide)⟩), fun p => absurd p (by decide)⟩⟩)⟩⟩)⟩
    · rw [eN] at p
      obtain ⟨j, hj, ej⟩ := rng (n := z) rfl (by omega) p.1 p.2
      rw [ej]; exact vin (by omega) (by decide)
    · rw [em]
      refine eWe_heldIn (wh_gr (cxw c _) qN.1) (cxL c) (cxR c) hm (fun O qO _ => vC_readCells_74 ?_)
      rw [nI_s]; exact ih _ _ (wq_tr qN qO)
  · obtain ⟨s1, s2, s3, s4⟩ := sag c he
    exact vC_readCells_10 s3 ⟨fun _ => h _ N (cqb qN), fun p => absurd (Int32.le_refl _) p⟩
theorem lC_read {k l f n w : Int32} {K : Int32 → Mm → Prop} (c : CX M L P R S U) (hs : ∀ e, e < 4 → ∃ n, n ≤ 40 ∧ gi M (sa e) 2 = nI n) (h : ∀ r N, CQ M N → K r N) : CI mC_read [.ref 10, .int k, .int l, .int f, .int n, .int w] M K := by
  have n' := fun r => h r M (cq_rf M)
  have g13 := cxg c (10, 13, 5459) (by decide)
  refine call_of rfl (Nat.le_of_ble_eq_true rfl) rfl (vC_read_0 (sC_isSheet (fun _ => vC_read_4 ⟨fun _ => n' _, fun q => absurd rfl q⟩) (fun e he ek => vC_read_4 ⟨fun q => absurd q (by decide), fun _ => sC_isLane (fun _ => vC_read_11 rfl g13 ⟨fun _ => n' _, fun q => absurd rfl q.1⟩) (fun _ _ => vC_read_11 rfl g13 ⟨fun _ => n' _, fun q => ?_⟩)⟩)))
  obtain ⟨s1, s2, s3, s4⟩ := sag c he
  obtain ⟨m, hm, em⟩ := rngL (c := 40) (n := 40) rfl (by decide) q.2.1 q.2.2.1
  have b97 : ∀ x, X mC_read 97 [] [.int x, .int n, .int f, .ref (sa e), .ref 10] M (mC mC_read, mS mC_read) (QI K) := by
    intro x
    rw [em]
    exact vC_read_97 rfl (lC_readCells c he (by omega) (hs e he) (fun r N qN => vC_read_100 (h r N qN)))
  exact ⟨by rw [ek]; exact vin he (by decide), sa e, by rw [ek]; exact s1, call_of rfl (Nat.le_of_ble_eq_true rfl) rfl (vSh_isNothing_0 s3 (vC_read_52 s3 ⟨fun _ => b97 _, fun _ => b97 _, fun _ => b97 _, fun _ => n' _, fun _ => n' _⟩))⟩
theorem lC_count {w : Int32} {K : Int32 → Mm → Prop} (c : CX M L P R S U) (h : ∀ r, K r M) : CI mC_count [.ref 10, .int w] M K := by
  have g13 := cxg c (10, 13, 5459) (by decide)
  obtain ⟨s1, s2, s3, s4⟩ := sag c (show 0 < 4 by decide)
  refine call_of rfl (Nat.le_of_ble_eq_true rfl) rfl (vC_count_0 rfl (cx4 c) (cxg c (10, 0, 70) (by decide)) g13 (lr2 (cxlr c)) ⟨fun _ => h _, fun _ => sJi_bitCount (fun _ _ => vC_count_54 (h _)), fun _ => sJi_bitCount (fun _ _ => vC_count_62 (h _)), fun _ => h _, fun _ => ⟨sa 0, s1, call_of rfl (Nat.le_of_ble_eq_true rfl) rfl (vSh_isNothing_0 s3 (vC_count_80 rfl g13 ⟨fun _ => ⟨sa 0, s1, h _⟩, fun _ => h _⟩))⟩, fun _ => ⟨fun q => ?_, fun _ => h _, fun _ => h _⟩⟩)
  obtain ⟨i, hi, e⟩ := rng (c := 18) (n := 18) rfl (by decide) (fun z => q.1 (Int32.lt_trans z (by decide))) q.2
  have q1 := q.1
  rw [e] at q1 ⊢
  rw [show (10 : Int32) = nI 10 from rfl, nlt (by decide) (by omega)] at q1
  rw [show (10 : Int32) = nI 10 from rfl, nsub (by omega)]
  exact vin (by omega) (by decide)
end CX2
end MG45
section MG46
/-! ===== the class: feed, end, library, rule ===== -/
/-- the byte i of v, as a number -/
def bv (v : Int64) (i : Nat) : Nat := (v.toBitVec.toNat >>> (56 - 8 * i)) % 256
theorem i8_of (n : Nat) (hn : n < 256) : (nI n).toInt8.toBitVec = BitVec.ofNat 8 n := by
  have : ∀ n, n < 256 → (nI n).toInt8.toBitVec = BitVec.ofNat 8 n := by decide +kernel
  exact this n hn
def cbt (v : Int64) (i : Nat) : Int32 := vp_nar .byte (((lushr v (56 - (8 * nI i))).toInt32).toInt8.toInt32)
theorem lsh_s : ∀ i, i < 8 → (((56 : Int32) - (8 * nI i)).toInt64.toUInt64 &&& Int64.toUInt64 63).toNat % 64 = 56 - 8 * i := by decide +kernel
theorem rsh_s : ∀ i, i < 8 → (((d8 i).toInt64 &&& 63).toBitVec.smod 64).toNat = 56 - 8 * i := by decide +kernel
theorem bv_b (v : Int64) {i j : Nat} (hi : i < 8) : (bv v i).testBit j = (decide (j < 8) && v.toBitVec.getLsbD (56 - 8 * i + j)) := by
  unfold bv
  rw [show (256 : Nat) = 2 ^ 8 from rfl, Nat.testBit_mod_two_pow, Nat.testBit_shiftRight]
  rfl
theorem cbt_e (v : Int64) {i : Nat} (hi : i < 8) : cbt v i = (nI (bv v i)).toInt8.toInt32 := by
  unfold cbt
  rw [vp_nar_byte, Int8.toInt8_toInt32]
  congr 1
  apply Int8.toBitVec_inj.1
  rw [i8_of (bv v i) (Nat.mod_lt _ (by decide)), Int32.toBitVec_toInt8, Int64.toBitVec_toInt32]
  apply BitVec.eq_of_getLsbD_eq
  intro j hj
  rw [BitVec.getLsbD_signExtend, BitVec.getLsbD_signExtend, BitVec.getLsbD_ofNat, bv_b v hi]
  have e : (lushr v (56 - (8 * nI i))).toBitVec.getLsbD j = v.toBitVec.getLsbD (56 - 8 * i + j) := by
    show ((v.toUInt64 >>> (((56 : Int32) - (8 * nI i)).toInt64.toUInt64 &&& Int64.toUInt64 63)).toBitVec).getLsbD j = _
    rw [UInt64.toBitVec_shiftRight]
    show (v.toBitVec >>> ((((56 : Int32) - (8 * nI i)).toInt64.toUInt64 &&& Int64.toUInt64 63).toBitVec % 64).toNat).getLsbD j = _
    have h : ((((56 : Int32) - (8 * nI i)).toInt64.toUInt64 &&& Int64.toUInt64 63).toBitVec % 64).toNat = 56 - 8 * i := lsh_s i hi
    rw [h, BitVec.getLsbD_ushiftRight]
  simp only [hj, show j < 32 by omega, show j < 64 by omega, e, decide_true, Bool.true_and, if_true]
theorem byt_e (v : Int64) {i : Nat} (hi : i < 8) : byt v i = nI (bv v i) := by
  unfold byt
  apply Int32.toBitVec_inj.1
  show _ = BitVec.ofNat 32 (bv v i)
  rw [Int64.toBitVec_toInt32, Int64.toBitVec_and, Int64.toBitVec_shiftRight]
  apply BitVec.eq_of_getLsbD_eq
  intro j hj
  rw [BitVec.getLsbD_signExtend, BitVec.getLsbD_and, BitVec.getLsbD_ofNat, bv_b v hi]
  have h : (((d8 i).toInt64 &&& 63).toBitVec.smod 64).toNat = 56 - 8 * i := rsh_s i hi
  have e : (v.toBitVec.sshiftRight' (((d8 i).toInt64 &&& 63).toBitVec.smod 64)).getLsbD j = if 56 - 8 * i + j < 64 then v.toBitVec.getLsbD (56 - 8 * i + j) else v.toBitVec.msb := by
    show (v.toBitVec.sshiftRight (((d8 i).toInt64 &&& 63).toBitVec.smod 64).toNat).getLsbD j = _
    rw [h, BitVec.getLsbD_sshiftRight]
    simp [show j < 64 by omega]
  have m : (255 : Int64).toBitVec.getLsbD j = decide (j < 8) := by
    have : ∀ j, j < 32 → (255 : Int64).toBitVec.getLsbD j = decide (j < 8) := by decide +kernel
    exact this j hj
  rw [e, m]
  by_cases l : j < 8
  · simp [l, hj, show j < 64 by omega, show 56 - 8 * i + j < 64 by omega]
  · simp [l, hj, show j < 64 by omega]
theorem by_feed (v : Int64) {i : Nat} (hi : i < 8) : BY (cbt v i) (byt v i) := ⟨bv v i, Nat.mod_lt _ (by decide), cbt_e v hi, byt_e v hi⟩
section CX3
variable {M N : Mm} {L P R S U : Nat}
/-- the tape of the class, with i bytes of v behind its t -/
def FC (t : Nat) (v : Int64) (i : Nat) (M N : Mm) : Prop := gr N = gr M ∧ gl N = gl M ∧ (∀ a, a ≠ 145 → gi N a = gi M a) ∧ ∀ k, gi N 145 k = if t ≤ k ∧ k < t + i then cbt v (k - t) else gi M 145 k
theorem sC_feed {v : Int64} {t : Nat} {K : Int32 → Mm → Prop} (c : CX M L P R S U) (ht : gi M 70 1 = nI t) (ht2 : t ≤ 400) (h0 : 392 < t → K (-3) M) (h1 : t ≤ 392 → ∀ N, FC t v 8 M N → K (nI (t + 8)) (si N 70 1 (nI (t + 8)))) : CI mC_feed [.ref 10, .long v] M K := by
  have g0 := cxg c (10, 0, 70) (by decide)
  have gb := cxg c (70, 0, 145) (by decide)
  refine call_of rfl (Nat.le_of_ble_eq_true rfl) rfl (vC_feed_0 rfl g0 (call_of rfl (Nat.le_of_ble_eq_true rfl) rfl (vTa_append_0 rfl ⟨fun q => ?_, fun q => ?_⟩)))
  · rw [ht, show (392 : Int32) = nI 392 from rfl, nle (by decide) (by omega)] at q
    have key := lp 8 (P := fun i => ∀ N, FC t v i M N → X mTa_append 14 [(0, .ref 70), (1, .long v), (3, .int (nI i))] [] N (mC mTa_append, mS mTa_append) (QI (fun rv N => X mC_feed 8 [(0, .ref 10)] [.int rv] N (mC mC_feed, mS mC_feed) (QI K)))) (fun i hi ih N fN => ?_) (fun N fN => ?_)
    · exact key M ⟨rfl, rfl, fun _ _ => rfl, fun k => by rw [if_neg (by omega)]⟩
    · have nt : gi N 70 1 = nI t := by rw [fN.2.2.1 70 (by decide)]; exact ht
      have gN : gr N 70 0 = some 145 := by rw [fN.1]; exact gb
      refine vTa_append_14 rfl gN ⟨fun q => absurd q (nge rfl (by decide) hi), fun _ => ?_⟩
      rw [nt, nadd]
      refine ⟨vin (by omega) (by decide), ?_⟩
      rw [ncl (by omega), nI_s]
      refine ih _ ⟨fN.1, fN.2.1, fun a n => by rw [gi_ne n]; exact fN.2.2.1 a n, fun k => ?_⟩
      rw [gi_si, fN.2.2.2 k]
      by_cases e : k = t + i
      · rw [if_pos ⟨rfl, e⟩, if_pos (by omega), show k - t = i by omega]; rfl
      · rw [if_neg (fun z => e z.2)]
        by_cases l : t ≤ k ∧ k < t + i
        · rw [if_pos l, if_pos (by omega)]
        · rw [if_neg l, if_neg (by omega)]
    · have nt : gi N 70 1 = nI t := by rw [fN.2.2.1 70 (by decide)]; exact ht
      have gN : gr N 70 0 = some 145 := by rw [fN.1]; exact gb
      refine vTa_append_14 rfl gN ⟨fun _ => vC_feed_8 rfl (by show gr N 10 0 = some 70; rw [fN.1]; exact g0) ?_, fun q => absurd (nself rfl) q⟩
      rw [if_neg (by decide), gi_si, if_pos ⟨rfl, rfl⟩, nt, show (8 : Int32) = nI 8 from rfl, nadd]
      exact h1 q N fN
  · rw [ht, show (392 : Int32) = nI 392 from rfl, nle (by decide) (by omega)] at q
    refine vC_feed_8 rfl g0 ?_
    rw [if_pos rfl]
    exact h0 (by omega)
theorem sC_end {n : Int32} {K : Int32 → Mm → Prop} (c : CX M L P R S U) (h0 : (n < 0 ∨ ¬ n ≤ gi M 70 1) → K (-1) M) (h1 : ¬ n < 0 → n ≤ gi M 70 1 → K (gi M 70 1) (si M 70 1 n)) : CI mC_end [.ref 10, .int n] M K :=
  call_of rfl (Nat.le_of_ble_eq_true rfl) rfl (vC_end_0 rfl (cxg c (10, 0, 70) (by decide)) ⟨fun q => h0 (q.imp id (fun q => q.2)), fun q => h1 q.1 q.2⟩)
theorem lC_afterText {v : Int32} {K : Int32 → Mm → Prop} (g0 : gr M 10 0 = some 70) (g1 : gr M 10 1 = some 199) (h : ∀ r, K r (si (si M 70 1 0) 10 10 (gi M 199 5))) : CI mC_afterText [.ref 10, .int v] M K := by
  refine call_of rfl (Nat.le_of_ble_eq_true rfl) rfl (vC_afterText_0 rfl g0 g1 ?_)
  have e : gi (si M 70 1 0) 199 5 = gi M 199 5 := giR _ _ _ _ _ _ (by decide)
  rw [e]; exact h _
/-- what library may change, of the class -/
def LCF (P : Nat) (M N : Mm) : Prop := gl N = gl M ∧ (∀ a, a ≠ 10 → gr N a = gr M a) ∧ (∀ a, a ≠ 199 → a ≠ 258 → a ≠ 70 → a ≠ 10 → ¬ (P ≤ a ∧ a < P + 2304) → gi N a = gi M a) ∧ gi N 70 1 = 0
theorem sC_library {T : Nat → Int32} {t : Nat} {K : Int32 → Mm → Prop} (c : CX M L P R S U) (tc : TC M T t)
    (h0 : ∀ r N, LCF P M N → gr N = gr M → K r N)
    (h1 : ∀ r N D, LCF P M N → (∀ j, gr N 10 j = if j = 5 then some L else if j = 4 then some P else gr M 10 j) → gi N P 1 = nI D → D ≤ 24 → K r N) : CI mC_library [.ref 10] M K := by
  have hP : LA P := c.2.2.1.2.1
  have lP : LR M P := c.2.2.2.1.2
  have pr : 258 < P := by unfold LA at hP; omega
  have p10 : P ≠ 10 ∧ P ≠ 70 := by unfold LA at hP; omega
  refine call_of rfl (Nat.le_of_ble_eq_true rfl) rfl (vC_library_0 rfl (cxg c (10, 2, 258) (by decide)) c.2.1.2.1 (nLr_readInto lP pr (cxg c (258, 0, 199) (by decide)) tc (fun N pN nf => ?_) (fun N l D pN hl f0 ld => ?_)))
  · have g5 : gr N 10 5 = some P := by rw [pN.1]; exact c.2.1.2.1
    refine vC_library_11 rfl g5 ⟨fun _ => vC_library_48 rfl (lC_afterText (by rw [pN.1]; exact cxg c (10, 0, 70) (by decide)) (by rw [pN.1]; exact cxg c (10, 1, 199) (by decide)) (fun r => vC_library_53 (h0 r _ ⟨pN.2.1, fun a _ => by show gr N a = _; rw [pN.1], fun a a1 a2 a3 a4 a5 => ?_, ?_⟩ pN.1))), fun q => absurd (by decide) q⟩
    · rw [gi_ne a4, gi_ne a3]; exact pN.2.2 a a1 a2 a5
    · rw [giR _ _ _ _ _ _ (by decide), gi_si, if_pos ⟨rfl, rfl⟩]
  · have g5 : gr N 10 5 = some P := by rw [pN.1]; exact c.2.1.2.1
    have nl : ¬ nI l < 0 := n0 l (by omega)
    refine vC_library_11 rfl g5 ⟨fun q => absurd q nl, fun _ => lS_settle ld (fun O sO => ?_)⟩
    have gO : gr O = gr M := sO.1.trans pN.1
    refine vC_library_23 rfl (r1 := L) (r2 := P) (by rw [gO]; exact cx4 c) (by rw [gO]; exact c.2.1.2.1) (vC_library_48 rfl ?_)
    have gr' : ∀ a j, gr (si (sr (sr O 10 4 (some P)) 10 5 (some L)) 10 9 255) a j = if a = 10 ∧ j = 5 then some L else if a = 10 ∧ j = 4 then some P else gr M a j := by
      intro a j
      show gr (sr (sr O 10 4 (some P)) 10 5 (some L)) a j = _
      rw [gr_sr, gr_sr, gO]
    refine lC_afterText (by rw [gr', if_neg (by decide), if_neg (by decide)]; exact cxg c (10, 0, 70) (by decide)) (by rw [gr', if_neg (by decide), if_neg (by decide)]; exact cxg c (10, 1, 199) (by decide)) (fun r => vC_library_53 (h1 r _ D ⟨?_, fun a n => ?_, fun a a1 a2 a3 a4 a5 => ?_, ?_⟩ (fun j => ?_) ?_ ld.2.2.1))
    · show gl O = _
      rw [sO.2.1, pN.2.1]
    · funext j
      show gr (si (sr (sr O 10 4 (some P)) 10 5 (some L)) 10 9 255) a j = _
      rw [gr', if_neg (fun e => n e.1), if_neg (fun e => n e.1)]
    · rw [gi_ne a4, gi_ne a3, gi_ne a4]
      show gi O a = _
      rw [sO.2.2.2.2.1 a a5, pN.2.2 a a1 a2 a5]
    · rw [giR _ _ _ _ _ _ (by decide), gi_si, if_pos ⟨rfl, rfl⟩]
    · show gr (si (sr (sr O 10 4 (some P)) 10 5 (some L)) 10 9 255) 10 j = _
      rw [gr']
      simp only [true_and]
    · rw [giR _ _ _ _ _ _ p10.1, giR _ _ _ _ _ _ p10.2, giR _ _ _ _ _ _ p10.1]
      show gi O P 1 = _
      rw [sO.2.2.1]; exact ld.2.1
/-- what rule may change, of the class -/
def RCF (U : Nat) (M N : Mm) : Prop := gl N = gl M ∧ (∀ a, a ≠ 10 → gr N a = gr M a) ∧ (∀ a, a ≠ 199 → a ≠ 70 → a ≠ 10 → a ≠ U → gi N a = gi M a) ∧ gi N 70 1 = 0 ∧ RN N U
theorem sC_rule {T : Nat → Int32} {t : Nat} {K : Int32 → Mm → Prop} (c : CX M L P R S U) (tc : TC M T t)
    (h0 : ∀ r N, RCF U M N → gr N = gr M → K r N)
    (h1 : ∀ r N, RCF U M N → (∀ j, gr N 10 j = if j = 8 then some R else if j = 6 then some U else gr M 10 j) → K r N) : CI mC_rule [.ref 10] M K := by
  have hU : RA U := c.2.2.1.2.2.2.2
  have u10 : U ≠ 10 ∧ U ≠ 70 := by unfold RA at hU; omega
  refine call_of rfl (Nat.le_of_ble_eq_true rfl) rfl (vC_rule_0 rfl (cxg c (10, 3, 324) (by decide)) c.2.1.2.2.2.2 (nRr_readInto (raM3 hU) (cxg c (324, 0, 199) (by decide)) tc (fun v N pN rn => ?_)))
  have g6 : gr N 10 6 = some R := by rw [pN.1]; exact cx6 c
  have g8 : gr N 10 8 = some U := by rw [pN.1]; exact c.2.1.2.2.2.2
  have rnx : ∀ A : Mm, gi A = gi N → RN (si (si A 70 1 0) 10 10 (gi A 199 5)) U := by
    intro A e
    unfold RN
    rw [giR _ _ _ _ _ _ u10.1, giR _ _ _ _ _ _ u10.2, e]; exact rn
  refine vC_rule_11 rfl g6 g8 ⟨fun _ => vC_rule_34 rfl (lC_afterText (by rw [pN.1]; exact cxg c (10, 0, 70) (by decide)) (by rw [pN.1]; exact cxg c (10, 1, 199) (by decide)) (fun r => vC_rule_39 (h0 r _ ⟨pN.2.1, fun a _ => by show gr N a = _; rw [pN.1], fun a a1 a3 a4 a5 => ?_, ?_, rnx N rfl⟩ pN.1))), fun _ => vC_rule_34 rfl ?_⟩
  · rw [gi_ne a4, gi_ne a3]; exact pN.2.2 a a1 a5
  · rw [giR _ _ _ _ _ _ (by decide), gi_si, if_pos ⟨rfl, rfl⟩]
  · have gr' : ∀ a j, gr (sr (sr N 10 6 (some U)) 10 8 (some R)) a j = if a = 10 ∧ j = 8 then some R else if a = 10 ∧ j = 6 then some U else gr M a j := by
      intro a j
      rw [gr_sr, gr_sr, pN.1]
    refine lC_afterText (by rw [gr', if_neg (by decide), if_neg (by decide)]; exact cxg c (10, 0, 70) (by decide)) (by rw [gr', if_neg (by decide), if_neg (by decide)]; exact cxg c (10, 1, 199) (by decide)) (fun r => vC_rule_39 (h1 r _ ⟨pN.2.1, fun a n => ?_, fun a a1 a3 a4 a5 => ?_, ?_, rnx _ rfl⟩ (fun j => ?_)))
    · funext j
      show gr (sr (sr N 10 6 (some U)) 10 8 (some R)) a j = _
      rw [gr', if_neg (fun e => n e.1), if_neg (fun e => n e.1)]
    · rw [gi_ne a4, gi_ne a3]; exact pN.2.2 a a1 a5
    · rw [giR _ _ _ _ _ _ (by decide), gi_si, if_pos ⟨rfl, rfl⟩]
    · show gr (sr (sr N 10 6 (some U)) 10 8 (some R)) 10 j = _
      rw [gr']
      simp only [true_and]
end CX3
end MG46
section MG47
/-! ===== what holds of both between calls ===== -/
def CP (M : Mm) (L P R S U D : Nat) : Prop := CX M L P R S U ∧ gi M L 1 = nI D ∧ D ≤ 24 ∧ RN M 4995 ∧ RN M 5059 ∧ RN M 5123
def MP (M : Mm) (W : Nat) : Prop := JW M W ∧ W ≤ 24 ∧ HD M ∧ HO M ∧ UM M W
def JA (M : Mm) (t : Nat) : Prop := gi M 70 1 = nI t ∧ t ≤ 400 ∧ gi M 6027 11 = nI t ∧ ∀ k, k < 400 → BY (gi M 145 k) (gi M 6486 k)
def JS (M : Mm) : Prop := ∀ e, e < 4 → (∃ n, n ≤ 40 ∧ gi M (sa e) 2 = nI n ∧ gi M 7708 e = nI n) ∧ gi M (sa e) 1 = gi M 7644 e ∧ ∀ i, i < 40 → gi M (5588 + 128 * e) i = gi M 7773 (40 * e + i)
def IV (M : Mm) (L P R S U D W t : Nat) : Prop := CP M L P R S U D ∧ MP M W ∧ JA M t ∧ JS M
def INV (M : Mm) : Prop := ∃ L P R S U D W t, IV M L P R S U D W t
section IV1
variable {M N : Mm} {L P R S U D W t : Nat}
/-- the class's part stays when its rows do -/
theorem cp_eq (c : CP M L P R S U D) (h1 : ∀ a j, ¬ (a = 5192 ∧ j < 2) → a ≠ 6027 → gr N a j = gr M a j) (h2 : ∀ a, a = 385 ∨ a = 2689 ∨ a = 4995 ∨ a = 5059 ∨ a = 5123 → gi N a = gi M a) : CP N L P R S U D := by
  obtain ⟨c1, c2, c3, c4, c5, c6⟩ := c
  obtain ⟨x1, ⟨x2, x3, x4, x5, x6⟩, x7, ⟨x8, x9⟩, x10⟩ := c1
  have n5 : ∀ q ∈ cgt, ¬ (q.1 = 5192 ∧ q.2.1 < 2) ∧ q.1 ≠ 6027 := by decide
  have lr : ∀ {L}, LA L → LR M L → LR N L := fun {L} hL h => by
    refine ⟨h.1, fun q hq => ?_, fun w hw => ?_⟩
    · rw [h1 L q.1 (fun e => by unfold LA at hL; omega) (by unfold LA at hL; omega)]; exact h.2.1 q hq
    · rw [h1 (L + 81) w (fun e => by unfold LA at hL; omega) (by unfold LA at hL; omega)]; exact h.2.2 w hw
  refine ⟨⟨fun q hq => (h1 _ _ (n5 q hq).1 (n5 q hq).2).trans (x1 q hq), ⟨?_, ?_, ?_, ?_, ?_⟩, x7, ⟨lr x7.1 x8, lr x7.2.1 x9⟩, x10⟩, ?_, c3, ?_, ?_, ?_⟩
  · rw [h1 _ _ (by decide) (by decide)]; exact x2
  · rw [h1 _ _ (by decide) (by decide)]; exact x3
  · rw [h1 _ _ (by decide) (by decide)]; exact x4
  · rw [h1 _ _ (by decide) (by decide)]; exact x5
  · rw [h1 _ _ (by decide) (by decide)]; exact x6
  · rw [h2 L (by have := x7.1; unfold LA at this; omega)]; exact c2
  · unfold RN; rw [h2 _ (by decide)]; exact c4
  · unfold RN; rw [h2 _ (by decide)]; exact c5
  · unfold RN; rw [h2 _ (by decide)]; exact c6
theorem chn_eq (h : gi N 6101 = gi M 6101) (B : Nat) : ∀ n v, chn M B n v → chn N B n v
  | 0, v, q => by
    have e : wd N v 6 = wd M v 6 := by unfold wd; rw [h]
    show wd N v 6 = -4
    rw [e]; exact q
  | n + 1, v, q => by
    have e : wd N v 6 = wd M v 6 := by unfold wd; rw [h]
    show wd N v 6 = -4 ∨ _
    rw [e]
    exact q.imp id (fun ⟨f, a, b, c⟩ => ⟨f, a, b, chn_eq h B n f c⟩)
theorem jw_eq (j : JW M W) (h0 : ∀ k, gr N 6027 k = gr M 6027 k) (h1 : gi N 6101 = gi M 6101) (h2 : gi N 6027 0 = gi M 6027 0) (h3 : gi N 6027 24 = gi M 6027 24) : JW N W := by
  obtain ⟨j1, j2, j3, j4⟩ := j
  refine ⟨fun q hq => (h0 _).trans (j1 q hq), h2.trans j2, j3, fun w hw => ?_⟩
  obtain ⟨⟨b, hb, eb⟩, c⟩ := j4 w hw
  refine ⟨⟨b, hb, ?_⟩, fun u => chn_eq h1 W 25 w (c (fun z => u ?_))⟩
  · unfold wd; rw [h1]; exact eb
  · unfold uns; rw [h3]; exact z
theorem mp_eq (m : MP M W) (h0 : ∀ k, gr N 6027 k = gr M 6027 k) (h1 : gi N 6101 = gi M 6101) (h2 : gi N 6027 0 = gi M 6027 0) (h3 : gi N 6027 24 = gi M 6027 24) (h4 : gi N 6543 4 = gi M 6543 4) (h5 : gi N 6607 4 = gi M 6607 4) : MP N W := by
  obtain ⟨m1, m2, m3, m4, m5⟩ := m
  refine ⟨jw_eq m1 h0 h1 h2 h3, m2, ?_, ?_, ?_⟩
  · unfold HD; rw [h4]; exact m3
  · unfold HO; rw [h5]; exact m4
  · unfold UM; rw [h3]; exact m5
theorem ja_eq (j : JA M t) (h1 : gi N 70 = gi M 70) (h2 : gi N 145 = gi M 145) (h3 : gi N 6027 11 = gi M 6027 11) (h4 : gi N 6486 = gi M 6486) : JA N t := by
  unfold JA; rw [h1, h2, h3, h4]; exact j
theorem js_eq (j : JS M) (h1 : ∀ e, e < 4 → gi N (sa e) = gi M (sa e)) (h2 : ∀ e, e < 4 → gi N (5588 + 128 * e) = gi M (5588 + 128 * e)) (h3 : gi N 7708 = gi M 7708) (h4 : gi N 7644 = gi M 7644) (h5 : gi N 7773 = gi M 7773) : JS N := by
  intro e he
  rw [h1 e he, h2 e he, h3, h4, h5]; exact j e he
/-- a query of the class -/
theorem iv_cq (f : CQ M N) (i : IV M L P R S U D W t) : IV N L P R S U D W t := by
  obtain ⟨i1, i2, i3, i4⟩ := i
  have g : ∀ a, ¬ (a = 5192 ∨ a = 5261 ∨ a = 5392) → gi N a = gi M a := f.2.2
  refine ⟨cp_eq i1 (fun a j n _ => f.2.1 a j n) (fun a ha => g a (by omega)), mp_eq i2 (fun k => f.2.1 _ _ (by omega)) (g _ (by decide)) (by rw [g _ (by decide)]) (by rw [g _ (by decide)]) (by rw [g _ (by decide)]) (by rw [g _ (by decide)]), ja_eq i3 (g _ (by decide)) (g _ (by decide)) (by rw [g _ (by decide)]) (g _ (by decide)), js_eq i4 (fun e he => g _ (by unfold sa; omega)) (fun e he => g _ (by omega)) (g _ (by decide)) (g _ (by decide)) (g _ (by decide))⟩
/-- a query of the reference -/
theorem iv_qf (f : QF W M N) (i : IV M L P R S U D W t) : IV N L P R S U D W t := by
  obtain ⟨i1, i2, i3, i4⟩ := i
  have g : ∀ a, ¬ (a = 7310 ∨ a = 7374 ∨ a = 7246 ∨ a = 7182 ∨ a = 7438 ∨ a = 7502 ∨ a = 7582 ∨ a = 6101 ∨ a = 6027) → gi N a = gi M a := f.2.1
  refine ⟨cp_eq i1 (fun a j _ _ => by rw [f.1]) (fun a ha => g a (by omega)), ⟨jw_sm (qf_sm f) i2.1, i2.2.1, ?_, ?_, um_qf f i2.2.2.2.2⟩, ja_eq i3 (g _ (by decide)) (g _ (by decide)) (f.2.2.2.1 11 (by decide)) (g _ (by decide)), js_eq i4 (fun e he => g _ (by unfold sa; omega)) (fun e he => g _ (by omega)) (g _ (by decide)) (g _ (by decide)) (g _ (by decide))⟩
  · unfold HD; rw [g _ (by decide)]; exact i2.2.2.1
  · unfold HO; rw [g _ (by decide)]; exact i2.2.2.2.1
theorem iv_af (f : AF M N) (i : IV M L P R S U D W t) : IV N L P R S U D W t := iv_qf (qf_af f) i
theorem tc_of (c : CX M L P R S U) (j : JA M t) : TC M (gi M 6486) t := ⟨cxg c (199, 0, 70) (by decide), cxg c (70, 0, 145) (by decide), j.1, j.2.1, j.2.2.2⟩
theorem js_n (j : JS M) : ∀ e, e < 4 → ∃ n, n ≤ 40 ∧ gi M (sa e) 2 = nI n := fun e he => by
  obtain ⟨⟨n, a, b, -⟩, -⟩ := j e he
  exact ⟨n, a, b⟩
theorem js_m (j : JS M) : ∀ e, e < 4 → ∃ n, n ≤ 40 ∧ gi M 7708 e = nI n := fun e he => by
  obtain ⟨⟨n, a, -, b⟩, -⟩ := j e he
  exact ⟨n, a, b⟩
end IV1
end MG47
section MG48
/-! ===== pairs of calls: queries ===== -/
section PR1
variable {M : Mm}
theorem pr_word {v w : Int32} {Z : Int32 → Int32 → Mm → Prop} (i0 : INV M) (h : ∀ r s N, INV N → Z r s N) : CI mC_word [.ref 10, .int v, .int w] M (fun r N => CI mM_word [.ref 6027, .int v, .int w] N (fun s O => Z r s O)) := by
  obtain ⟨L, P, R, S, U, D, W, t, i⟩ := i0
  have c := i.1.1
  have i0 : INV M := ⟨L, P, R, S, U, D, W, t, i⟩
  refine lC_word c i.1.2.1 i.1.2.2.1 (fun r => ?_)
  exact tM_word i.2.1.1 (fun s => h r s M i0)
theorem pr_says {v w : Int32} {Z : Int32 → Int32 → Mm → Prop} (i0 : INV M) (h : ∀ r s N, INV N → Z r s N) : CI mC_says [.ref 10, .int v, .int w] M (fun r N => CI mM_says [.ref 6027, .int v, .int w] N (fun s O => Z r s O)) := by
  obtain ⟨L, P, R, S, U, D, W, t, i⟩ := i0
  have c := i.1.1
  have i0 : INV M := ⟨L, P, R, S, U, D, W, t, i⟩
  refine lC_says c i.1.2.1 i.1.2.2.1 (fun r => ?_)
  exact tM_says i.2.1.1 (h r _ M i0)
theorem pr_words {v : Int32} {Z : Int32 → Int32 → Mm → Prop} (i0 : INV M) (h : ∀ r s N, INV N → Z r s N) : CI mC_words [.ref 10, .int v] M (fun r N => CI mM_words [.ref 6027, .int v] N (fun s O => Z r s O)) := by
  obtain ⟨L, P, R, S, U, D, W, t, i⟩ := i0
  have c := i.1.1
  have i0 : INV M := ⟨L, P, R, S, U, D, W, t, i⟩
  refine lC_words c (fun r => ?_)
  exact tM_words i.2.1.1 (h r _ M i0)
theorem pr_meets {v w : Int32} {Z : Int32 → Int32 → Mm → Prop} (i0 : INV M) (h : ∀ r s N, INV N → Z r s N) : CI mC_meets [.ref 10, .int v, .int w] M (fun r N => CI mM_meets [.ref 6027, .int v, .int w] N (fun s O => Z r s O)) := by
  obtain ⟨L, P, R, S, U, D, W, t, i⟩ := i0
  have c := i.1.1
  have i0 : INV M := ⟨L, P, R, S, U, D, W, t, i⟩
  refine lC_meets c (fun r => ?_)
  exact tM_meets i.2.1.1 (fun s => h r s M i0)
theorem pr_steps {v : Int32} {Z : Int32 → Int32 → Mm → Prop} (i0 : INV M) (h : ∀ r s N, INV N → Z r s N) : CI mC_steps [.ref 10, .int v] M (fun r N => CI mM_steps [.ref 6027, .int v] N (fun s O => Z r s O)) := by
  obtain ⟨L, P, R, S, U, D, W, t, i⟩ := i0
  have c := i.1.1
  have i0 : INV M := ⟨L, P, R, S, U, D, W, t, i⟩
  refine lC_steps c i.1.2.1 i.1.2.2.1 (fun r => ?_)
  exact tM_steps i.2.1.1 (fun s => h r s M i0)
theorem pr_weighs {v : Int32} {Z : Int32 → Int32 → Mm → Prop} (i0 : INV M) (h : ∀ r s N, INV N → Z r s N) : CI mC_weighs [.ref 10, .int v] M (fun r N => CI mM_weighs [.ref 6027, .int v] N (fun s O => Z r s O)) := by
  obtain ⟨L, P, R, S, U, D, W, t, i⟩ := i0
  have c := i.1.1
  have i0 : INV M := ⟨L, P, R, S, U, D, W, t, i⟩
  refine lC_weighs c (fun r => ?_)
  exact tM_weighs i.2.1.1.1 (fun s => h r s M i0)
theorem pr_count {v : Int32} {Z : Int32 → Int32 → Mm → Prop} (i0 : INV M) (h : ∀ r s N, INV N → Z r s N) : CI mC_count [.ref 10, .int v] M (fun r N => CI mM_count [.ref 6027, .int v] N (fun s O => Z r s O)) := by
  obtain ⟨L, P, R, S, U, D, W, t, i⟩ := i0
  have c := i.1.1
  have i0 : INV M := ⟨L, P, R, S, U, D, W, t, i⟩
  refine lC_count c (fun r => ?_)
  exact tM_count i.2.1.1 (fun s => h r s M i0)
theorem pr_each {v w : Int32} {Z : Int32 → Int32 → Mm → Prop} (i0 : INV M) (h : ∀ r s N, INV N → Z r s N) : CI mC_each [.ref 10, .int v, .int w] M (fun r N => CI mM_each [.ref 6027, .int v, .int w] N (fun s O => Z r s O)) := by
  obtain ⟨L, P, R, S, U, D, W, t, i⟩ := i0
  have c := i.1.1
  refine lC_each c (fun r N f => ?_)
  have iN := iv_cq f i
  have jN := iN.2.1
  exact tM_each jN.1 (fun O g => h r _ O ⟨L, P, R, S, U, D, W, t, iv_af g iN⟩)
theorem pr_clash {v w : Int32} {Z : Int32 → Int32 → Mm → Prop} (i0 : INV M) (h : ∀ r s N, INV N → Z r s N) : CI mC_clash [.ref 10, .int v, .int w] M (fun r N => CI mM_clash [.ref 6027, .int v, .int w] N (fun s O => Z r s O)) := by
  obtain ⟨L, P, R, S, U, D, W, t, i⟩ := i0
  have c := i.1.1
  refine lC_clash c (fun r N f => ?_)
  have iN := iv_cq f i
  have jN := iN.2.1
  exact tM_clash jN.1 (fun O g => h r _ O ⟨L, P, R, S, U, D, W, t, iv_af g iN⟩)
theorem pr_sides {v w x : Int32} {Z : Int32 → Int32 → Mm → Prop} (i0 : INV M) (h : ∀ r s N, INV N → Z r s N) : CI mC_sides [.ref 10, .int v, .int w, .int x] M (fun r N => CI mM_sides [.ref 6027, .int v, .int w, .int x] N (fun s O => Z r s O)) := by
  obtain ⟨L, P, R, S, U, D, W, t, i⟩ := i0
  have c := i.1.1
  refine lC_sides c (fun r N f => ?_)
  have iN := iv_cq f i
  have jN := iN.2.1
  exact tM_sides jN.1 (fun O g => h r _ O ⟨L, P, R, S, U, D, W, t, iv_af g iN⟩)
theorem pr_hangs {v w : Int32} {Z : Int32 → Int32 → Mm → Prop} (i0 : INV M) (h : ∀ r s N, INV N → Z r s N) : CI mC_hangs [.ref 10, .int v, .int w] M (fun r N => CI mM_hangs [.ref 6027, .int v, .int w] N (fun s O => Z r s O)) := by
  obtain ⟨L, P, R, S, U, D, W, t, i⟩ := i0
  have c := i.1.1
  refine lC_hangs c (fun r N f => ?_)
  have iN := iv_cq f i
  have jN := iN.2.1
  exact tM_hangs jN.1 jN.2.2.1 (fun s O g => h r s O ⟨L, P, R, S, U, D, W, t, iv_qf g iN⟩)
theorem pr_held {v w : Int32} {Z : Int32 → Int32 → Mm → Prop} (i0 : INV M) (h : ∀ r s N, INV N → Z r s N) : CI mC_held [.ref 10, .int v, .int w] M (fun r N => CI mM_held [.ref 6027, .int v, .int w] N (fun s O => Z r s O)) := by
  obtain ⟨L, P, R, S, U, D, W, t, i⟩ := i0
  have c := i.1.1
  refine lC_held c (fun r N f => ?_)
  have iN := iv_cq f i
  have jN := iN.2.1
  exact tM_held jN.1 jN.2.2.1 (fun O g => h r _ O ⟨L, P, R, S, U, D, W, t, iv_af g iN⟩)
theorem pr_cases {v : Int32} {Z : Int64 → Int64 → Mm → Prop} (i0 : INV M) (h : ∀ r s N, INV N → Z r s N) : CJ mC_cases [.ref 10, .int v] M (fun r N => CJ mM_cases [.ref 6027, .int v] N (fun s O => Z r s O)) := by
  obtain ⟨L, P, R, S, U, D, W, t, i⟩ := i0
  have c := i.1.1
  refine lC_cases c (fun r N f => ?_)
  have iN := iv_cq f i
  have jN := iN.2.1
  exact tM_cases jN.1 jN.2.2.1 (fun O g => h r _ O ⟨L, P, R, S, U, D, W, t, iv_af g iN⟩)
theorem pr_many {v : Int32} {Z : Int32 → Int32 → Mm → Prop} (i0 : INV M) (h : ∀ r s N, INV N → Z r s N) : CI mC_many [.ref 10, .int v] M (fun r N => CI mM_many [.ref 6027, .int v] N (fun s O => Z r s O)) := by
  obtain ⟨L, P, R, S, U, D, W, t, i⟩ := i0
  have c := i.1.1
  refine lC_many c (fun r N f => ?_)
  have iN := iv_cq f i
  have jN := iN.2.1
  exact tM_many jN.1 jN.2.2.1 (fun O g => h r _ O ⟨L, P, R, S, U, D, W, t, iv_af g iN⟩)
theorem pr_reckon {v w x y z : Int32} {Z : Int32 → Int32 → Mm → Prop} (i0 : INV M) (h : ∀ r s N, INV N → Z r s N) : CI mC_reckon [.ref 10, .int v, .int w, .int x, .int y, .int z] M (fun r N => CI mM_reckon [.ref 6027, .int v, .int w, .int x, .int y, .int z] N (fun s O => Z r s O)) := by
  obtain ⟨L, P, R, S, U, D, W, t, i⟩ := i0
  have c := i.1.1
  refine lC_reckon c (fun r N f => ?_)
  have iN := iv_cq f i
  have jN := iN.2.1
  exact tM_reckon jN.1 jN.2.2.1 (fun O g => h r _ O ⟨L, P, R, S, U, D, W, t, iv_af g iN⟩)
theorem pr_widest {v : Int32} {Z : Int32 → Int32 → Mm → Prop} (i0 : INV M) (h : ∀ r s N, INV N → Z r s N) : CI mC_widest [.ref 10, .int v] M (fun r N => CI mM_widest [.ref 6027, .int v] N (fun s O => Z r s O)) := by
  obtain ⟨L, P, R, S, U, D, W, t, i⟩ := i0
  have c := i.1.1
  refine lC_widest c (fun r N f => ?_)
  have iN := iv_cq f i
  have jN := iN.2.1
  exact tM_widest jN.1 jN.2.2.1 (fun O g => h r _ O ⟨L, P, R, S, U, D, W, t, iv_af g iN⟩)
theorem pr_near {v w x : Int32} {Z : Int32 → Int32 → Mm → Prop} (i0 : INV M) (h : ∀ r s N, INV N → Z r s N) : CI mC_near [.ref 10, .int v, .int w, .int x] M (fun r N => CI mM_near [.ref 6027, .int v, .int w, .int x] N (fun s O => Z r s O)) := by
  obtain ⟨L, P, R, S, U, D, W, t, i⟩ := i0
  have c := i.1.1
  refine lC_near c (fun r N f => ?_)
  have iN := iv_cq f i
  have jN := iN.2.1
  exact tM_near jN.1 jN.2.2.1 (fun O g => h r _ O ⟨L, P, R, S, U, D, W, t, iv_af g iN⟩)
theorem pr_argue {v w x : Int32} {Z : Int32 → Int32 → Mm → Prop} (i0 : INV M) (h : ∀ r s N, INV N → Z r s N) : CI mC_argue [.ref 10, .int v, .int w, .int x] M (fun r N => CI mM_argue [.ref 6027, .int v, .int w, .int x] N (fun s O => Z r s O)) := by
  obtain ⟨L, P, R, S, U, D, W, t, i⟩ := i0
  have c := i.1.1
  refine lC_argue c (fun r N f => ?_)
  have iN := iv_cq f i
  have jN := iN.2.1
  exact tM_argue jN.1 jN.2.2.1 (fun s O g => h r s O ⟨L, P, R, S, U, D, W, t, iv_qf g iN⟩)
theorem pr_game {v w x : Int32} {Z : Int32 → Int32 → Mm → Prop} (i0 : INV M) (h : ∀ r s N, INV N → Z r s N) : CI mC_game [.ref 10, .int v, .int w, .int x] M (fun r N => CI mM_game [.ref 6027, .int v, .int w, .int x] N (fun s O => Z r s O)) := by
  obtain ⟨L, P, R, S, U, D, W, t, i⟩ := i0
  have c := i.1.1
  refine lC_game c (fun r N f => ?_)
  have iN := iv_cq f i
  have jN := iN.2.1
  exact tM_game jN.1 jN.2.2.1 (fun s O g => h r s O ⟨L, P, R, S, U, D, W, t, iv_qf g iN⟩)
theorem pr_turn {v : Int32} {Z : Int32 → Int32 → Mm → Prop} (i0 : INV M) (h : ∀ r s N, INV N → Z r s N) : CI mC_turn [.ref 10, .int v] M (fun r N => CI mM_turn [.ref 6027, .int v] N (fun s O => Z r s O)) := by
  obtain ⟨L, P, R, S, U, D, W, t, i⟩ := i0
  have c := i.1.1
  refine lC_turn c (fun r N f => ?_)
  have iN := iv_cq f i
  have jN := iN.2.1
  exact tM_turn jN.1 jN.2.1 jN.2.2.1 jN.2.2.2.2 (fun s O g => h r s O ⟨L, P, R, S, U, D, W, t, iv_qf g iN⟩)
theorem pr_turns {v w x : Int32} {Z : Int32 → Int32 → Mm → Prop} (i0 : INV M) (h : ∀ r s N, INV N → Z r s N) : CI mC_turns [.ref 10, .int v, .int w, .int x] M (fun r N => CI mM_turns [.ref 6027, .int v, .int w, .int x] N (fun s O => Z r s O)) := by
  obtain ⟨L, P, R, S, U, D, W, t, i⟩ := i0
  have c := i.1.1
  refine lC_turns c (fun r N f => ?_)
  have iN := iv_cq f i
  have jN := iN.2.1
  exact tM_turns jN.1 jN.2.1 jN.2.2.1 jN.2.2.2.2 (fun s O g => h r s O ⟨L, P, R, S, U, D, W, t, iv_qf g iN⟩)
theorem pr_differ {v : Int32} {Z : Int32 → Int32 → Mm → Prop} (i0 : INV M) (h : ∀ r s N, INV N → Z r s N) : CI mC_differ [.ref 10, .int v] M (fun r N => CI mM_differ [.ref 6027, .int v] N (fun s O => Z r s O)) := by
  obtain ⟨L, P, R, S, U, D, W, t, i⟩ := i0
  have c := i.1.1
  refine lC_differ c (fun r N f => ?_)
  have iN := iv_cq f i
  have jN := iN.2.1
  exact tM_differ jN.1 jN.2.2.1 jN.2.2.2.1 (fun s O g => h r s O ⟨L, P, R, S, U, D, W, t, iv_qf g iN⟩)
theorem pr_brief {v : Int32} {Z : Int32 → Int32 → Mm → Prop} (i0 : INV M) (h : ∀ r s N, INV N → Z r s N) : CI mC_brief [.ref 10, .int v] M (fun r N => CI mM_brief [.ref 6027, .int v] N (fun s O => Z r s O)) := by
  obtain ⟨L, P, R, S, U, D, W, t, i⟩ := i0
  have c := i.1.1
  refine lC_brief c (fun r N f => ?_)
  have iN := iv_cq f i
  have jN := iN.2.1
  exact tM_brief jN.1 jN.2.2.1 (fun s O g => h r s O ⟨L, P, R, S, U, D, W, t, iv_qf g iN⟩)
theorem pr_read {v w x y z : Int32} {Z : Int32 → Int32 → Mm → Prop} (i0 : INV M) (h : ∀ r s N, INV N → Z r s N) : CI mC_read [.ref 10, .int v, .int w, .int x, .int y, .int z] M (fun r N => CI mM_read [.ref 6027, .int v, .int w, .int x, .int y, .int z] N (fun s O => Z r s O)) := by
  obtain ⟨L, P, R, S, U, D, W, t, i⟩ := i0
  have c := i.1.1
  refine lC_read c (js_n i.2.2.2) (fun r N f => ?_)
  have iN := iv_cq f i
  have jN := iN.2.1
  exact tM_read jN.1 jN.2.2.1 (js_m iN.2.2.2) (fun s O g => h r s O ⟨L, P, R, S, U, D, W, t, iv_qf g iN⟩)
end PR1
end MG48
section MG49
/-! ===== pairs of calls that change what both stand on ===== -/
section PR2
variable {M : Mm}
theorem pr_fault {Z : Int32 → Int32 → Mm → Prop} (i0 : INV M) (h : ∀ r s N, INV N → Z r s N) : CI mC_fault [.ref 10] M (fun r N => CI mM_fault [.ref 6027] N (fun s O => Z r s O)) :=
  lC_fault (tM_fault (h _ _ M i0))
theorem pr_bring {b : Int32} {Z : Int32 → Int32 → Mm → Prop} (i0 : INV M) (h : ∀ r s N, INV N → Z r s N) : CI mC_bring [.ref 10, .int b] M (fun r N => CI mM_bring [.ref 6027, .int b] N (fun s O => Z r s O)) := by
  obtain ⟨L, P, R, S, U, D, W, t, i⟩ := i0
  have key : ∀ N r, IV N L P R S U D W t → CI mM_bring [.ref 6027, .int b] N (fun s O => Z r s O) := by
    intro N r iN
    refine tM_bring (h r _ _ ⟨L, P, R, S, U, D, W, t, ?_⟩)
    by_cases q : ¬ b < 0 ∧ ¬ 255 < b
    · rw [if_pos q]
      obtain ⟨i1, i2, i3, i4⟩ := iN
      have g : ∀ a, a ≠ 6027 → gi (si N 6027 9 b) a = gi N a := fun a n => gi_ne n
      exact ⟨cp_eq i1 (fun _ _ _ _ => rfl) (fun a ha => g a (by omega)), mp_eq i2 (fun _ => rfl) (g _ (by decide)) (g6 _ _ _ _ (by decide)) (g6 _ _ _ _ (by decide)) (by rw [g _ (by decide)]) (by rw [g _ (by decide)]), ja_eq i3 (g _ (by decide)) (g _ (by decide)) (g6 _ _ _ _ (by decide)) (g _ (by decide)), js_eq i4 (fun e he => g _ (by unfold sa; omega)) (fun e he => g _ (by omega)) (g _ (by decide)) (g _ (by decide)) (g _ (by decide))⟩
    · rw [if_neg q]; exact iN
  refine lC_bring (key M _ i) (key _ _ ?_)
  obtain ⟨i1, i2, i3, i4⟩ := i
  have g : ∀ a, a ≠ 10 → gi (si M 10 9 b) a = gi M a := fun a n => gi_ne n
  exact ⟨cp_eq i1 (fun _ _ _ _ => rfl) (fun a ha => g a (by omega)), mp_eq i2 (fun _ => rfl) (g _ (by decide)) (by rw [g _ (by decide)]) (by rw [g _ (by decide)]) (by rw [g _ (by decide)]) (by rw [g _ (by decide)]), ja_eq i3 (g _ (by decide)) (g _ (by decide)) (by rw [g _ (by decide)]) (g _ (by decide)), js_eq i4 (fun e he => g _ (by unfold sa; omega)) (fun e he => g _ (by omega)) (g _ (by decide)) (g _ (by decide)) (g _ (by decide))⟩
theorem pr_copies {b n : Int32} {Z : Int32 → Int32 → Mm → Prop} (i0 : INV M) (h : ∀ r s N, INV N → Z r s N) : CI mC_copies [.ref 10, .int b, .int n] M (fun r N => CI mM_copies [.ref 6027, .int b, .int n] N (fun s O => Z r s O)) := by
  obtain ⟨L, P, R, S, U, D, W, t, i⟩ := i0
  have key : ∀ N r, IV N L P R S U D W t → CI mM_copies [.ref 6027, .int b, .int n] N (fun s O => Z r s O) := by
    intro N r iN
    refine tM_copies iN.2.1.1.1 (fun _ => h r _ N ⟨L, P, R, S, U, D, W, t, iN⟩) (fun k hk _ _ _ => h r _ _ ⟨L, P, R, S, U, D, W, t, ?_⟩)
    obtain ⟨i1, i2, i3, i4⟩ := iN
    have g : ∀ a, a ≠ 6157 → gi (si N 6157 k n) a = gi N a := fun a n => gi_ne n
    exact ⟨cp_eq i1 (fun _ _ _ _ => rfl) (fun a ha => g a (by omega)), mp_eq i2 (fun _ => rfl) (g _ (by decide)) (by rw [g _ (by decide)]) (by rw [g _ (by decide)]) (by rw [g _ (by decide)]) (by rw [g _ (by decide)]), ja_eq i3 (g _ (by decide)) (g _ (by decide)) (by rw [g _ (by decide)]) (g _ (by decide)), js_eq i4 (fun e he => g _ (by unfold sa; omega)) (fun e he => g _ (by omega)) (g _ (by decide)) (g _ (by decide)) (g _ (by decide))⟩
  refine lC_copies i.1.1 (key M _ i) (fun r k hk _ => key _ _ ?_)
  have hL := cxL i.1.1
  obtain ⟨i1, i2, i3, i4⟩ := i
  have g : ∀ a, a ≠ L + 140 → gi (si M (L + 140) k n) a = gi M a := fun a n => gi_ne n
  unfold LA at hL
  exact ⟨cp_eq i1 (fun _ _ _ _ => rfl) (fun a ha => g a (by omega)), mp_eq i2 (fun _ => rfl) (g _ (by omega)) (by rw [g _ (by omega)]) (by rw [g _ (by omega)]) (by rw [g _ (by omega)]) (by rw [g _ (by omega)]), ja_eq i3 (g _ (by omega)) (g _ (by omega)) (by rw [g _ (by omega)]) (g _ (by omega)), js_eq i4 (fun e he => g _ (by unfold sa; omega)) (fun e he => g _ (by omega)) (g _ (by omega)) (g _ (by omega)) (g _ (by omega))⟩
theorem rn_of {L P R S U D : Nat} (c : CP M L P R S U D) {X : Nat} (h : RA X) : RN M X := by
  unfold RA at h
  rcases h with rfl | rfl | rfl
  · exact c.2.2.2.1
  · exact c.2.2.2.2.1
  · exact c.2.2.2.2.2
theorem pr_keep {Z : Int32 → Int32 → Mm → Prop} (i0 : INV M) (h : ∀ r s N, INV N → r = s → Z r s N) : CI mC_keep [.ref 10] M (fun r N => CI mM_keep [.ref 6027] N (fun s O => Z r s O)) := by
  obtain ⟨L, P, R, S, U, D, W, t, i⟩ := i0
  refine lC_keep i.1.1 (rn_of i.1 (cxR i.1.1)) (fun N pN rN eN => ?_)
  have hS : RA S := i.1.1.2.2.1.2.2.2.1
  have g : ∀ a, a ≠ 199 → a ≠ S → gi N a = gi M a := pN.2.2
  have hL := cxL i.1.1
  have iN : IV N L P R S U D W t := by
    obtain ⟨i1, i2, i3, i4⟩ := i
    have hS' := hS
    unfold RA at hS'
    unfold LA at hL
    refine ⟨?_, mp_eq i2 (fun _ => by rw [pN.1]) (g _ (by decide) (by omega)) (by rw [g _ (by decide) (by omega)]) (by rw [g _ (by decide) (by omega)]) (by rw [g _ (by decide) (by omega)]) (by rw [g _ (by decide) (by omega)]), ja_eq i3 (g _ (by decide) (by omega)) (g _ (by decide) (by omega)) (by rw [g _ (by decide) (by omega)]) (g _ (by decide) (by omega)), js_eq i4 (fun e he => g _ (by unfold sa; omega) (by unfold sa; omega)) (fun e he => g _ (by omega) (by omega)) (g _ (by decide) (by omega)) (g _ (by decide) (by omega)) (g _ (by decide) (by omega))⟩
    have rr : ∀ X, RA X → RN N X := by
      intro X hX
      by_cases e : X = S
      · rw [e]; exact rN
      · unfold RN
        rw [g X (by unfold RA at hX; omega) e]
        exact rn_of i1 hX
    obtain ⟨c1, c2, c3, -⟩ := i1
    refine ⟨cx_gr c1 (fun a j _ => by rw [pN.1]), ?_, c3, rr _ (Or.inl rfl), rr _ (Or.inr (Or.inl rfl)), rr _ (Or.inr (Or.inr rfl))⟩
    rw [g L (by omega) (by omega)]; exact c2
  refine tM_keep iN.2.1.1.1 (fun O kO => h _ _ O ⟨L, P, R, S, U, D, W, t, ?_⟩ rfl)
  obtain ⟨i1, i2, i3, i4⟩ := iN
  have g2 : ∀ a, a ≠ 6607 → gi O a = gi N a := kO.2.2.1
  refine ⟨cp_eq i1 (fun _ _ _ _ => by rw [kO.1]) (fun a ha => g2 a (by omega)), ⟨jw_eq i2.1 (fun _ => by rw [kO.1]) (g2 _ (by decide)) (by rw [g2 _ (by decide)]) (by rw [g2 _ (by decide)]), i2.2.1, ?_, ?_, ?_⟩, ja_eq i3 (g2 _ (by decide)) (g2 _ (by decide)) (by rw [g2 _ (by decide)]) (g2 _ (by decide)), js_eq i4 (fun e he => g2 _ (by unfold sa; omega)) (fun e he => g2 _ (by omega)) (g2 _ (by decide)) (g2 _ (by decide)) (g2 _ (by decide))⟩
  · unfold HD; rw [g2 _ (by decide)]; exact i2.2.2.1
  · unfold HO; rw [kO.2.2.2 4, if_pos (by decide)]; exact i2.2.2.1
  · unfold UM; rw [g2 _ (by decide)]; exact i2.2.2.2.2
theorem pr_swap {Z : Int32 → Int32 → Mm → Prop} (i0 : INV M) (h : ∀ r s N, INV N → r = s → Z r s N) : CI mC_swap [.ref 10] M (fun r N => CI mM_swap [.ref 6027] N (fun s O => Z r s O)) := by
  obtain ⟨L, P, R, S, U, D, W, t, i⟩ := i0
  refine lC_swap i.1.1 ?_
  have iN : IV (sr (sr M 10 6 (some S)) 10 7 (some R)) L P S R U D W t := by
    obtain ⟨i1, i2, i3, i4⟩ := i
    have gr' : ∀ a j, gr (sr (sr M 10 6 (some S)) 10 7 (some R)) a j = if a = 10 ∧ j = 7 then some R else if a = 10 ∧ j = 6 then some S else gr M a j := fun a j => by rw [gr_sr, gr_sr]
    have gn : ∀ a j, a ≠ 10 → gr (sr (sr M 10 6 (some S)) 10 7 (some R)) a j = gr M a j := fun a j n => by rw [gr', if_neg (fun e => n e.1), if_neg (fun e => n e.1)]
    obtain ⟨⟨x1, ⟨x2, x3, x4, x5, x6⟩, ⟨y1, y2, y3, y4, y5⟩, ⟨x8, x9⟩, ⟨z1, z2, z3, z4⟩⟩, c2⟩ := i1
    have lr : ∀ {L}, LA L → LR M L → LR (sr (sr M 10 6 (some S)) 10 7 (some R)) L := fun {L} hL h => by
      refine ⟨h.1, fun q hq => ?_, fun w hw => ?_⟩
      · rw [gn L q.1 (by unfold LA at hL; omega)]; exact h.2.1 q hq
      · rw [gn (L + 81) w (by omega)]; exact h.2.2 w hw
    have nq : ∀ q ∈ cgt, ¬ (q.1 = 10 ∧ q.2.1 = 7) ∧ ¬ (q.1 = 10 ∧ q.2.1 = 6) := by decide
    refine ⟨⟨⟨fun q hq => ?_, ⟨?_, ?_, ?_, ?_, ?_⟩, ⟨y1, y2, y4, y3, y5⟩, ⟨lr y1 x8, lr y2 x9⟩, ⟨z1, Ne.symm z2, z4, z3⟩⟩, c2⟩, mp_eq i2 (fun k => gn _ _ (by decide)) rfl rfl rfl rfl rfl, i3, i4⟩
    · rw [gr', if_neg (nq q hq).1, if_neg (nq q hq).2]; exact x1 q hq
    · rw [gr', if_neg (by decide), if_neg (by decide)]; exact x2
    · rw [gr', if_neg (by decide), if_neg (by decide)]; exact x3
    · rw [gr', if_neg (by decide), if_pos (by decide)]
    · rw [gr', if_pos (by decide)]
    · rw [gr', if_neg (by decide), if_neg (by decide)]; exact x6
  refine sM_swap iN.2.1.1.1 (fun O kO => h _ _ O ⟨L, P, S, R, U, D, W, t, ?_⟩ rfl)
  obtain ⟨i1, i2, i3, i4⟩ := iN
  have g2 := kO.2.2.1
  refine ⟨cp_eq i1 (fun _ _ _ _ => by rw [kO.1]) (fun a ha => g2 a (by omega) (by omega)), ⟨jw_eq i2.1 (fun _ => by rw [kO.1]) (g2 _ (by decide) (by decide)) (by rw [g2 _ (by decide) (by decide)]) (by rw [g2 _ (by decide) (by decide)]), i2.2.1, ?_, ?_, ?_⟩, ja_eq i3 (g2 _ (by decide) (by decide)) (g2 _ (by decide) (by decide)) (by rw [g2 _ (by decide) (by decide)]) (g2 _ (by decide) (by decide)), js_eq i4 (fun e he => g2 _ (by unfold sa; omega) (by unfold sa; omega)) (fun e he => g2 _ (by omega) (by omega)) (g2 _ (by decide) (by decide)) (g2 _ (by decide) (by decide)) (g2 _ (by decide) (by decide))⟩
  · unfold HD; rw [kO.2.2.2.1 4, if_pos (by decide)]; exact i2.2.2.2.1
  · unfold HO; rw [kO.2.2.2.2 4, if_pos (by decide)]; exact i2.2.2.1
  · unfold UM; rw [g2 _ (by decide) (by decide)]; exact i2.2.2.2.2
theorem pr_feed {v : Int64} {Z : Int32 → Int32 → Mm → Prop} (i0 : INV M) (h : ∀ r s N, INV N → r = s → Z r s N) : CI mC_feed [.ref 10, .long v] M (fun r N => CI mM_feed [.ref 6027, .long v] N (fun s O => Z r s O)) := by
  obtain ⟨L, P, R, S, U, D, W, t, i⟩ := i0
  have i' := i
  obtain ⟨i1, i2, i3, i4⟩ := i
  refine sC_feed i1.1 i3.1 i3.2.1 (fun l => ?_) (fun l N fN => ?_)
  · exact tM_feed i2.1.1 i3.2.2.1 i3.2.1 (fun _ => h _ _ M ⟨L, P, R, S, U, D, W, t, i'⟩ rfl) (fun l2 => absurd l2 (by omega))
  · have g : ∀ a, a ≠ 145 → a ≠ 70 → gi (si N 70 1 (nI (t + 8))) a = gi M a := fun a n1 n2 => by rw [gi_ne n2]; exact fN.2.2.1 a n1
    have gR : gr (si N 70 1 (nI (t + 8))) = gr M := fN.1
    have hL := cxL i1.1
    have c1 : CP (si N 70 1 (nI (t + 8))) L P R S U D := cp_eq i1 (fun _ _ _ _ => by rw [gR]) (fun a ha => g a (by omega) (by omega))
    have m1 : MP (si N 70 1 (nI (t + 8))) W := mp_eq i2 (fun _ => by rw [gR]) (g _ (by decide) (by decide)) (by rw [g _ (by decide) (by decide)]) (by rw [g _ (by decide) (by decide)]) (by rw [g _ (by decide) (by decide)]) (by rw [g _ (by decide) (by decide)])
    have s1 : JS (si N 70 1 (nI (t + 8))) := js_eq i4 (fun e he => g _ (by unfold sa; omega) (by unfold sa; omega)) (fun e he => g _ (by omega) (by omega)) (g _ (by decide) (by decide)) (g _ (by decide) (by decide)) (g _ (by decide) (by decide))
    refine tM_feed m1.1.1 (by rw [g _ (by decide) (by decide)]; exact i3.2.2.1) i3.2.1 (fun l2 => absurd l2 (by omega)) (fun _ O fO => h _ _ O ⟨L, P, R, S, U, D, W, t + 8, ?_⟩ rfl)
    have g2 : ∀ a, a ≠ 6486 → a ≠ 6027 → gi O a = gi (si N 70 1 (nI (t + 8))) a := fO.2.2.1
    have f2 : ∀ k, k ≠ 11 → gi O 6027 k = gi (si N 70 1 (nI (t + 8))) 6027 k := fun k n => by rw [fO.2.2.2.1 k, if_neg n]
    refine ⟨cp_eq c1 (fun _ _ _ _ => by rw [fO.1]) (fun a ha => g2 a (by omega) (by omega)), mp_eq m1 (fun _ => by rw [fO.1]) (g2 _ (by decide) (by decide)) (f2 _ (by decide)) (f2 _ (by decide)) (by rw [g2 _ (by decide) (by decide)]) (by rw [g2 _ (by decide) (by decide)]), ⟨?_, by omega, ?_, fun k hk => ?_⟩, js_eq s1 (fun e he => g2 _ (by unfold sa; omega) (by unfold sa; omega)) (fun e he => g2 _ (by omega) (by omega)) (g2 _ (by decide) (by decide)) (g2 _ (by decide) (by decide)) (g2 _ (by decide) (by decide))⟩
    · rw [g2 _ (by decide) (by decide), gi_si, if_pos ⟨rfl, rfl⟩]
    · rw [fO.2.2.2.1 11, if_pos rfl]
    · rw [g2 145 (by decide) (by decide), gi_ne (show (145 : Nat) ≠ 70 by decide), fN.2.2.2 k, fO.2.2.2.2 k, g 6486 (by decide) (by decide)]
      by_cases q : t ≤ k ∧ k < t + 8
      · rw [if_pos q, if_pos q]; exact by_feed v (by omega)
      · rw [if_neg q, if_neg q]; exact i3.2.2.2 k hk
theorem pr_end {n : Int32} {Z : Int32 → Int32 → Mm → Prop} (i0 : INV M) (h : ∀ r s N, INV N → r = s → Z r s N) : CI mC_end [.ref 10, .int n] M (fun r N => CI mM_end [.ref 6027, .int n] N (fun s O => Z r s O)) := by
  obtain ⟨L, P, R, S, U, D, W, t, i⟩ := i0
  have i' := i
  obtain ⟨i1, i2, i3, i4⟩ := i
  have ht := i3.2.1
  refine sC_end i1.1 (fun q => tM_end (fun _ => h _ _ M ⟨L, P, R, S, U, D, W, t, i'⟩ rfl) (fun q1 q2 => ?_)) (fun q1 q2 => ?_)
  · rw [i3.1] at q
    rw [i3.2.2.1] at q2
    rcases q with q | q
    · exact absurd q q1
    · exact absurd (Int32.not_lt.mp q2) q
  · rw [i3.1] at q2
    obtain ⟨m, hm, rfl⟩ := nI_of q1
    rw [nle (by omega) hm] at q2
    have g : ∀ a, a ≠ 70 → gi (si M 70 1 (nI m)) a = gi M a := fun a n2 => gi_ne n2
    have e11 : gi (si M 70 1 (nI m)) 6027 11 = nI t := by rw [g _ (by decide)]; exact i3.2.2.1
    refine tM_end (fun q => ?_) (fun _ _ => h _ _ _ ⟨L, P, R, S, U, D, W, m, ?_⟩ (by rw [i3.1, e11]))
    · exfalso
      rw [e11] at q
      rcases q with q | q
      · exact q1 q
      · rw [nlt (by omega) (by omega)] at q; omega
    · have g2 : ∀ a, a ≠ 70 → a ≠ 6027 → gi (si (si M 70 1 (nI m)) 6027 11 (nI m)) a = gi M a := fun a n1 n2 => by rw [gi_ne n2, gi_ne n1]
      have f2 : ∀ k, k ≠ 11 → gi (si (si M 70 1 (nI m)) 6027 11 (nI m)) 6027 k = gi M 6027 k := fun k n => by rw [g6 _ _ _ _ n, g _ (by decide)]
      refine ⟨cp_eq i1 (fun _ _ _ _ => rfl) (fun a ha => g2 a (by omega) (by omega)), mp_eq i2 (fun _ => rfl) (g2 _ (by decide) (by decide)) (f2 _ (by decide)) (f2 _ (by decide)) (by rw [g2 _ (by decide) (by decide)]) (by rw [g2 _ (by decide) (by decide)]), ⟨?_, by omega, g6s _ _ _, fun k hk => ?_⟩, js_eq i4 (fun e he => g2 _ (by unfold sa; omega) (by unfold sa; omega)) (fun e he => g2 _ (by omega) (by omega)) (g2 _ (by decide) (by decide)) (g2 _ (by decide) (by decide)) (g2 _ (by decide) (by decide))⟩
      · rw [gi_ne (by decide), gi_si, if_pos ⟨rfl, rfl⟩]
      · rw [g2 145 (by decide) (by decide), g2 6486 (by decide) (by decide)]; exact i3.2.2.2 k hk
end PR2
end MG49
section MG50
/-! ===== pairs of calls: library, rule, sheet, lay ===== -/
section PR3
variable {M : Mm}
theorem pr_library {Z : Int32 → Int32 → Mm → Prop} (i0 : INV M) (h : ∀ r s N, INV N → Z r s N) : CI mC_library [.ref 10] M (fun r N => CI mM_library [.ref 6027] N (fun s O => Z r s O)) := by
  obtain ⟨L, P, R, S, U, D, W, t, i⟩ := i0
  obtain ⟨i1, i2, i3, i4⟩ := i
  have hP : LA P := i1.1.2.2.1.2.1
  have hL := cxL i1.1
  have hP' := hP
  have hL' := hL
  unfold LA at hP' hL'
  have key : ∀ N r L' P' D', CP N L' P' R S U D' → LCF P M N → CI mM_library [.ref 6027] N (fun s O => Z r s O) := by
    intro N r L' P' D' cN f
    obtain ⟨f1, f2, f3, f4⟩ := f
    have g : ∀ a, a ≠ 199 → a ≠ 258 → a ≠ 70 → a ≠ 10 → ¬ (P ≤ a ∧ a < P + 2304) → gi N a = gi M a := f3
    have mN : MP N W := mp_eq i2 (fun k => by rw [f2 _ (by decide)]) (g _ (by decide) (by decide) (by decide) (by decide) (by omega)) (by rw [g _ (by decide) (by decide) (by decide) (by decide) (by omega)]) (by rw [g _ (by decide) (by decide) (by decide) (by decide) (by omega)]) (by rw [g _ (by decide) (by decide) (by decide) (by decide) (by omega)]) (by rw [g _ (by decide) (by decide) (by decide) (by decide) (by omega)])
    have sN : JS N := js_eq i4 (fun e he => g _ (by unfold sa; omega) (by unfold sa; omega) (by unfold sa; omega) (by unfold sa; omega) (by unfold sa; omega)) (fun e he => g _ (by omega) (by omega) (by omega) (by omega) (by omega)) (g _ (by decide) (by decide) (by decide) (by decide) (by omega)) (g _ (by decide) (by decide) (by decide) (by decide) (by omega)) (g _ (by decide) (by decide) (by decide) (by decide) (by omega))
    have n11 : gi N 6027 11 = nI t := by rw [g _ (by decide) (by decide) (by decide) (by decide) (by omega)]; exact i3.2.2.1
    have tp : TP N (gi N 6486) t := ⟨mN.1.1, n11, i3.2.1, rfl⟩
    have by' : ∀ k, k < 400 → BY (gi N 145 k) (gi N 6486 k) := fun k hk => by
      rw [g 145 (by decide) (by decide) (by decide) (by decide) (by omega), g 6486 (by decide) (by decide) (by decide) (by decide) (by omega)]
      exact i3.2.2.2 k hk
    refine tM_library tp (fun s O fO o11 => h r s O ⟨L', P', R, S, U, D', W, 0, ?_⟩) (fun s O W' fO o11 jO hW uO => h r s O ⟨L', P', R, S, U, D', W', 0, ?_⟩)
    · have g2 : ∀ a, ¬ (a = 6027 ∨ a = 6423 ∨ a = 6229 ∨ a = 6285 ∨ a = 6360) → gi O a = gi N a := fO.2.1
      refine ⟨cp_eq cN (fun _ _ _ _ => by rw [fO.1]) (fun a ha => g2 a (by omega)), mp_eq mN (fun _ => by rw [fO.1]) (g2 _ (by decide)) (fO.2.2.1 0 (by decide)) (fO.2.2.1 24 (by decide)) (by rw [g2 _ (by decide)]) (by rw [g2 _ (by decide)]), ⟨?_, Nat.zero_le _, o11, fun k hk => ?_⟩, js_eq sN (fun e he => g2 _ (by unfold sa; omega)) (fun e he => g2 _ (by omega)) (g2 _ (by decide)) (g2 _ (by decide)) (g2 _ (by decide))⟩
      · rw [g2 _ (by decide)]; exact f4
      · rw [g2 145 (by decide), g2 6486 (by decide)]; exact by' k hk
    · have g2 : ∀ a, ¬ (a = 6027 ∨ a = 6423 ∨ a = 6229 ∨ a = 6285 ∨ a = 6360 ∨ a = 6101 ∨ a = 6157 ∨ a = 6807) → gi O a = gi N a := fO.2.1
      refine ⟨cp_eq cN (fun _ _ _ _ => by rw [fO.1]) (fun a ha => g2 a (by omega)), ⟨jO, hW, ?_, ?_, uO⟩, ⟨?_, Nat.zero_le _, o11, fun k hk => ?_⟩, js_eq sN (fun e he => g2 _ (by unfold sa; omega)) (fun e he => g2 _ (by omega)) (g2 _ (by decide)) (g2 _ (by decide)) (g2 _ (by decide))⟩
      · unfold HD; rw [g2 _ (by decide)]; exact mN.2.2.1
      · unfold HO; rw [g2 _ (by decide)]; exact mN.2.2.2.1
      · rw [g2 _ (by decide)]; exact f4
      · rw [g2 145 (by decide), g2 6486 (by decide)]; exact by' k hk
  have rr : ∀ {N}, LCF P M N → RN N 4995 ∧ RN N 5059 ∧ RN N 5123 := by
    intro N f
    refine ⟨?_, ?_, ?_⟩
    · unfold RN; rw [f.2.2.1 _ (by decide) (by decide) (by decide) (by decide) (by omega)]; exact i1.2.2.2.1
    · unfold RN; rw [f.2.2.1 _ (by decide) (by decide) (by decide) (by decide) (by omega)]; exact i1.2.2.2.2.1
    · unfold RN; rw [f.2.2.1 _ (by decide) (by decide) (by decide) (by decide) (by omega)]; exact i1.2.2.2.2.2
  have neq : L ≠ P := i1.1.2.2.2.2.1
  refine sC_library i1.1 (tc_of i1.1 i3) (fun r N f e => key N r L P D ⟨cx_gr i1.1 (fun a j _ => by rw [e]), ?_, i1.2.2.1, rr f⟩ f) (fun r N D' f e hD hD2 => key N r P L D' ⟨?_, hD, hD2, rr f⟩ f)
  · rw [f.2.2.1 L (by omega) (by omega) (by omega) (by omega) (by omega)]; exact i1.2.1
  · obtain ⟨⟨x1, ⟨x2, x3, x4, x5, x6⟩, ⟨y1, y2, y3, y4, y5⟩, ⟨x8, x9⟩, ⟨z1, z2, z3, z4⟩⟩, c2⟩ := i1
    have nq : ∀ q ∈ cgt, q.1 = 10 → q.2.1 ≠ 5 ∧ q.2.1 ≠ 4 := by decide
    have lr : ∀ {L}, LA L → LR M L → LR N L := fun {L} hL h => by
      refine ⟨h.1, fun q hq => ?_, fun w hw => ?_⟩
      · rw [f.2.1 L (by unfold LA at hL; omega)]; exact h.2.1 q hq
      · rw [f.2.1 (L + 81) (by omega)]; exact h.2.2 w hw
    refine ⟨fun q hq => ?_, ⟨?_, ?_, ?_, ?_, ?_⟩, ⟨y2, y1, y3, y4, y5⟩, ⟨lr y2 x9, lr y1 x8⟩, ⟨Ne.symm z1, z2, z3, z4⟩⟩
    · by_cases q10 : q.1 = 10
      · have := nq q hq q10
        rw [q10, e, if_neg this.1, if_neg this.2, ← q10]; exact x1 q hq
      · rw [f.2.1 _ q10]; exact x1 q hq
    · rw [e, if_neg (by decide), if_pos rfl]
    · rw [e, if_pos rfl]
    · rw [e, if_neg (by decide), if_neg (by decide)]; exact x4
    · rw [e, if_neg (by decide), if_neg (by decide)]; exact x5
    · rw [e, if_neg (by decide), if_neg (by decide)]; exact x6
theorem pr_rule {Z : Int32 → Int32 → Mm → Prop} (i0 : INV M) (h : ∀ r s N, INV N → Z r s N) : CI mC_rule [.ref 10] M (fun r N => CI mM_rule [.ref 6027] N (fun s O => Z r s O)) := by
  obtain ⟨L, P, R, S, U, D, W, t, i⟩ := i0
  obtain ⟨i1, i2, i3, i4⟩ := i
  have hU : RA U := i1.1.2.2.1.2.2.2.2
  have hL := cxL i1.1
  have hU' := hU
  have hL' := hL
  unfold RA at hU'
  unfold LA at hL'
  have key : ∀ N r R' U', CP N L P R' S U' D → RCF U M N → CI mM_rule [.ref 6027] N (fun s O => Z r s O) := by
    intro N r R' U' cN f
    obtain ⟨f1, f2, f3, f4, f5⟩ := f
    have g : ∀ a, a ≠ 199 → a ≠ 70 → a ≠ 10 → a ≠ U → gi N a = gi M a := f3
    have mN : MP N W := mp_eq i2 (fun k => by rw [f2 _ (by decide)]) (g _ (by decide) (by decide) (by decide) (by omega)) (by rw [g _ (by decide) (by decide) (by decide) (by omega)]) (by rw [g _ (by decide) (by decide) (by decide) (by omega)]) (by rw [g _ (by decide) (by decide) (by decide) (by omega)]) (by rw [g _ (by decide) (by decide) (by decide) (by omega)])
    have sN : JS N := js_eq i4 (fun e he => g _ (by unfold sa; omega) (by unfold sa; omega) (by unfold sa; omega) (by unfold sa; omega)) (fun e he => g _ (by omega) (by omega) (by omega) (by omega)) (g _ (by decide) (by decide) (by decide) (by omega)) (g _ (by decide) (by decide) (by decide) (by omega)) (g _ (by decide) (by decide) (by decide) (by omega))
    have n11 : gi N 6027 11 = nI t := by rw [g _ (by decide) (by decide) (by decide) (by omega)]; exact i3.2.2.1
    have tp : TP N (gi N 6486) t := ⟨mN.1.1, n11, i3.2.1, rfl⟩
    have by' : ∀ k, k < 400 → BY (gi N 145 k) (gi N 6486 k) := fun k hk => by
      rw [g 145 (by decide) (by decide) (by decide) (by omega), g 6486 (by decide) (by decide) (by decide) (by omega)]
      exact i3.2.2.2 k hk
    have fin : ∀ O, NR N O → HD O → gi O 6027 11 = 0 → IV O L P R' S U' D W 0 := by
      intro O fO hO o11
      have g2 : ∀ a, ¬ (a = 6027 ∨ a = 6671 ∨ a = 6745 ∨ a = 6543) → gi O a = gi N a := fO.2.2.1
      refine ⟨cp_eq cN (fun _ _ _ _ => by rw [fO.1]) (fun a ha => g2 a (by omega)), ⟨jw_eq mN.1 (fun _ => by rw [fO.1]) (g2 _ (by decide)) (fO.2.2.2 0 (by decide)) (fO.2.2.2 24 (by decide)), mN.2.1, hO, ?_, ?_⟩, ⟨?_, Nat.zero_le _, o11, fun k hk => ?_⟩, js_eq sN (fun e he => g2 _ (by unfold sa; omega)) (fun e he => g2 _ (by omega)) (g2 _ (by decide)) (g2 _ (by decide)) (g2 _ (by decide))⟩
      · unfold HO; rw [g2 _ (by decide)]; exact mN.2.2.2.1
      · unfold UM; rw [fO.2.2.2 24 (by decide)]; exact mN.2.2.2.2
      · rw [g2 _ (by decide)]; exact f4
      · rw [g2 145 (by decide), g2 6486 (by decide)]; exact by' k hk
    refine tM_rule tp (fun s O fO e5 o11 => h r s O ⟨L, P, R', S, U', D, W, 0, fin O fO ?_ o11⟩) (fun s O fO hO o11 => h r s O ⟨L, P, R', S, U', D, W, 0, fin O fO hO o11⟩)
    unfold HD; rw [e5]; exact mN.2.2.1
  have rr : ∀ {N}, RCF U M N → ∀ X, RA X → RN N X := by
    intro N f X hX
    by_cases e : X = U
    · rw [e]; exact f.2.2.2.2
    · unfold RN
      rw [f.2.2.1 X (by unfold RA at hX; omega) (by unfold RA at hX; omega) (by unfold RA at hX; omega) e]
      exact rn_of i1 hX
  have r3 : ∀ {N}, RCF U M N → RN N 4995 ∧ RN N 5059 ∧ RN N 5123 := fun f => ⟨rr f _ (Or.inl rfl), rr f _ (Or.inr (Or.inl rfl)), rr f _ (Or.inr (Or.inr rfl))⟩
  have dd : ∀ {N}, RCF U M N → gi N L 1 = nI D := fun f => by rw [f.2.2.1 L (by omega) (by omega) (by omega) (by omega)]; exact i1.2.1
  refine sC_rule i1.1 (tc_of i1.1 i3) (fun r N f e => key N r R U ⟨cx_gr i1.1 (fun a j _ => by rw [e]), dd f, i1.2.2.1, r3 f⟩ f) (fun r N f e => key N r U R ⟨?_, dd f, i1.2.2.1, r3 f⟩ f)
  obtain ⟨⟨x1, ⟨x2, x3, x4, x5, x6⟩, ⟨y1, y2, y3, y4, y5⟩, ⟨x8, x9⟩, ⟨z1, z2, z3, z4⟩⟩, c2⟩ := i1
  have nq : ∀ q ∈ cgt, q.1 = 10 → q.2.1 ≠ 8 ∧ q.2.1 ≠ 6 := by decide
  have lr : ∀ {L}, LA L → LR M L → LR N L := fun {L} hL h => by
    refine ⟨h.1, fun q hq => ?_, fun w hw => ?_⟩
    · rw [f.2.1 L (by unfold LA at hL; omega)]; exact h.2.1 q hq
    · rw [f.2.1 (L + 81) (by omega)]; exact h.2.2 w hw
  refine ⟨fun q hq => ?_, ⟨?_, ?_, ?_, ?_, ?_⟩, ⟨y1, y2, y5, y4, y3⟩, ⟨lr y1 x8, lr y2 x9⟩, ⟨z1, Ne.symm z4, Ne.symm z3, Ne.symm z2⟩⟩
  · by_cases q10 : q.1 = 10
    · have := nq q hq q10
      rw [q10, e, if_neg this.1, if_neg this.2, ← q10]; exact x1 q hq
    · rw [f.2.1 _ q10]; exact x1 q hq
  · rw [e, if_neg (by decide), if_neg (by decide)]; exact x2
  · rw [e, if_neg (by decide), if_neg (by decide)]; exact x3
  · rw [e, if_neg (by decide), if_pos rfl]
  · rw [e, if_neg (by decide), if_neg (by decide)]; exact x5
  · rw [e, if_pos rfl]
theorem isS_e {k : Int32} {e : Nat} (he : e < 4) (ek : k = nI e) : isS k = true := by rw [ek]; exact decide_eq_true ⟨n0 e (by omega), nge rfl (by decide) he⟩
theorem pr_sheet {k l n : Int32} {Z : Int32 → Int32 → Mm → Prop} (i0 : INV M) (h : ∀ r s N, INV N → r = s → Z r s N) : CI mC_sheet [.ref 10, .int k, .int l, .int n] M (fun r N => CI mM_sheet [.ref 6027, .int k, .int l, .int n] N (fun s O => Z r s O)) := by
  obtain ⟨L, P, R, S, U, D, W, t, i⟩ := i0
  have i' := i
  obtain ⟨i1, i2, i3, i4⟩ := i
  have hL := cxL i1.1
  refine lC_sheet i1.1 (fun q => ?_) (fun q1 q2 q3 => ?_) (fun e he ek il q2 q3 => ?_)
  · refine tM_sheet i2.1.1 (fun _ => h _ _ M ⟨L, P, R, S, U, D, W, t, i'⟩ rfl) (fun p1 p2 p3 => ?_) (fun e he ek il p2 p3 => ?_)
    · exfalso
      rcases q with q | q
      · rw [p1] at q; exact absurd q (by decide)
      · exact q p2
    · exfalso
      rcases q with q | q
      · rw [isS_e he ek, il] at q; exact absurd q (by decide)
      · exact q p2
  · refine tM_sheet i2.1.1 (fun p => ?_) (fun _ _ _ => h _ _ M ⟨L, P, R, S, U, D, W, t, i'⟩ rfl) (fun e he ek il p2 p3 => absurd p3 q3)
    exfalso
    rcases p with p | p
    · rw [q1] at p; exact absurd p (by decide)
    · exact p q2
  · generalize eA : fl (si (si M (sa e) 1 l) (sa e) 2 n) (5588 + 128 * e) 40 0 = A
    have sae : ∀ x, x < 4 → sa x = 5509 + 128 * x := fun x _ => rfl
    have g : ∀ a, a ≠ sa e → a ≠ 5588 + 128 * e → gi A a = gi M a := fun a n1 n2 => by
      rw [← eA]; funext j; rw [flR _ _ _ _ _ _ n2, giR _ _ _ _ _ _ n1, giR _ _ _ _ _ _ n1]
    have gR : gr A = gr M := by rw [← eA]; rfl
    have a1 : gi A (sa e) 1 = l := by rw [← eA, flR _ _ _ _ _ _ (by rw [sae e he]; omega), gi_si, if_neg (by omega), gi_si, if_pos ⟨rfl, rfl⟩]
    have a2 : gi A (sa e) 2 = n := by rw [← eA, flR _ _ _ _ _ _ (by rw [sae e he]; omega), gi_si, if_pos ⟨rfl, rfl⟩]
    have a3 : ∀ j, j < 40 → gi A (5588 + 128 * e) j = 0 := fun j hj => by rw [← eA, gi_fl, if_pos ⟨rfl, hj⟩]
    have sa' := sae e he
    have c1 : CP A L P R S U D := cp_eq i1 (fun _ _ _ _ => by rw [gR]) (fun a ha => g a (by omega) (by omega))
    have m1 : MP A W := mp_eq i2 (fun _ => by rw [gR]) (g _ (by omega) (by omega)) (by rw [g _ (by omega) (by omega)]) (by rw [g _ (by omega) (by omega)]) (by rw [g _ (by omega) (by omega)]) (by rw [g _ (by omega) (by omega)])
    have j1 : JA A t := ja_eq i3 (g _ (by omega) (by omega)) (g _ (by omega) (by omega)) (by rw [g _ (by omega) (by omega)]) (g _ (by omega) (by omega))
    refine tM_sheet m1.1.1 (fun p => ?_) (fun _ _ p => absurd q3 p) (fun e' he' ek' _ _ _ O fO => ?_)
    · exfalso
      rcases p with p | p
      · rw [isS_e he ek, il] at p; exact absurd p (by decide)
      · exact p q2
    · have ee : e' = e := (ninj (by omega) (by omega)).mp (ek'.symm.trans ek)
      subst ee
      have g2 : ∀ a, a ≠ 7644 → a ≠ 7708 → a ≠ 7773 → gi O a = gi A a := fO.2.2.1
      refine h _ _ O ⟨L, P, R, S, U, D, W, t, cp_eq c1 (fun _ _ _ _ => by rw [fO.1]) (fun a ha => g2 a (by omega) (by omega) (by omega)), mp_eq m1 (fun _ => by rw [fO.1]) (g2 _ (by decide) (by decide) (by decide)) (by rw [g2 _ (by decide) (by decide) (by decide)]) (by rw [g2 _ (by decide) (by decide) (by decide)]) (by rw [g2 _ (by decide) (by decide) (by decide)]) (by rw [g2 _ (by decide) (by decide) (by decide)]), ja_eq j1 (g2 _ (by decide) (by decide) (by decide)) (g2 _ (by decide) (by decide) (by decide)) (by rw [g2 _ (by decide) (by decide) (by decide)]) (g2 _ (by decide) (by decide) (by decide)), fun x hx => ?_⟩ rfl
      have sx := sae x hx
      by_cases z : x = e'
      · subst z
        have q3' : ¬ n < 0 := Int32.not_lt.mpr q3
        obtain ⟨m, hm, em⟩ := rngL (c := 40) (n := 40) rfl (by decide) q3' (Int32.not_lt.mpr q2)
        refine ⟨⟨m, by omega, ?_, ?_⟩, ?_, fun j hj => ?_⟩
        · rw [g2 _ (by omega) (by omega) (by omega), a2]; exact em
        · rw [fO.2.2.2.2.1 x, if_pos rfl]; exact em
        · rw [g2 _ (by omega) (by omega) (by omega), a1, fO.2.2.2.1 x, if_pos rfl]
        · rw [g2 _ (by omega) (by omega) (by omega), a3 j hj, fO.2.2.2.2.2, if_pos (by omega)]
      · obtain ⟨⟨m, b1, b2, b3⟩, b4, b5⟩ := i4 x hx
        refine ⟨⟨m, b1, ?_, ?_⟩, ?_, fun j hj => ?_⟩
        · rw [g2 _ (by omega) (by omega) (by omega), g _ (by omega) (by omega)]; exact b2
        · rw [fO.2.2.2.2.1 x, if_neg z, g _ (by omega) (by omega)]; exact b3
        · rw [g2 _ (by omega) (by omega) (by omega), g _ (by omega) (by omega), fO.2.2.2.1 x, if_neg z, g _ (by omega) (by omega)]; exact b4
        · rw [g2 _ (by omega) (by omega) (by omega), g _ (by omega) (by omega), fO.2.2.2.2.2, if_neg (by omega), g _ (by omega) (by omega)]; exact b5 j hj
theorem pr_lay {k j v : Int32} {Z : Int32 → Int32 → Mm → Prop} (i0 : INV M) (h : ∀ r s N, INV N → r = s → Z r s N) : CI mC_lay [.ref 10, .int k, .int j, .int v] M (fun r N => CI mM_lay [.ref 6027, .int k, .int j, .int v] N (fun s O => Z r s O)) := by
  obtain ⟨L, P, R, S, U, D, W, t, i⟩ := i0
  have i' := i
  obtain ⟨i1, i2, i3, i4⟩ := i
  have hI : INV M := ⟨L, P, R, S, U, D, W, t, i'⟩
  have hm := js_m i4
  have uq : ∀ {e e' : Nat}, e < 4 → e' < 4 → k = nI e → k = nI e' → e' = e := fun h1 h2 a b => (ninj (by omega) (by omega)).mp (b.symm.trans a)
  refine lC_lay i1.1 (js_n i4) (fun q => ?_) (fun e he ek q => ?_) (fun e he ek q1 q2 => ?_) (fun e c n he ek ec hn en hc q => ?_)
  · refine tM_lay i2.1.1 hm (fun _ => h _ _ M hI rfl) (fun e he ek _ => ?_) (fun e he ek _ _ => ?_) (fun e c n he ek _ _ _ _ _ => ?_)
    all_goals exact absurd (isS_e he ek) (by rw [q]; decide)
  · have b4 := (i4 e he).2.1
    refine tM_lay i2.1.1 hm (fun p => absurd (isS_e he ek) (by rw [p]; decide)) (fun e' _ _ _ => h _ _ M hI rfl) (fun e' he' ek' p _ => ?_) (fun e' c n he' ek' _ _ _ _ p => ?_)
    all_goals
      have := uq he he' ek ek'
      subst this
      exact absurd (b4.symm.trans q) p
  · obtain ⟨⟨m, b1, b2, b3⟩, b4, -⟩ := i4 e he
    refine tM_lay i2.1.1 hm (fun p => absurd (isS_e he ek) (by rw [p]; decide)) (fun e' he' ek' p => ?_) (fun e' _ _ _ _ => h _ _ M hI rfl) (fun e' c n he' ek' ec hn en hc p => ?_)
    · have := uq he he' ek ek'
      subst this
      exact absurd (b4.trans p) q1
    · have := uq he he' ek ek'
      subst this
      exfalso
      have mn : m = n := (ninj (by omega) (by omega)).mp (b3.symm.trans en)
      rw [b2, ec] at q2
      rcases q2 with q2 | q2
      · exact n0 c (by omega) q2
      · rw [nle (by omega) (by omega)] at q2; omega
  · obtain ⟨⟨m, b1, b2, b3⟩, b4, b5⟩ := i4 e he
    have mn : m = n := (ninj (by omega) (by omega)).mp (b2.symm.trans en)
    subst mn
    have sae : ∀ x, sa x = 5509 + 128 * x := fun x => rfl
    generalize ew : layv (gi M (sa e) 1) v = w
    have g : ∀ a, a ≠ 5588 + 128 * e → gi (si M (5588 + 128 * e) c w) a = gi M a := fun a n1 => gi_ne n1
    have se := sae e
    have c1 : CP (si M (5588 + 128 * e) c w) L P R S U D := cp_eq i1 (fun _ _ _ _ => rfl) (fun a ha => g a (by omega))
    have m1 : MP (si M (5588 + 128 * e) c w) W := mp_eq i2 (fun _ => rfl) (g _ (by omega)) (by rw [g _ (by omega)]) (by rw [g _ (by omega)]) (by rw [g _ (by omega)]) (by rw [g _ (by omega)])
    have j1 : JA (si M (5588 + 128 * e) c w) t := ja_eq i3 (g _ (by omega)) (g _ (by omega)) (by rw [g _ (by omega)]) (g _ (by omega))
    have h7708 : gi (si M (5588 + 128 * e) c w) 7708 = gi M 7708 := g _ (by omega)
    have h7644 : gi (si M (5588 + 128 * e) c w) 7644 = gi M 7644 := g _ (by omega)
    refine tM_lay m1.1.1 (fun x hx => by rw [h7708]; exact hm x hx) (fun p => absurd (isS_e he ek) (by rw [p]; decide)) (fun e' he' ek' p => ?_) (fun e' he' ek' p1 p2 => ?_) (fun e' c' n' he' ek' ec' hn' en' hc' p => ?_)
    · have := uq he he' ek ek'
      subst this
      rw [h7644] at p
      exact absurd (b4.trans p) q
    · have := uq he he' ek ek'
      subst this
      exfalso
      rw [h7708, b3, ec] at p2
      rcases p2 with p2 | p2
      · exact n0 c (by omega) p2
      · rw [nle (by omega) (by omega)] at p2; omega
    · have := uq he he' ek ek'
      subst this
      have cc : c' = c := (ninj (by omega) (by omega)).mp (ec'.symm.trans ec)
      subst cc
      rw [h7644, ← b4, ew]
      have g2 : ∀ a, a ≠ 7773 → gi (si (si M (5588 + 128 * e') c' w) 7773 (40 * e' + c') w) a = gi (si M (5588 + 128 * e') c' w) a := fun a n1 => gi_ne n1
      refine h _ _ _ ⟨L, P, R, S, U, D, W, t, cp_eq c1 (fun _ _ _ _ => rfl) (fun a ha => g2 a (by omega)), mp_eq m1 (fun _ => rfl) (g2 _ (by omega)) (by rw [g2 _ (by omega)]) (by rw [g2 _ (by omega)]) (by rw [g2 _ (by omega)]) (by rw [g2 _ (by omega)]), ja_eq j1 (g2 _ (by omega)) (g2 _ (by omega)) (by rw [g2 _ (by omega)]) (g2 _ (by omega)), fun x hx => ?_⟩ rfl
      have sx := sae x
      obtain ⟨⟨m2, d1, d2, d3⟩, d4, d5⟩ := i4 x hx
      refine ⟨⟨m2, d1, ?_, ?_⟩, ?_, fun a ha => ?_⟩
      · rw [g2 _ (by omega), g _ (by omega)]; exact d2
      · rw [g2 _ (by omega), h7708]; exact d3
      · rw [g2 _ (by omega), g _ (by omega), g2 _ (by omega), h7644]; exact d4
      · rw [g2 _ (by omega), gi_si, gi_si, g 7773 (by omega), d5 a ha]
        by_cases z : x = e' ∧ a = c'
        · rw [if_pos (by omega), if_pos (by omega)]
        · rw [if_neg (by omega), if_neg (by omega)]
end PR3
end MG50
