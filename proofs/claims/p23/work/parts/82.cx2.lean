/-! ===== the class: books, words found, rules, sheets, counts ===== -/
section CX2
variable {M N : Mm} {L P R S U : Nat}
theorem lC_fewestBooks {k : Nat} {a : Int32} {K : Int32 → Mm → Prop} (c : CX M L P R S U) (hk : k < 64) (h : ∀ r N, CQ M N → K r N) : CI mC_fewestBooks [.ref 10, .int (nI k), .int a] M K := by
  refine call_of rfl (Nat.le_of_ble_eq_true rfl) rfl (vC_fewestBooks_0 rfl (cx4 c) (cx6 c) (lS_tellingBooks (cxlr c) (raM3 (cxR c)) (fun t => vC_fewestBooks_11 ?_)))
  refine lp 256 (P := fun s => ∀ y z N, CQ M N → X mC_fewestBooks 22 [(0, .ref 10), (1, .int (nI k)), (2, .int a), (3, .int t), (4, .int y), (5, .int z), (6, .int (nI s))] [] N (mC mC_fewestBooks, mS mC_fewestBooks) (QI K)) (fun s hs ih y z N qN => ?_) (fun y z N qN => ?_) _ _ _ (cq_rf M)
  · have ns : ¬ (255 : Int32) < nI s := by rw [show (255 : Int32) = nI 255 from rfl, nlt (by omega) (by decide)]; omega
    have cN := cx_cq qN c
    refine vC_fewestBooks_22 ⟨fun q => absurd q ns, fun _ => ?_, fun _ => sJi_bitCount (fun _ _ => vC_fewestBooks_44 rfl (cx11 cN) (cx4 cN) (cx6 cN) ⟨fun _ => ?_, fun _ => sWe_begin (cxlr cN) (cxL c) (cxR c) ?_⟩)⟩
    · rw [nI_s]; exact ih _ _ _ qN
    · rw [nI_s]; exact ih _ _ _ qN
    · have qB := cq_tr qN (cq_bgn N L R (nI s))
      refine vC_fewestBooks_66 rfl (cx11 (cx_cq qB c)) (eWe_heldIn (cxw cN _) (cxL c) (cxR c) hk (fun O qO _ => vC_fewestBooks_74 ⟨fun _ => ?_, fun _ => sJi_bitCount (fun _ _ => vC_fewestBooks_87 ?_)⟩))
      · rw [nI_s]; exact ih _ _ _ (cq_tr qB (cq_wq qO))
      · rw [nI_s]; exact ih _ _ _ (cq_tr qB (cq_wq qO))
  · have l : (255 : Int32) < nI 256 := by decide
    exact vC_fewestBooks_22 ⟨fun _ => h _ N qN, fun q => absurd l q.1, fun q => absurd l q.1⟩
theorem lC_argue {x a w : Int32} {K : Int32 → Mm → Prop} (c : CX M L P R S U) (h : ∀ r N, CQ M N → K r N) : CI mC_argue [.ref 10, .int x, .int a, .int w] M K := by
  have n := fun r => h r M (cq_rf M)
  refine call_of rfl (Nat.le_of_ble_eq_true rfl) rfl (vC_argue_0 (sC_isCase (fun _ => vC_argue_4 ⟨fun _ => n _, fun q => absurd rfl q⟩) (fun j hj ej => vC_argue_4 ⟨fun q => absurd q (by decide), fun _ => sC_isEither (fun _ _ => vC_argue_11 ⟨fun _ => n _, fun q => absurd rfl q⟩) (fun _ => vC_argue_11 ⟨fun q => absurd q (by decide), fun _ => sC_isEither (fun _ _ => vC_argue_18 rfl ⟨fun q => absurd rfl q, fun _ => n _⟩) (fun _ => vC_argue_18 rfl ⟨fun _ => ?_, fun q => absurd q (by decide)⟩)⟩)⟩)))
  subst ej
  exact lC_fewestBooks c hj (fun r N qN => vC_argue_29 ⟨fun _ => h _ N qN, fun _ => sJi_bitCount (fun _ _ => vC_argue_48 (h _ N qN)), fun _ => h _ N qN⟩)
theorem lC_game {x b w : Int32} {K : Int32 → Mm → Prop} (c : CX M L P R S U) (h : ∀ r N, CQ M N → K r N) : CI mC_game [.ref 10, .int x, .int b, .int w] M K := by
  have n := fun r => h r M (cq_rf M)
  have e11 := cx11 c
  have cB := cx_cq (cq_bgn M L R 63) c
  refine call_of rfl (Nat.le_of_ble_eq_true rfl) rfl (vC_game_0 (sC_isCase (fun _ => vC_game_4 ⟨fun _ => n _, fun q => absurd rfl q⟩) (fun j hj ej => vC_game_4 ⟨fun q => absurd q (by decide), fun _ => sC_isEither (fun _ _ => vC_game_11 ⟨fun _ => n _, fun q => absurd rfl q⟩) (fun _ => vC_game_11 ⟨fun q => absurd q (by decide), fun _ => sC_isEither (fun _ _ => vC_game_18 rfl e11 (cx4 c) (cx6 c) ⟨fun q => absurd rfl q, fun _ => n _⟩) (fun _ => vC_game_18 rfl e11 (cx4 c) (cx6 c) ⟨fun _ => sWe_begin (cxlr c) (cxL c) (cxR c) (vC_game_40 rfl (cx11 cB) ⟨fun _ => h _ _ (cq_bgn _ _ _ _), fun _ => ?_⟩), fun q => absurd q (by decide)⟩)⟩)⟩)))
  subst ej
  exact eWe_heldIn (cxw c _) (cxL c) (cxR c) hj (fun O qO _ => vC_game_52 (h _ O (cqb qO)))
theorem lC_turn {w : Int32} {K : Int32 → Mm → Prop} (c : CX M L P R S U) (h : ∀ r N, CQ M N → K r N) : CI mC_turn [.ref 10, .int w] M K := by
  have cB := cx_cq (cq_bgn M L R (gi M 10 9)) c
  refine call_of rfl (Nat.le_of_ble_eq_true rfl) rfl (vC_turn_0 rfl ⟨fun _ => h _ M (cq_rf M), fun _ => lC_weighNow c (vC_turn_15 rfl (cxg cB (10, 12, 5312) (by decide)) (lFi_best (cxw c _) (cxL c) (cxR c) (cxg cB (5312, 0, 5192) (by decide)) (cxg cB (5312, 1, 5392) (by decide)) (fun v N qN hv => ?_)))⟩)
  have q := cq_tr (cq_bgn M L R (gi M 10 9)) (cq_bq qN)
  have cN := cx_cq q c
  refine vC_turn_22 rfl (cxg cN (10, 12, 5312) (by decide)) (cxg cN (5312, 1, 5392) (by decide)) ⟨fun p => ⟨fun _ => ⟨?_, h _ N q⟩, fun _ => call_of rfl (Nat.le_of_ble_eq_true rfl) rfl (vFi_doctorAt_0 (vC_turn_70 (h _ N q))), fun _ => call_of rfl (Nat.le_of_ble_eq_true rfl) rfl (vFi_answerAt_0 (vC_turn_75 (h _ N q))), fun _ => call_of rfl (Nat.le_of_ble_eq_true rfl) rfl (vFi_marksAt_0 (vC_turn_80 (h _ N q)))⟩, fun _ => h _ N q⟩
  rcases hv with hv | ⟨i, hi, e⟩
  · exact absurd p (Int32.not_le.mpr hv)
  · rw [e]; exact vin hi (by decide)
theorem lC_turns {d a m : Int32} {K : Int32 → Mm → Prop} (c : CX M L P R S U) (h : ∀ r N, CQ M N → K r N) : CI mC_turns [.ref 10, .int d, .int a, .int m] M K := by
  have n := fun r => h r M (cq_rf M)
  refine call_of rfl (Nat.le_of_ble_eq_true rfl) rfl (vC_turns_0 (sC_isDoctor (fun _ => vC_turns_4 ⟨fun _ => n _, fun q => absurd rfl q⟩) (fun j hj ej => vC_turns_4 ⟨fun q => absurd q (by decide), fun _ => sC_isEither (fun _ _ => vC_turns_11 ⟨fun _ => n _, fun q => absurd rfl q⟩) (fun _ => vC_turns_11 ⟨fun q => absurd q (by decide), fun _ => sC_isCase (fun _ => vC_turns_18 rfl (cx6 c) ⟨fun q => absurd rfl q, fun _ => n _⟩) (fun _ _ _ => vC_turns_18 rfl (cx6 c) ⟨fun _ => sRu_isMain (raM3 (cxR c)) (vC_turns_31 rfl ⟨fun _ => lC_weighNow c (vC_turns_41 ?_), fun _ => n _⟩), fun q => absurd q (by decide)⟩)⟩)⟩)))
  subst ej
  refine lp 64 (P := fun k => ∀ y N, WQ (bgn M L R (gi M 10 9)) N → X mC_turns 47 [(0, .ref 10), (1, .int (nI j)), (2, .int a), (3, .int m), (4, .int y), (5, .int (nI k))] [] N (mC mC_turns, mS mC_turns) (QI K)) (fun k hk ih y N qN => ?_) (fun y N qN => ?_) _ _ (wq_rf _)
  · have wN := wh_gr (cxw c (gi M 10 9)) qN.1
    refine vC_turns_47 rfl (cx11 (cx_cq (cqb qN) c)) ⟨fun q => absurd q (nge rfl (by decide) hk), fun _ => ?_, fun _ => eWe_weigh wN (cxL c) (cxR c) hk (fun O qO vO => vC_turns_72 rfl (cx11 (cx_cq (cqb (wq_tr qN qO)) c)) (sJi_bitCount (fun _ _ => vC_turns_84 rfl (lWe_turnsBy (wh_gr wN qO.1) hj hk vO.1 (fun _ => vC_turns_87 ?_)))))⟩
    · rw [nI_s]; exact ih _ _ qN
    · rw [nI_s]; exact ih _ _ (wq_tr qN qO)
  · exact vC_turns_47 rfl (cx11 (cx_cq (cqb qN) c)) ⟨fun _ => h _ _ (cqb qN), fun q => absurd (nself rfl) q.1, fun q => absurd (nself rfl) q.1⟩
/-- a rule becomes as another -/
theorem lC_keep {K : Int32 → Mm → Prop} (c : CX M L P R S U) (rn : RN M R) (h : ∀ N, PX S M N → RN N S → (∀ i, i < 7 → gi N S i = gi M R i) → K 1 N) : CI mC_keep [.ref 10] M K := by
  have hS : RA S := c.2.2.1.2.2.2.1
  have hR := cxR c
  have ne : R ≠ S := c.2.2.2.2.2.1
  refine call_of rfl (Nat.le_of_ble_eq_true rfl) rfl (vC_keep_0 rfl c.2.1.2.2.2.1 (cx6 c) (call_of rfl (Nat.le_of_ble_eq_true rfl) rfl (vRu_becomeAs_0 (raM3 hR) (raM3 hS) ?_)))
  have e : ∀ (A : Mm) (j : Nat) (v : Int32) (k : Nat), gi (si A S j v) R k = gi A R k := fun A j v k => giR _ _ _ _ _ _ ne
  simp only [e]
  refine ⟨rn, vC_keep_11 (h _ (px_tr px_si (px_tr px_si (px_tr px_si (px_tr px_si (px_tr px_si (px_tr px_si px_si)))))) ?_ (fun i hi => ?_))⟩
  · unfold RN; simp only [gxs]; exact rn
  · simp only [gxs]
    match i, hi with
    | 0, _ => rfl
    | 1, _ => rfl
    | 2, _ => rfl
    | 3, _ => rfl
    | 4, _ => rfl
    | 5, _ => rfl
    | 6, _ => rfl
theorem lC_swap {K : Int32 → Mm → Prop} (c : CX M L P R S U) (h : K 1 (sr (sr M 10 6 (some S)) 10 7 (some R))) : CI mC_swap [.ref 10] M K :=
  call_of rfl (Nat.le_of_ble_eq_true rfl) rfl (vC_swap_0 rfl (cx6 c) c.2.1.2.2.2.1 h)
theorem lC_differ {w : Int32} {K : Int32 → Mm → Prop} (c : CX M L P R S U) (h : ∀ r N, CQ M N → K r N) : CI mC_differ [.ref 10, .int w] M K := by
  have n := fun r => h r M (cq_rf M)
  have hS : RA S := c.2.2.1.2.2.2.1
  have cB := cx_cq (cq_bgn M L R (gi M 10 9)) c
  refine call_of rfl (Nat.le_of_ble_eq_true rfl) rfl (vC_differ_0 (sC_isEither (fun _ _ => vC_differ_4 rfl ⟨fun q => absurd rfl q, fun _ => n _⟩) (fun _ => vC_differ_4 rfl ⟨fun _ => lC_weighNow c (vC_differ_13 rfl (cx11 cB) (eWe_casesOf (cxw c _) (cxL c) (cxR c) (fun N qN => ?_))), fun q => absurd q (by decide)⟩)))
  have cN := cx_cq (cqb qN) c
  refine vC_differ_21 rfl (cx11 cN) (eWe_casesOf (wh_gr (cxw c _) qN.1) (cxL c) (cxR c) (fun O qO => ?_))
  have q2 := cqb (wq_tr qN qO)
  have cO := cx_cq q2 c
  refine vC_differ_30 rfl (cx11 cO) (cx4 cO) cO.2.1.2.2.2.1 (sWe_begin (cxlr cO) (cxL c) hS ?_)
  have q3 := cq_tr q2 (cq_bgn O L S (gi O 10 9))
  have w3 : WH (bgn O L S (gi O 10 9)) L S := wh_bgn _ (cxlr cO) (cxL c) hS (cxg cO (5192, 3, 5261) (by decide))
  refine vC_differ_51 rfl (cx11 (cx_cq q3 c)) (eWe_casesOf w3 (cxL c) hS (fun V qV => ?_))
  have q4 := cq_tr q3 (cq_wq qV)
  refine vC_differ_60 rfl (cx11 (cx_cq q4 c)) (eWe_casesOf (wh_gr w3 qV.1) (cxL c) hS (fun W qW => vC_differ_71 (lC_manyOrLeast (fun _ => vC_differ_81 (h _ W (cq_tr q4 (cq_wq qW)))))))
theorem lC_tellsApart {m : Int32} {y n : Int64} {K : Int32 → Mm → Prop} (h : ∀ r, K r M) : CI mC_tellsApart [.int m, .long y, .long n] M K := by
  refine call_of rfl (Nat.le_of_ble_eq_true rfl) rfl (vC_tellsApart_0 ?_)
  refine lp 64 (P := fun k => ∀ u v, X mC_tellsApart 9 [(0, .int m), (1, .long y), (3, .long n), (5, .long u), (7, .long v), (9, .int (nI k))] [] M (mC mC_tellsApart, mS mC_tellsApart) (QI K)) (fun k hk ih u v => ?_) (fun u v => ?_) _ _
  · have nk := nge (c := 64) (i := k) (n := 64) rfl (by decide) hk
    refine vC_tellsApart_9 ⟨fun q => absurd q.1 nk, fun q => absurd q.1 nk, fun _ => ?_⟩
    rw [nI_s]; exact ih _ _
  · exact vC_tellsApart_9 ⟨fun _ => h _, fun _ => h _, fun q => absurd (nself rfl) q⟩
theorem lC_brief {w : Int32} {K : Int32 → Mm → Prop} (c : CX M L P R S U) (h : ∀ r N, CQ M N → K r N) : CI mC_brief [.ref 10, .int w] M K := by
  have n := fun r => h r M (cq_rf M)
  refine call_of rfl (Nat.le_of_ble_eq_true rfl) rfl (vC_brief_0 (sC_isEither (fun _ _ => vC_brief_4 rfl ⟨fun q => absurd rfl q, fun _ => n _⟩) (fun _ => vC_brief_4 rfl ⟨fun _ => lC_casesNow c (fun y N qN => vC_brief_14 rfl (lC_casesNow (cx_cq qN c) (fun z O qO => vC_brief_20 ?_))), fun q => absurd q (by decide)⟩)))
  have q := cq_tr qN qO
  refine lp 64 (P := fun k => ∀ x, X mC_brief 29 [(1, .int w), (2, .long y), (4, .long z), (6, .int x), (7, .int (nI k))] [] O (mC mC_brief, mS mC_brief) (QI K)) (fun k hk ih x => ?_) (fun x => ?_) _
  · have nk := nge (c := 64) (i := k) (n := 64) rfl (by decide) hk
    refine vC_brief_29 ⟨fun q => absurd q.1 nk, fun q => absurd q.1 nk, fun _ => sJi_bitCount (fun _ _ => vC_brief_41 (sJi_bitCount (fun _ _ => vC_brief_46 ⟨fun _ => ?_, fun _ => lC_tellsApart (fun _ => vC_brief_57 ⟨fun _ => ?_, fun _ => ?_⟩)⟩)))⟩
    · rw [nI_s]; exact ih _
    · rw [nI_s]; exact ih _
    · rw [nI_s]; exact ih _
  · exact vC_brief_29 ⟨fun _ => h _ O q, fun _ => sJi_bitCount (fun _ _ => vC_brief_79 (h _ O q)), fun q => absurd (nself rfl) q⟩
/-- sheets -/
def sa (e : Nat) : Nat := 5509 + 128 * e
theorem sag (c : CX M L P R S U) {e : Nat} (he : e < 4) : gr M 5459 (nI e).toNatClampNeg = some (sa e) ∧ gr M (sa e) 0 = some (5588 + 128 * e) ∧ sa e % 64 = 5 ∧ (5588 + 128 * e) % 64 = 20 := by
  rw [ncl (by omega)]
  match e, he with
  | 0, _ => exact ⟨cxg c (5459, 0, 5509) (by decide), cxg c (5509, 0, 5588) (by decide), rfl, rfl⟩
  | 1, _ => exact ⟨cxg c (5459, 1, 5637) (by decide), cxg c (5637, 0, 5716) (by decide), rfl, rfl⟩
  | 2, _ => exact ⟨cxg c (5459, 2, 5765) (by decide), cxg c (5765, 0, 5844) (by decide), rfl, rfl⟩
  | 3, _ => exact ⟨cxg c (5459, 3, 5893) (by decide), cxg c (5893, 0, 5972) (by decide), rfl, rfl⟩
theorem lC_sheet {k l n : Int32} {K : Int32 → Mm → Prop} (c : CX M L P R S U) (h0 : ((isS k && isL l) = false ∨ ¬ n ≤ 40) → K (-1) M) (h1 : (isS k && isL l) = true → n ≤ 40 → ¬ 0 ≤ n → K (-14) M) (h2 : ∀ e, e < 4 → k = nI e → isL l = true → n ≤ 40 → 0 ≤ n → K 1 (fl (si (si M (sa e) 1 l) (sa e) 2 n) (5588 + 128 * e) 40 0)) : CI mC_sheet [.ref 10, .int k, .int l, .int n] M K := by
  have g13 := cxg c (10, 13, 5459) (by decide)
  refine call_of rfl (Nat.le_of_ble_eq_true rfl) rfl (vC_sheet_0 (sC_isSheet (fun q => vC_sheet_4 ⟨fun _ => h0 (Or.inl ?_), fun q => absurd rfl q⟩) (fun e he ek => vC_sheet_4 ⟨fun q => absurd q (by decide), fun _ => sC_isLane (fun q => vC_sheet_11 rfl g13 ⟨fun _ => h0 (Or.inl ?_), fun q => absurd rfl q.1, fun q => absurd rfl q.1⟩) (fun q1 q2 => vC_sheet_11 rfl g13 ⟨fun q => h0 (Or.inr ?_), fun q => ?_, fun q => ?_⟩)⟩)))
  · rw [nS q, Bool.false_and]
  · rw [nL q, Bool.and_false]
  · rcases q with q | q
    · exact absurd q (by decide)
    · exact q.2
  · obtain ⟨s1, s2, s3, s4⟩ := sag c he
    have il : isL l = true := decide_eq_true ⟨q1, q2⟩
    have := h2 e he ek il q.2.1 q.2.2
    refine ⟨by rw [ek]; exact vin he (by decide), sa e, by rw [ek]; exact s1, call_of rfl (Nat.le_of_ble_eq_true rfl) rfl (vSh_renew_0 s3 s2 (sJr_fill s4 ak_20 (by decide) (vSh_renew_18 (vC_sheet_40 this))))⟩
  · refine h1 ?_ q.2.1 q.2.2
    have ie : isS k = true := by rw [ek]; exact decide_eq_true ⟨n0 e (by omega), nge rfl (by decide) he⟩
    rw [ie, show isL l = true from decide_eq_true ⟨q1, q2⟩]; rfl
theorem lC_lay {k i v : Int32} {K : Int32 → Mm → Prop} (c : CX M L P R S U) (hs : ∀ e, e < 4 → ∃ n, n ≤ 40 ∧ gi M (sa e) 2 = nI n) (h0 : isS k = false → K (-1) M) (h1 : ∀ e, e < 4 → k = nI e → gi M (sa e) 1 = -4 → K (-11) M) (h2 : ∀ e, e < 4 → k = nI e → ¬ gi M (sa e) 1 = -4 → (i < 0 ∨ gi M (sa e) 2 ≤ i) → K (-12) M) (h3 : ∀ e j n, e < 4 → k = nI e → i = nI j → n ≤ 40 → gi M (sa e) 2 = nI n → j < n → ¬ gi M (sa e) 1 = -4 → K 1 (si M (5588 + 128 * e) j (layv (gi M (sa e) 1) v))) : CI mC_lay [.ref 10, .int k, .int i, .int v] M K := by
  have g13 := cxg c (10, 13, 5459) (by decide)
  refine call_of rfl (Nat.le_of_ble_eq_true rfl) rfl (vC_lay_0 (sC_isSheet (fun q => vC_lay_4 rfl g13 ⟨fun q => absurd rfl q, fun _ => h0 (nS q)⟩) (fun e he ek => vC_lay_4 rfl g13 ⟨fun _ => ?_, fun q => absurd q (by decide)⟩)))
  obtain ⟨s1, s2, s3, s4⟩ := sag c he
  obtain ⟨n, hn, en⟩ := hs e he
  refine ⟨by rw [ek]; exact vin he (by decide), sa e, by rw [ek]; exact s1, call_of rfl (Nat.le_of_ble_eq_true rfl) rfl (vSh_isNothing_0 s3 (vC_lay_22 s3 ⟨fun q => ?_, fun q => ?_⟩))⟩
  · have n4 : ¬ gi M (sa e) 1 = -4 := fun z => by rw [if_pos z] at q; exact absurd q (by decide)
    refine call_of rfl (Nat.le_of_ble_eq_true rfl) rfl (vSh_hasCell_0 s3 ⟨fun p => vC_lay_34 s3 ⟨fun q => absurd rfl q, fun _ => h2 e he ek n4 (p.imp id (fun p => p.2))⟩, fun p => vC_lay_34 s3 ⟨fun _ => ?_, fun q => absurd q (by decide)⟩⟩)
    rw [en] at p
    obtain ⟨j, hj, ej⟩ := rng (n := n) rfl (by omega) p.1 p.2
    have := h3 e j n he ek ej hn en hj n4
    refine call_of rfl (Nat.le_of_ble_eq_true rfl) rfl (vSh_put_0 s3 s2 ⟨by rw [ej]; exact vin (by omega) (by decide), vC_lay_47 ?_⟩)
    rw [ej, ncl (by omega)]
    exact this
  · have n4 : gi M (sa e) 1 = -4 := by
      by_cases z : gi M (sa e) 1 = -4
      · exact z
      · rw [if_neg z] at q; exact absurd rfl q
    exact h1 e he ek n4
theorem lC_readCells {e : Nat} {f w : Int32} {n : Nat} {K : Int32 → Mm → Prop} (c : CX M L P R S U) (he : e < 4) (hn : n ≤ 40) (hs : ∃ z, z ≤ 40 ∧ gi M (sa e) 2 = nI z) (h : ∀ r N, CQ M N → K r N) : CI mC_readCells [.ref 10, .ref (sa e), .int f, .int (nI n), .int w] M K := by
  obtain ⟨z, hz, ez⟩ := hs
  refine call_of rfl (Nat.le_of_ble_eq_true rfl) rfl (vC_readCells_0 rfl (lC_weighNow c (vC_readCells_4 ?_)))
  have nsa : ¬ (sa e = 5192 ∨ sa e = 5261 ∨ sa e = 5392) := by unfold sa; omega
  refine lp n (P := fun i => ∀ x N, WQ (bgn M L R (gi M 10 9)) N → X mC_readCells 10 [(0, .ref 10), (1, .ref (sa e)), (2, .int f), (3, .int (nI n)), (4, .int w), (5, .int x), (6, .int (nI i))] [] N (mC mC_readCells, mS mC_readCells) (QI K)) (fun i hi ih x N qN => ?_) (fun x N qN => ?_) _ _ (wq_rf _)
  · have q := cqb qN
    have cN := cx_cq q c
    have k := h
    obtain ⟨s1, s2, s3, s4⟩ := sag cN he
    have eN : gi N (sa e) 2 = nI z := by rw [q.2.2 _ nsa]; exact ez
    refine vC_readCells_10 s3 ⟨fun p => absurd p (nge rfl (by omega) hi), fun _ => call_of rfl (Nat.le_of_ble_eq_true rfl) rfl (vSh_hasCell_0 s3 ⟨fun _ => vC_readCells_21 s3 ⟨fun _ => h _ N q, fun p => absurd rfl p⟩, fun _ => vC_readCells_21 s3 ⟨fun p => absurd p (by decide), fun _ => call_of rfl (Nat.le_of_ble_eq_true rfl) rfl (vSh_hasCell_0 s3 ⟨fun _ => vC_readCells_32 s3 s2 ⟨fun p => absurd rfl p, fun p => absurd rfl p, fun _ => h _ N q⟩, fun p => vC_readCells_32 s3 s2 ⟨fun _ => ?_, fun _ => sC_isCase (fun _ => vC_readCells_54 rfl (cx11 cN) ⟨fun p => absurd rfl p, fun _ => h _ N q⟩) (fun m hm em => vC_readCells_54 rfl (cx11 cN) ⟨fun _ => ?_, fun p => absurd p (by decide)⟩), fun p => absurd p (by decide)⟩⟩)⟩⟩)⟩
    · rw [eN] at p
      obtain ⟨j, hj, ej⟩ := rng (n := z) rfl (by omega) p.1 p.2
      rw [ej]; exact vin (by omega) (by decide)
    · rw [em]
      refine eWe_heldIn (wh_gr (cxw c _) qN.1) (cxL c) (cxR c) hm (fun O qO _ => vC_readCells_74 ?_)
      rw [nI_s]; exact ih _ _ (wq_tr qN qO)
  · obtain ⟨s1, s2, s3, s4⟩ := sag c he
    exact vC_readCells_10 s3 ⟨fun _ => h _ N (cqb qN), fun p => absurd (Int32.le_refl _) p⟩
theorem lC_read {k l f n w : Int32} {K : Int32 → Mm → Prop} (c : CX M L P R S U) (hs : ∀ e, e < 4 → ∃ n, n ≤ 40 ∧ gi M (sa e) 2 = nI n) (h : ∀ r N, CQ M N → K r N) : CI mC_read [.ref 10, .int k, .int l, .int f, .int n, .int w] M K := by
  have n' := fun r => h r M (cq_rf M)
  have g13 := cxg c (10, 13, 5459) (by decide)
  refine call_of rfl (Nat.le_of_ble_eq_true rfl) rfl (vC_read_0 (sC_isSheet (fun _ => vC_read_4 ⟨fun _ => n' _, fun q => absurd rfl q⟩) (fun e he ek => vC_read_4 ⟨fun q => absurd q (by decide), fun _ => sC_isLane (fun _ => vC_read_11 rfl g13 ⟨fun _ => n' _, fun q => absurd rfl q.1⟩) (fun _ _ => vC_read_11 rfl g13 ⟨fun _ => n' _, fun q => ?_⟩)⟩)))
  obtain ⟨s1, s2, s3, s4⟩ := sag c he
  obtain ⟨m, hm, em⟩ := rngL (c := 40) (n := 40) rfl (by decide) q.2.1 q.2.2.1
  have b97 : ∀ x, X mC_read 97 [] [.int x, .int n, .int f, .ref (sa e), .ref 10] M (mC mC_read, mS mC_read) (QI K) := by
    intro x
    rw [em]
    exact vC_read_97 rfl (lC_readCells c he (by omega) (hs e he) (fun r N qN => vC_read_100 (h r N qN)))
  exact ⟨by rw [ek]; exact vin he (by decide), sa e, by rw [ek]; exact s1, call_of rfl (Nat.le_of_ble_eq_true rfl) rfl (vSh_isNothing_0 s3 (vC_read_52 s3 ⟨fun _ => b97 _, fun _ => b97 _, fun _ => b97 _, fun _ => n' _, fun _ => n' _⟩))⟩
theorem lC_count {w : Int32} {K : Int32 → Mm → Prop} (c : CX M L P R S U) (h : ∀ r, K r M) : CI mC_count [.ref 10, .int w] M K := by
  have g13 := cxg c (10, 13, 5459) (by decide)
  obtain ⟨s1, s2, s3, s4⟩ := sag c (show 0 < 4 by decide)
  refine call_of rfl (Nat.le_of_ble_eq_true rfl) rfl (vC_count_0 rfl (cx4 c) (cxg c (10, 0, 70) (by decide)) g13 (lr2 (cxlr c)) ⟨fun _ => h _, fun _ => sJi_bitCount (fun _ _ => vC_count_54 (h _)), fun _ => sJi_bitCount (fun _ _ => vC_count_62 (h _)), fun _ => h _, fun _ => ⟨sa 0, s1, call_of rfl (Nat.le_of_ble_eq_true rfl) rfl (vSh_isNothing_0 s3 (vC_count_80 rfl g13 ⟨fun _ => ⟨sa 0, s1, h _⟩, fun _ => h _⟩))⟩, fun _ => ⟨fun q => ?_, fun _ => h _, fun _ => h _⟩⟩)
  obtain ⟨i, hi, e⟩ := rng (c := 18) (n := 18) rfl (by decide) (fun z => q.1 (Int32.lt_trans z (by decide))) q.2
  have q1 := q.1
  rw [e] at q1 ⊢
  rw [show (10 : Int32) = nI 10 from rfl, nlt (by decide) (by omega)] at q1
  rw [show (10 : Int32) = nI 10 from rfl, nsub (by omega)]
  exact vin (by omega) (by decide)
end CX2
