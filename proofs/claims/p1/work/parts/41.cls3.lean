theorem ym_fl {M : Mm} {a n : Nat} {v : Int32} (z : YM M) (h : rno yl a = true) : YM (fl M a n v) := by
  refine ⟨z.1, fun q hq k h1 h2 => ?_, z.2.2⟩
  have := List.all_eq_true.mp h q hq
  rw [gi_fl, if_neg (fun e => by simp [e.1] at this)]
  exact z.2.1 q hq k h1 h2
theorem bc0 : ∀ i, i < 64 → 0 ≤ bc32 (nI i) := by decide +kernel
theorem lus0 : ∀ c, c < 64 → ((lushr 0 (nI c)) &&& 1) = 0 := by decide +kernel
theorem cnt10 {w : Int32} (h1 : ¬ w < 10) (h2 : ¬ 18 ≤ w) : ∃ i, i < 8 ∧ w - 10 = nI i := by
  have h0 : ¬ w < 0 := fun q => h1 (Int32.lt_trans q (by decide))
  obtain ⟨j, hj, rfl⟩ := nI_of h0
  have a1 : ¬ j < 10 := fun q => h1 ((nlt (i := 10) (n := j) (by decide) hj).mpr q)
  have a2 : ¬ 18 ≤ j := fun q => h2 ((nle (i := j) (n := 18) hj (by decide)).mpr q)
  refine ⟨j - 10, by omega, ?_⟩
  show Int32.ofNat j - Int32.ofNat 10 = Int32.ofNat (j - 10)
  rw [Int32.ofNat_sub _ _ (by omega)]
section CLS3
variable {M : Mm}
theorem zC_bring {b : Int32} {K : Int32 → Mm → Prop} (z : ZM M) (h : ∀ N, YM N → K (fBring b) N) : CI mC_bring [.ref 10, .int b] M K := by
  refine call_of rfl (Nat.le_of_ble_eq_true rfl) rfl (vC_bring_0 rfl ⟨fun q => ?_, fun q => ?_⟩)
  · have hh := h M z.1
    rwa [fBring, if_neg (fun p => q.elim p.1 (fun q => q.2 p.2))] at hh
  · have hh := h (si M 10 9 b) (ym_si z.1 (rno_ok (by decide +kernel) _ _))
    rw [fBring, if_pos q] at hh
    rw [zf (v := 255) z (by decide +kernel)]; exact hh
theorem zC_copies {b n : Int32} {K : Int32 → Mm → Prop} (z : ZM M) (h : ∀ N, YM N → K (fCopies b n) N) : CI mC_copies [.ref 10, .int b, .int n] M K := by
  refine call_of rfl (Nat.le_of_ble_eq_true rfl) rfl (vC_copies_0 rfl (g10_4 z) (lr2 (z_lr z)) ⟨fun q => ?_, fun q => ?_, fun q => ?_⟩)
  · obtain ⟨i, hi, e⟩ := rng (c := 8) (n := 8) rfl (by decide) q.1 q.2.1
    rw [e]; exact vin hi (by decide)
  · have hh := h M z.1
    rw [fCopies, if_neg] at hh
    · exact hh
    · intro p
      rw [Bool.and_eq_true] at p
      have p1 := of_decide_eq_true p.1
      have p2 := of_decide_eq_true p.2
      rcases q with q | q | q | q
      · exact p1.1 q
      · exact p1.2 q.2
      · exact p2.1 q.2.2
      · exact q.2.2.2 p2.2
  · obtain ⟨i, hi, e⟩ := rng (c := 8) (n := 8) rfl (by decide) q.1 q.2.1
    have hh := h (si M (385 + 140) b.toNatClampNeg n) (ym_si z.1 (rno_ok (by decide +kernel) _ _))
    rw [fCopies, show isD b = true from decide_eq_true ⟨q.1, q.2.1⟩, show decide (¬ n < 0 ∧ n ≤ 9) = true from decide_eq_true q.2.2, if_pos (by decide)] at hh
    subst e
    have e2 : gi M (385 + 140) i = 2 := za z 8 (by decide +kernel) hi
    rw [ncl (by omega)] at hh ⊢
    rw [e2]
    exact ⟨vin hi (by decide), hh⟩
theorem zC_fewestBooks {c : Nat} {a : Int32} {K : Int32 → Mm → Prop} (z : ZM M) (hc : c < 64) (ha : a = 0 ∨ a = 1) (h : ∀ N, YM N → K (-1) N) : CI mC_fewestBooks [.ref 10, .int (nI c), .int a] M K := by
  refine call_of rfl (Nat.le_of_ble_eq_true rfl) rfl (vC_fewestBooks_0 rfl (g10_4 z) (g10_6 z) (zLi_tellingBooks z rfl (vC_fewestBooks_11 ?_)))
  have key := lp 256 (P := fun s => ∀ N, ZM N → X mC_fewestBooks 22 [(0, .ref 10), (1, .int (nI c)), (2, .int a), (3, .int 0), (4, .int (-1)), (5, .int 9), (6, .int (nI s))] [] N (mC mC_fewestBooks, mS mC_fewestBooks) (QI K)) (fun s hs ih N z => ?_) (fun N z => ?_)
  · exact key M z
  · have l : ¬ (255 : Int32) < nI s := fun q => by
      have := (nlt (i := s) (n := 255) (by omega) (by decide)).mp q
      omega
    refine vC_fewestBooks_22 ⟨fun q => absurd q l, fun _ => ?_, fun _ => sJi_bitCount (fun r hr => vC_fewestBooks_44 rfl (g10_11 z) (g10_4 z) (g10_6 z) ⟨fun _ => ?_, fun _ => zWe_begin z (Or.inl rfl) (fun N y => vC_fewestBooks_66 rfl (g10_11 y.1) (zWe_heldIn y hc (fun N y => vC_fewestBooks_74 ⟨fun _ => ?_, fun q => ?_⟩)))⟩)⟩
    · rw [nI_s]; exact ih N z
    · rw [nI_s]; exact ih N z
    · rw [nI_s]; exact ih N y.1.1
    · rcases ha with rfl | rfl <;> exact absurd q (by decide)
  · have l : (255 : Int32) < nI 256 := by decide
    exact vC_fewestBooks_22 ⟨fun _ => h N z.1, fun q => absurd l q.1, fun q => absurd l q.1⟩
theorem zC_argue {c a w : Int32} {K : Int32 → Mm → Prop} (z : ZM M) (h : ∀ N, YM N → K (fNear c a w) N) : CI mC_argue [.ref 10, .int c, .int a, .int w] M K := by
  refine call_of rfl (Nat.le_of_ble_eq_true rfl) rfl (vC_argue_0 (sC_isCase (fun q => ?_) (fun i hi e => ?_)))
  · refine vC_argue_4 ⟨fun _ => ?_, fun q => absurd rfl q⟩
    have hh := h M z.1
    rwa [fNear, nC q, Bool.false_and, if_neg (by decide)] at hh
  · subst e
    refine vC_argue_4 ⟨fun q => absurd q (by decide), fun _ => sC_isEither (fun q1 q2 => ?_) (fun qa => ?_)⟩
    · refine vC_argue_11 ⟨fun _ => ?_, fun q => absurd rfl q⟩
      have hh := h M z.1
      rwa [fNear, nE q1 q2, Bool.false_and, Bool.and_false, if_neg (by decide)] at hh
    · refine vC_argue_11 ⟨fun q => absurd q (by decide), fun _ => sC_isEither (fun q1 q2 => ?_) (fun qw => ?_)⟩
      · refine vC_argue_18 rfl ⟨fun q => absurd rfl q, fun _ => ?_⟩
        have hh := h M z.1
        rwa [fNear, nE q1 q2, Bool.and_false, Bool.and_false, if_neg (by decide)] at hh
      · rw [fNear, yC hi, yE qa, yE qw, if_pos (by decide)] at h
        refine vC_argue_18 rfl ⟨fun _ => zC_fewestBooks z hi qa (fun N y => vC_argue_29 ⟨fun q => absurd q.1 (by decide), fun q => absurd q.1 (by decide), fun _ => h N y⟩), fun q => absurd q (by decide)⟩
theorem zC_game {c a w : Int32} {K : Int32 → Mm → Prop} (z : ZM M) (h : ∀ N, YM N → K (fGame c a w) N) : CI mC_game [.ref 10, .int c, .int a, .int w] M K := by
  refine call_of rfl (Nat.le_of_ble_eq_true rfl) rfl (vC_game_0 (sC_isCase (fun q => ?_) (fun i hi e => ?_)))
  · refine vC_game_4 ⟨fun _ => ?_, fun q => absurd rfl q⟩
    have hh := h M z.1
    rwa [fGame, nC q, Bool.false_and, if_neg (by decide)] at hh
  · subst e
    refine vC_game_4 ⟨fun q => absurd q (by decide), fun _ => sC_isEither (fun q1 q2 => ?_) (fun qa => ?_)⟩
    · refine vC_game_11 ⟨fun _ => ?_, fun q => absurd rfl q⟩
      have hh := h M z.1
      rwa [fGame, nE q1 q2, Bool.false_and, Bool.and_false, if_neg (by decide)] at hh
    · refine vC_game_11 ⟨fun q => absurd q (by decide), fun _ => sC_isEither (fun q1 q2 => ?_) (fun qw => ?_)⟩
      · refine vC_game_18 rfl (g10_11 z) (g10_4 z) (g10_6 z) ⟨fun q => absurd rfl q, fun _ => ?_⟩
        have hh := h M z.1
        rwa [fGame, nE q1 q2, Bool.and_false, Bool.and_false, if_neg (by decide)] at hh
      · rw [fGame, yC hi, yE qa, yE qw, if_pos (by decide)] at h
        refine vC_game_18 rfl (g10_11 z) (g10_4 z) (g10_6 z) ⟨fun _ => zWe_begin z (Or.inl rfl) (fun N y => vC_game_40 rfl (g10_11 y.1) ⟨fun q => ?_, fun q => zWe_heldIn y hi (fun N y => vC_game_52 ?_)⟩), fun q => absurd q (by decide)⟩
        · have hh := h N y.1.1; rwa [if_neg q] at hh
        · have hh := h N y.1.1.1; rwa [if_pos q] at hh
theorem sRu_becomeAs {r s : Nat} {K : Mm → Prop} (k : r % 64 = 3) (k2 : s % 64 = 3) (z : YM M) (hr : rno yl r = true) (hs : r ≠ s) (hb : gi M s 2 = 0 ∨ gi M s 2 = 1) (h : ∀ N, YM N → K N) : CV mRu_becomeAs [.ref r, .ref s] M K := by
  refine call_of rfl (Nat.le_of_ble_eq_true rfl) rfl (vRu_becomeAs_0 k2 k ⟨?_, ?_⟩)
  · rw [giR _ _ _ _ _ _ hs.symm, giR _ _ _ _ _ _ hs.symm]; exact hb
  · exact h _ (ym_si (ym_si (ym_si (ym_si (ym_si (ym_si (ym_si z (rno_ok hr _ _)) (rno_ok hr _ _)) (rno_ok hr _ _)) (rno_ok hr _ _)) (rno_ok hr _ _)) (rno_ok hr _ _)) (rno_ok hr _ _))
theorem zC_keep {K : Int32 → Mm → Prop} (z : ZM M) (h : ∀ N, YM N → K 1 N) : CI mC_keep [.ref 10] M K :=
  call_of rfl (Nat.le_of_ble_eq_true rfl) rfl (vC_keep_0 rfl (g10_7 z) (g10_6 z) (sRu_becomeAs rfl rfl z.1 (by decide +kernel) (by decide) (Or.inl (zf z (by decide +kernel))) (fun N y => vC_keep_11 (h N y))))
theorem zC_swap {K : Int32 → Mm → Prop} (z : ZM M) (h : ∀ N, YM N → K 1 N) : CI mC_swap [.ref 10] M K :=
  call_of rfl (Nat.le_of_ble_eq_true rfl) rfl (vC_swap_0 rfl (g10_6 z) (g10_7 z) (h _ (ym_sr (ym_sr z.1 (by decide)) (by decide))))
theorem zC_differ {w : Int32} {K : Int32 → Mm → Prop} (z : ZM M) (h : ∀ N, YM N → K (fDiffer w) N) : CI mC_differ [.ref 10, .int w] M K := by
  refine call_of rfl (Nat.le_of_ble_eq_true rfl) rfl (vC_differ_0 (sC_isEither (fun q1 q2 => ?_) (fun q => ?_)))
  · refine vC_differ_4 rfl ⟨fun q => absurd rfl q, fun _ => ?_⟩
    have hh := h M z.1
    rwa [fDiffer, nE q1 q2, if_neg (by decide)] at hh
  · rw [fDiffer, yE q, if_pos rfl] at h
    refine vC_differ_4 rfl ⟨fun _ => zC_weighNow z (fun N y => ?_), fun q => absurd q (by decide)⟩
    refine vC_differ_13 rfl (g10_11 y.1) (zWe_casesOf y (fun N y => ?_))
    refine vC_differ_21 rfl (g10_11 y.1) (zWe_casesOf y (fun N y => ?_))
    refine vC_differ_30 rfl (g10_11 y.1) (g10_4 y.1) (g10_7 y.1) (zWe_begin y.1 (Or.inr rfl) (fun N y => ?_))
    refine vC_differ_51 rfl (g10_11 y.1) (zWe_casesOf y (fun N y => ?_))
    refine vC_differ_60 rfl (g10_11 y.1) (zWe_casesOf y (fun N y => ?_))
    refine vC_differ_71 ?_
    exact zC_manyOrLeast0 (vC_differ_81 (h N y.1.1))
theorem zC_tellsApart {m : Int32} {K : Int32 → Mm → Prop} (h : K 1 M) : CI mC_tellsApart [.int m, .long 0, .long 0] M K := by
  refine call_of rfl (Nat.le_of_ble_eq_true rfl) rfl (vC_tellsApart_0 ?_)
  have key := lp 64 (P := fun c => X mC_tellsApart 9 [(0, .int m), (1, .long 0), (3, .long 0), (5, .long 0), (7, .long 0), (9, .int (nI c))] [] M (mC mC_tellsApart, mS mC_tellsApart) (QI K)) (fun c hc ih => ?_) ?_
  · exact key
  · refine vC_tellsApart_9 ⟨fun q => absurd q.1 (nge rfl (by decide) hc), fun q => absurd q.1 (nge rfl (by decide) hc), fun _ => ?_⟩
    rw [lus0 c hc, if_neg (by decide), nI_s]
    exact ih
  · exact vC_tellsApart_9 ⟨fun q => absurd (by decide) q.2, fun _ => h, fun q => absurd (nself rfl) q⟩
theorem zC_brief {w : Int32} {K : Int32 → Mm → Prop} (z : ZM M) (h : ∀ N, YM N → K (fBrief w) N) : CI mC_brief [.ref 10, .int w] M K := by
  refine call_of rfl (Nat.le_of_ble_eq_true rfl) rfl (vC_brief_0 (sC_isEither (fun q1 q2 => ?_) (fun q => ?_)))
  · refine vC_brief_4 rfl ⟨fun q => absurd rfl q, fun _ => ?_⟩
    have hh := h M z.1
    rwa [fBrief, nE q1 q2, if_neg (by decide)] at hh
  · rw [fBrief, yE q, if_pos rfl] at h
    refine vC_brief_4 rfl ⟨fun _ => zC_casesNow z (fun N y => vC_brief_14 rfl (zC_casesNow y.1 (fun N y => vC_brief_20 ?_))), fun q => absurd q (by decide)⟩
    have key := lp 63 (P := fun m => X mC_brief 29 [(1, .int w), (2, .long 0), (4, .long 0), (6, .int 0), (7, .int (nI (m + 1)))] [] N (mC mC_brief, mS mC_brief) (QI K)) (fun m hm ih => ?_) ?_
    · refine vC_brief_29 ⟨fun q => absurd q.1 (by decide), fun q => absurd q.1 (by decide), fun _ => sJi_bitCount (fun r hr => vC_brief_41 (sJi_bitCount (fun r2 hr2 => vC_brief_46 ⟨fun q => ?_, fun _ => zC_tellsApart (vC_brief_57 ⟨fun q => absurd q (by decide), fun _ => key⟩)⟩)))⟩
      rw [hr, hr2] at q
      exact absurd q (by decide +kernel)
    · refine vC_brief_29 ⟨fun q => absurd q.1 (nge (n := 64) rfl (by decide) (by omega)), fun q => absurd q.1 (nge (n := 64) rfl (by decide) (by omega)), fun _ => sJi_bitCount (fun r hr => vC_brief_41 (sJi_bitCount (fun r2 hr2 => vC_brief_46 ⟨fun _ => ?_, fun q => ?_⟩)))⟩
      · rw [nI_s]; exact ih
      · rw [hr, hr2, show bc32 0 = 0 from by decide +kernel] at q
        exact absurd (bc0 (m + 1) (by omega)) q
    · refine vC_brief_29 ⟨fun _ => h N y.1.1, fun _ => sJi_bitCount (fun r hr => vC_brief_79 ?_), fun q => absurd (nself rfl) q⟩
      rw [hr, show bc32 0 = 0 from by decide +kernel]; exact h N y.1.1
theorem zsh {i : Nat} (z : ZM M) (hi : i < 4) : gr M 5459 (nI i).toNatClampNeg = some (5509 + 128 * i) ∧ gi M (5509 + 128 * i) 1 = -4 ∧ gi M (5509 + 128 * i) 2 = 0 ∧ gr M (5509 + 128 * i) 0 = some (5588 + 128 * i) := by
  rw [ncl (by omega)]
  match i, hi with
  | 0, _ => exact ⟨zgr z (by decide +kernel), zf z (by decide +kernel), zf z (by decide +kernel), zgr z (by decide +kernel)⟩
  | 1, _ => exact ⟨zgr z (by decide +kernel), zf z (by decide +kernel), zf z (by decide +kernel), zgr z (by decide +kernel)⟩
  | 2, _ => exact ⟨zgr z (by decide +kernel), zf z (by decide +kernel), zf z (by decide +kernel), zgr z (by decide +kernel)⟩
  | 3, _ => exact ⟨zgr z (by decide +kernel), zf z (by decide +kernel), zf z (by decide +kernel), zgr z (by decide +kernel)⟩
theorem rsh {i : Nat} (hi : i < 4) : rno yl (5509 + 128 * i) = true ∧ rno yl (5588 + 128 * i) = true ∧ (5509 + 128 * i) % 64 = 5 ∧ (5588 + 128 * i) % 64 = 20 := by
  match i, hi with
  | 0, _ => decide +kernel
  | 1, _ => decide +kernel
  | 2, _ => decide +kernel
  | 3, _ => decide +kernel
theorem zC_sheet {k l n : Int32} {K : Int32 → Mm → Prop} (z : ZM M) (h : ∀ N, YM N → K (fSheet k l n) N) : CI mC_sheet [.ref 10, .int k, .int l, .int n] M K := by
  refine call_of rfl (Nat.le_of_ble_eq_true rfl) rfl (vC_sheet_0 (sC_isSheet (fun q => ?_) (fun i hi e => ?_)))
  · refine vC_sheet_4 ⟨fun _ => ?_, fun q => absurd rfl q⟩
    have hh := h M z.1
    rwa [fSheet, nS q, Bool.false_and, if_neg (by decide)] at hh
  · subst e
    refine vC_sheet_4 ⟨fun q => absurd q (by decide), fun _ => sC_isLane (fun q => ?_) (fun q1 q2 => ?_)⟩
    · refine vC_sheet_11 rfl (g10_13 z) ⟨fun _ => ?_, fun q => absurd rfl q.1, fun q => absurd rfl q.1⟩
      have hh := h M z.1
      rwa [fSheet, nL q, Bool.false_and, Bool.and_false, if_neg (by decide)] at hh
    · obtain ⟨s1, s2, s3, s4⟩ := zsh z hi
      obtain ⟨t1, t2, t3, t4⟩ := rsh hi
      refine vC_sheet_11 rfl (g10_13 z) ⟨fun q => ?_, fun q => ⟨vin hi (by decide), _, s1, ?_⟩, fun q => ?_⟩
      · have hh := h M z.1
        have ed : decide (n ≤ 40) = false := decide_eq_false (fun p => by
          rcases q with q | q
          · exact absurd q (by decide)
          · exact q.2 p)
        rwa [fSheet, ed, Bool.and_false, Bool.and_false, if_neg (by decide)] at hh
      · rw [fSheet, yS hi, yL q1 q2, show decide (n ≤ 40) = true from decide_eq_true q.2.1, if_pos (by decide), if_pos q.2.2] at h
        refine call_of rfl (Nat.le_of_ble_eq_true rfl) rfl (vSh_renew_0 t3 s4 (sJr_fill t4 ak_20 (by decide) (vSh_renew_18 (vC_sheet_40 (h _ ?_)))))
        exact ym_fl (ym_si (ym_si z.1 (rno_ok t1 _ _)) (rno_ok t1 _ _)) t2
      · rw [fSheet, yS hi, yL q1 q2, show decide (n ≤ 40) = true from decide_eq_true q.2.1, if_pos (by decide), if_neg q.2.2] at h
        exact h M z.1
theorem zSh_isNothing {i : Nat} {K : Int32 → Mm → Prop} (z : ZM M) (hi : i < 4) (h : K 1 M) : CI mSh_isNothing [.ref (5509 + 128 * i)] M K := by
  refine call_of rfl (Nat.le_of_ble_eq_true rfl) rfl (vSh_isNothing_0 (rsh hi).2.2.1 ?_)
  rw [(zsh z hi).2.1, if_pos rfl]; exact h
theorem zC_lay {k i v : Int32} {K : Int32 → Mm → Prop} (z : ZM M) (h : ∀ N, YM N → K (fLay k) N) : CI mC_lay [.ref 10, .int k, .int i, .int v] M K := by
  have hh := h M z.1
  refine call_of rfl (Nat.le_of_ble_eq_true rfl) rfl (vC_lay_0 (sC_isSheet (fun q => ?_) (fun j hj e => ?_)))
  · refine vC_lay_4 rfl (g10_13 z) ⟨fun q => absurd rfl q, fun _ => ?_⟩
    rwa [fLay, nS q, if_neg (by decide)] at hh
  · subst e
    rw [fLay, yS hj, if_pos rfl] at hh
    exact vC_lay_4 rfl (g10_13 z) ⟨fun _ => ⟨vin hj (by decide), _, (zsh z hj).1, zSh_isNothing z hj (vC_lay_22 (rsh hj).2.2.1 ⟨fun q => absurd q (by decide), fun _ => hh⟩)⟩, fun q => absurd q (by decide)⟩
theorem zC_read {k l f n w : Int32} {K : Int32 → Mm → Prop} (z : ZM M) (h : ∀ N, YM N → K (fRead k l n w) N) : CI mC_read [.ref 10, .int k, .int l, .int f, .int n, .int w] M K := by
  have hh := h M z.1
  refine call_of rfl (Nat.le_of_ble_eq_true rfl) rfl (vC_read_0 (sC_isSheet (fun q => ?_) (fun j hj e => ?_)))
  · refine vC_read_4 ⟨fun _ => ?_, fun q => absurd rfl q⟩
    rwa [fRead, nS q, Bool.false_and, if_neg (by decide)] at hh
  · subst e
    refine vC_read_4 ⟨fun q => absurd q (by decide), fun _ => sC_isLane (fun q => ?_) (fun q1 q2 => ?_)⟩
    · refine vC_read_11 rfl (g10_13 z) ⟨fun _ => ?_, fun q => absurd rfl q.1⟩
      rwa [fRead, nL q, Bool.false_and, Bool.and_false, if_neg (by decide)] at hh
    · refine vC_read_11 rfl (g10_13 z) ⟨fun q => ?_, fun q => ⟨vin hj (by decide), _, (zsh z hj).1, zSh_isNothing z hj (vC_read_52 (rsh hj).2.2.1 ⟨fun q => absurd q.1 (by decide), fun q => absurd q.1 (by decide), fun q => absurd q.1 (by decide), fun q => absurd q.1 (by decide), fun _ => ?_⟩)⟩⟩
      · have ed : decide (¬ n < 0 ∧ ¬ 40 < n ∧ ¬ w < 0 ∧ w ≤ 2) = false := decide_eq_false (fun p => by
          rcases q with q | q | q | q | q
          · exact absurd q (by decide)
          · exact p.1 q.2
          · exact p.2.1 q.2.2
          · exact p.2.2.1 q.2.2.2
          · exact q.2.2.2.2 p.2.2.2)
        rwa [fRead, ed, Bool.and_false, Bool.and_false, if_neg (by decide)] at hh
      · rwa [fRead, yS hj, yL q1 q2, show decide (¬ n < 0 ∧ ¬ 40 < n ∧ ¬ w < 0 ∧ w ≤ 2) = true from decide_eq_true q.2, if_pos (by decide)] at hh
theorem zC_count {w : Int32} {K : Int32 → Mm → Prop} (z : ZM M) (h : ∀ N, YM N → K (fCount w) N) : CI mC_count [.ref 10, .int w] M K := by
  have hh := h M z.1
  refine call_of rfl (Nat.le_of_ble_eq_true rfl) rfl (vC_count_0 rfl (g10_4 z) (g10_0 z) (g10_13 z) (lr2 (z_lr z)) ⟨fun q => ?_, fun q => sJi_bitCount (fun r hr => vC_count_54 ?_), fun q => sJi_bitCount (fun r hr => vC_count_62 ?_), fun q => ?_, fun q => ⟨_, (zsh (i := 0) z (by decide)).1, zSh_isNothing (i := 0) z (by decide) (vC_count_80 rfl (g10_13 z) ⟨fun q => absurd q (by decide), fun _ => ?_⟩)⟩, fun q => ⟨fun p => ?_, fun p => ?_, fun p => ?_⟩⟩)
  · subst q; rw [zf (v := 0) z (by decide +kernel)]; exact hh
  · subst q; rw [hr, zf (v := 0) z (by decide +kernel), show bc32 0 = 0 from by decide +kernel]; exact hh
  · subst q; rw [hr, zf (v := 255) z (by decide +kernel), show bc32 255 = 8 from by decide +kernel]; exact hh
  · subst q; rw [zf (v := 0) z (by decide +kernel)]; exact hh
  · subst q; exact hh
  · obtain ⟨i, hi, e⟩ := cnt10 p.1 p.2
    rw [e]; exact vin hi (by decide)
  · rwa [fCount, if_neg q.1, if_neg q.2.1, if_neg q.2.2.1, if_neg q.2.2.2.1, if_neg q.2.2.2.2, if_neg (fun r => p.elim r.1 (fun p => r.2 p.2))] at hh
  · rw [fCount, if_neg q.1, if_neg q.2.1, if_neg q.2.2.1, if_neg q.2.2.2.1, if_neg q.2.2.2.2, if_pos p] at hh
    obtain ⟨i, hi, e⟩ := cnt10 p.1 p.2
    have e2 : gi M (385 + 140) i = 2 := za z 8 (by decide +kernel) hi
    rw [e, ncl (by omega), e2]; exact hh
end CLS3
