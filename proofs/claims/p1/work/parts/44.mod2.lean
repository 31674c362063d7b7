section MOD2
variable {M : Mm} {K : Int32 → Mm → Prop}
theorem xM_isWord {w : Int32} {K : Int32 → Mm → Prop} (z : XM M) (h : K 0 M) : CI mM_isWord [.ref 6027, .int w] M K := by
  refine call_of rfl (Nat.le_of_ble_eq_true rfl) rfl (vM_isWord_0 rfl ?_)
  rw [xf (v := 0) z (by decide +kernel)]
  refine sM_in (l := 0) (m := 0 - 1) rfl rfl (fun _ => vM_isWord_13 ⟨rfl, h⟩) (fun q1 q2 => ?_)
  obtain ⟨i, hi, rfl⟩ := nI_of q1
  refine absurd ?_ q2
  exact Int32.lt_of_lt_of_le (by decide) (Int32.zero_le_ofNat_of_lt hi)
theorem yM_feed {v : Int64} {K : Int32 → Mm → Prop} (y : YM M) (h : ∀ N, K 8 N) : CI mM_feed [.ref 6027, .long v] M K := by
  have e : gi M 6027 11 = 0 := yf y (by decide +kernel)
  refine call_of rfl (Nat.le_of_ble_eq_true rfl) rfl (vM_feed_0 rfl ⟨fun _ => ?_, fun q => absurd (by rw [e]; decide) q⟩)
  have key := lp 8 (P := fun i => ∀ N, MR N → gi N 6027 11 = nI i → X mM_feed 19 [(0, .ref 6027), (1, .long v), (3, .int (56 - 8 * nI i))] [] N (mC mM_feed, mS mM_feed) (QI K)) (fun i hi ih N hm e => ?_) (fun N hm e => ?_)
  · exact key M y.1 e
  · have n8 : ∀ i, i < 8 → ¬ (56 - 8 * nI i) < 0 ∧ (56 - 8 * nI i) + (-8) = 56 - 8 * nI (i + 1) := by decide +kernel
    refine vM_feed_19 rfl (mr10 hm) ⟨fun q => absurd q (n8 i hi).1, fun _ => ⟨by rw [e]; exact vin (by omega) (by decide), ?_⟩⟩
    rw [(n8 i hi).2]
    refine ih _ hm ?_
    rw [gi_si, if_pos ⟨rfl, rfl⟩, giR _ _ _ _ _ _ (by decide), e, nI_s]
  · refine vM_feed_19 rfl (mr10 hm) ⟨fun _ => ?_, fun q => absurd (by decide +kernel) q⟩
    rw [e]; exact h N
theorem yM_end {n : Int32} {K : Int32 → Mm → Prop} (y : YM M) (h : ∀ N, K (fEnd n) N) : CI mM_end [.ref 6027, .int n] M K := by
  have e : gi M 6027 11 = 0 := yf y (by decide +kernel)
  refine call_of rfl (Nat.le_of_ble_eq_true rfl) rfl (vM_end_0 rfl ?_)
  rw [e]
  refine sM_in (l := 0) (m := 0) rfl rfl (fun q => vM_end_11 rfl ⟨fun q => absurd rfl q, fun _ => ?_⟩) (fun q1 q2 => vM_end_11 rfl ⟨fun _ => ?_, fun q => absurd q (by decide)⟩)
  · have hh := h M
    rwa [fEnd, if_neg (fun p => q.elim p.1 (fun q => absurd p.2 (Int32.not_le.mpr q)))] at hh
  · rw [e]
    have hh := h (si M 6027 11 n)
    rwa [fEnd, if_pos ⟨q1, Int32.not_lt.mp q2⟩] at hh
theorem yM_look {p : Int32} {K : Int32 → Mm → Prop} (hm : MR M) (e : gi M 6027 11 = 0) (hp : 0 ≤ p) (h : K (-1) M) : CI mM_look [.ref 6027, .int p] M K := by
  refine call_of rfl (Nat.le_of_ble_eq_true rfl) rfl (vM_look_0 rfl (mr10 hm) ⟨fun q => absurd (by rw [e]; exact hp) q, ?_⟩)
  rw [e, if_pos hp]; exact h
theorem yM_next {K : Mm → Prop} (hm : MR M) (e : gi M 6027 11 = 0) (e2 : gi M 6027 16 = 0) (e3 : gi M 6027 12 = 0) (h : K (si (si M 6027 13 0) 6027 14 0)) : CV mM_next [.ref 6027] M K := by
  refine call_of rfl (Nat.le_of_ble_eq_true rfl) rfl (vM_next_0 rfl ⟨fun _ => vM_next_8 rfl ?_, fun q => absurd (by rw [e2]; decide) q⟩)
  rw [e3]
  refine yM_look hm e (by decide) (vM_next_16 rfl ⟨fun _ => ?_, fun q => absurd q (by decide)⟩)
  rw [e3, gi_si, if_neg (by decide), e3]
  refine yM_look (M := si M 6027 13 0) hm (by rw [gi_si, if_neg (by decide), e]) (by decide) (vM_next_50 rfl ⟨fun q => absurd q (by decide), fun _ => h⟩)
theorem yM_library {K : Int32 → Mm → Prop} (y : YM M) (h : ∀ N, K 0 N) : CI mM_library [.ref 6027] M K := by
  have e : gi M 6027 11 = 0 := yf y (by decide +kernel)
  refine call_of rfl (Nat.le_of_ble_eq_true rfl) rfl (vM_library_0 rfl (sM_firstLibrary (M := si (si M 6027 16 0) 6027 12 0) y.1 (vM_library_16 rfl ?_)))
  have g : ∀ j, gi (fb0 (si (si M 6027 16 0) 6027 12 0)) 6027 j = if j = 8 then 0 else if j = 3 then 0 else if j = 12 then 0 else if j = 16 then 0 else gi M 6027 j := by
    intro j
    unfold fb0
    rw [flR _ _ _ _ _ _ (by decide), flR _ _ _ _ _ _ (by decide)]
    simp only [gi_si, true_and]
  have hm2 : MR (fb0 (si (si M 6027 16 0) 6027 12 0)) := mr_w y.1 (by rw [gr_fb0, gr_si, gr_si])
  generalize fb0 (si (si M 6027 16 0) 6027 12 0) = N at g hm2
  refine yM_next hm2 (by rw [g]; simpa using e) (by rw [g]; simp) (by rw [g]; simp) ?_
  have g2 : ∀ j, gi (si (si N 6027 13 0) 6027 14 0) 6027 j = if j = 14 then 0 else if j = 13 then 0 else gi N 6027 j := by
    intro j; simp only [gi_si, true_and]
  have hm3 : MR (si (si N 6027 13 0) 6027 14 0) := hm2
  generalize si (si N 6027 13 0) 6027 14 0 = N2 at g2 hm3
  refine vM_library_20 rfl ⟨fun _ => ?_, fun q => absurd (by rw [g2]; simp) q.2⟩
  have e3 : gi N2 6027 3 = 0 := by rw [g2]; simp [g]
  have e16 : gi N2 6027 16 = 0 := by rw [g2]; simp [g]
  refine call_of rfl (Nat.le_of_ble_eq_true rfl) rfl (vM_checks_0 (vM_checks_2 rfl (mr4 hm3) (mr7 hm3) ⟨fun q => absurd (by rw [e3]; decide) q.1, fun _ => ?_, fun q => absurd (by rw [e3]; decide) q.1⟩))
  refine vM_library_48 rfl ⟨fun _ => sM_keepLibrary0 (M := si N2 6027 11 0) hm3 (by rw [gi_si, if_neg (by decide), e3]) (vM_library_72 (h _)), fun q => absurd (by rw [gi_si, if_neg (by decide), e16]; decide) q⟩
theorem yM_rule {K : Int32 → Mm → Prop} (y : YM M) (h : ∀ N, K 0 N) : CI mM_rule [.ref 6027] M K := by
  have e : gi M 6027 11 = 0 := yf y (by decide +kernel)
  refine call_of rfl (Nat.le_of_ble_eq_true rfl) rfl (vM_rule_0 rfl (sM_firstRule (M := si (si M 6027 16 0) 6027 12 0) y.1 (vM_rule_16 rfl ?_)))
  have g : ∀ j, gi (fu0 (si (si M 6027 16 0) 6027 12 0)) 6027 j = if j = 12 then 0 else if j = 16 then 0 else gi M 6027 j := by
    intro j
    unfold fu0
    rw [rwmR _ _ _ _ _ _ (by decide), flR _ _ _ _ _ _ (by decide)]
    simp only [gi_si, true_and]
  have hm2 : MR (fu0 (si (si M 6027 16 0) 6027 12 0)) := mr_w y.1 (by rw [gr_fu0, gr_si, gr_si])
  generalize fu0 (si (si M 6027 16 0) 6027 12 0) = N at g hm2
  refine yM_next hm2 (by rw [g]; simpa using e) (by rw [g]; simp) (by rw [g]; simp) ?_
  have g2 : ∀ j, gi (si (si N 6027 13 0) 6027 14 0) 6027 j = if j = 14 then 0 else if j = 13 then 0 else gi N 6027 j := by
    intro j; simp only [gi_si, true_and]
  have hm3 : MR (si (si N 6027 13 0) 6027 14 0) := hm2
  generalize si (si N 6027 13 0) 6027 14 0 = N2 at g2 hm3
  have e16 : gi N2 6027 16 = 0 := by rw [g2]; simp [g]
  refine vM_rule_20 rfl ⟨fun _ => ⟨fun _ => ?_, fun q => absurd (by rw [gi_si, if_neg (by decide), e16]; decide) q⟩, fun q => absurd (by rw [g2]; simp) q.2⟩
  have hm4 : MR (si N2 6027 11 0) := hm3
  generalize si N2 6027 11 0 = N3 at hm4
  have key := lp 7 (P := fun i => ∀ N, MR N → X mM_rule 66 [(0, .ref 6027), (1, .int 0), (2, .int (nI i))] [] N (mC mM_rule, mS mM_rule) (QI K)) (fun i hi ih N hm => ?_) (fun N hm => ?_)
  · exact key N3 hm4
  · refine vM_rule_66 rfl (mr18 hm) (mr20 hm) ⟨fun _ => vin hi (by decide), fun q => absurd q (nge rfl (by decide) hi), fun _ => ⟨vin hi (by decide), ?_⟩⟩
    rw [nI_s]; exact ih _ hm
  · exact vM_rule_66 rfl (mr18 hm) (mr20 hm) ⟨fun q => absurd (nself rfl) q, fun _ => h N, fun q => absurd (nself rfl) q⟩
theorem yM_fault {K : Int32 → Mm → Prop} (y : YM M) (h : ∀ N, K 0 N) : CI mM_fault [.ref 6027] M K := by
  refine call_of rfl (Nat.le_of_ble_eq_true rfl) rfl (vM_fault_0 rfl ?_)
  rw [yf (v := 0) y (by decide +kernel)]; exact h M
theorem yM_weighs {w : Int32} {K : Int32 → Mm → Prop} (y : YM M) (h : ∀ N, K (fWeighs w) N) : CI mM_weighs [.ref 6027, .int w] M K := by
  refine call_of rfl (Nat.le_of_ble_eq_true rfl) rfl (vM_weighs_0 (sM_in (l := 0) (m := 6) rfl rfl (fun q => vM_weighs_9 rfl (mr18 y.1) ⟨fun q => absurd rfl q, ?_⟩) (fun q1 q2 => ?_)))
  · rw [if_pos rfl]
    have hh := h M
    have no : ∀ k, k < 7 → ¬ w = nI k := by
      intro k hk e
      subst e
      rcases q with q | q
      · exact n0 k (by omega) q
      · have := (nlt (i := k) (n := 6) (by omega) (by decide)).mp q; omega
    rwa [fWeighs, if_neg (show ¬ w = 0 from no 0 (by decide)), if_neg (show ¬ w = 1 from no 1 (by decide)), if_neg (show ¬ w = 2 from no 2 (by decide)), if_neg (show ¬ w = 3 from no 3 (by decide)), if_neg (show ¬ w = 4 from no 4 (by decide)), if_neg (show ¬ w = 5 from no 5 (by decide)), if_neg (show ¬ w = 6 from no 6 (by decide))] at hh
  · obtain ⟨i, hi, rfl⟩ := rngL (c := 6) (n := 6) rfl (by decide) q1 q2
    refine vM_weighs_9 rfl (mr18 y.1) ⟨fun _ => vin hi (by decide), ?_⟩
    rw [if_neg (by decide), ncl (by omega)]
    have e1 : ∀ j, j < 7 → rin yl 6543 j (dv j) = true := by decide +kernel
    have e2 : ∀ j, j < 7 → fWeighs (nI j) = dv j := by decide +kernel
    rw [yf y (e1 i hi), ← e2 i hi]; exact h M
theorem yM_word {w c : Int32} {K : Int32 → Mm → Prop} (y : YM M) (h : ∀ N, K (-1) N) : CI mM_word [.ref 6027, .int w, .int c] M K :=
  call_of rfl (Nat.le_of_ble_eq_true rfl) rfl (vM_word_0 rfl (xM_isWord (y_x y) (vM_word_5 ⟨fun _ => h M, fun q => absurd rfl q⟩)))
theorem yM_says {w c : Int32} {K : Int32 → Mm → Prop} (y : YM M) (h : ∀ N, K (-1) N) : CI mM_says [.ref 6027, .int w, .int c] M K :=
  call_of rfl (Nat.le_of_ble_eq_true rfl) rfl (vM_says_0 rfl (xM_isWord (y_x y) (vM_says_5 ⟨fun _ => h M, fun q => absurd rfl q⟩)))
theorem yM_steps {w : Int32} {K : Int32 → Mm → Prop} (y : YM M) (h : ∀ N, K (-1) N) : CI mM_steps [.ref 6027, .int w] M K :=
  call_of rfl (Nat.le_of_ble_eq_true rfl) rfl (vM_steps_0 rfl (xM_isWord (y_x y) (vM_steps_5 rfl ⟨fun q => absurd rfl q, fun _ => h M⟩)))
theorem inW {w : Int32} {K : Int32 → Mm → Prop} (h0 : (¬ w = 0 ∧ ¬ w = 1 ∧ ¬ w = 2) → K 0 M) (h1 : (w = 0 ∨ w = 1 ∨ w = 2) → K 1 M) : CI mM_in [.long w.toInt64, .long 0, .long 2] M K := by
  refine sM_in (l := 0) (m := 2) rfl rfl (fun q => h0 ⟨?_, ?_, ?_⟩) (fun q1 q2 => h1 ?_)
  · rintro rfl; exact absurd q (by decide)
  · rintro rfl; exact absurd q (by decide)
  · rintro rfl; exact absurd q (by decide)
  · obtain ⟨i, hi, rfl⟩ := rngL (c := 2) (n := 2) rfl (by decide) q1 q2
    match i, hi with
    | 0, _ => exact Or.inl rfl
    | 1, _ => exact Or.inr (Or.inl rfl)
    | 2, _ => exact Or.inr (Or.inr rfl)
theorem yM_words {w : Int32} {K : Int32 → Mm → Prop} (y : YM M) (h : ∀ N, K (fWords w) N) : CI mM_words [.ref 6027, .int w] M K := by
  have hh := h M
  refine call_of rfl (Nat.le_of_ble_eq_true rfl) rfl (vM_words_0 (inW (fun q => vM_words_9 ⟨fun q => absurd rfl q, fun _ => ?_⟩) (fun q => vM_words_9 ⟨fun _ => ?_, fun q => absurd q (by decide)⟩)))
  · rwa [fWords, if_neg q.1, if_neg q.2.1, if_neg q.2.2] at hh
  · have e0 := x0 (y_x y)
    refine vM_words_18 rfl ⟨fun p => ?_, fun p => ?_, fun p => ?_, fun p => absurd e0 p⟩
    · rcases q with rfl | rfl | rfl
      · exact absurd rfl p.2.1
      · exact absurd rfl p.2.2
      · exact hh
    · rw [yf (v := 0) y (by decide +kernel)]
      have := p.2.2; subst this; exact hh
    · rw [yf (v := 0) y (by decide +kernel)]
      have := p.2; subst this; exact hh
theorem yM_meets {c w : Int32} {K : Int32 → Mm → Prop} (y : YM M) (h : ∀ N, K (fMeets c w) N) : CI mM_meets [.ref 6027, .int c, .int w] M K := by
  have hh := h M
  refine call_of rfl (Nat.le_of_ble_eq_true rfl) rfl (vM_meets_0 (sM_isCase (fun q => vM_meets_4 ⟨fun _ => ?_, fun q => absurd rfl q⟩) (fun i hi e => vM_meets_4 ⟨fun q => absurd q (by decide), fun _ => inW (fun q => vM_meets_16 ⟨fun q => absurd rfl q, fun _ => ?_⟩) (fun q => vM_meets_16 ⟨fun _ => ?_, fun q => absurd q (by decide)⟩)⟩)))
  · rwa [fMeets, q, if_neg (by decide)] at hh
  · subst e
    rwa [fMeets, yC hi, if_pos rfl, fWords, if_neg q.1, if_neg q.2.1, if_neg q.2.2] at hh
  · subst e
    have e0 := x0 (y_x y)
    rw [fMeets, yC hi, if_pos rfl] at hh
    refine vM_meets_26 rfl (mr25 y.1) (mr26 y.1) ⟨fun p => absurd e0 p, fun p => absurd e0 p, fun _ => ?_, fun p => absurd e0 p⟩
    rcases q with rfl | rfl | rfl <;> exact hh
theorem told0 {c : Nat} {K : Int32 → Mm → Prop} (hc : c < 64) (h : K (-4) M) : CI mM_told [.long 0, .long 0, .int (nI c)] M K := by
  refine call_of rfl (Nat.le_of_ble_eq_true rfl) rfl (vM_told_0 ?_)
  rw [b0 c hc, if_neg (by decide)]; exact h
theorem yM_each {d c : Int32} {K : Int32 → Mm → Prop} (y : YM M) (h : ∀ N, K (fEach d c) N) : CI mM_each [.ref 6027, .int d, .int c] M K := by
  have hh := h M
  refine call_of rfl (Nat.le_of_ble_eq_true rfl) rfl (vM_each_0 (sM_isDoctor (fun q => vM_each_4 ⟨fun _ => ?_, fun q => absurd rfl q⟩) (fun i hi e => vM_each_4 ⟨fun q => absurd q (by decide), fun _ => sM_isCase (fun q => vM_each_11 rfl ⟨fun q => absurd rfl q, fun _ => ?_⟩) (fun j hj e2 => vM_each_11 rfl ⟨fun _ => xM_findEach (y_x y) ?_, fun q => absurd q (by decide)⟩)⟩)))
  · rwa [fEach, q, Bool.false_and, if_neg (by decide)] at hh
  · rwa [fEach, q, Bool.and_false, if_neg (by decide)] at hh
  · subst e e2
    rw [fEach, yD hi, yC hj, if_pos (by decide)] at hh
    refine vM_each_20 rfl (mr27 y.1) (mr28 y.1) ⟨vin hi (by decide), vin hi (by decide), ?_⟩
    rw [y.2.2, y.2.2]
    exact told0 hj (vM_each_36 hh)
theorem many0 {K : Int32 → Mm → Prop} (h : K 0 M) : CI mM_manyOf [.long 0] M K := by
  refine call_of rfl (Nat.le_of_ble_eq_true rfl) rfl (vM_manyOf_0 ?_)
  have key := lp 64 (P := fun c => X mM_manyOf 4 [(0, .long 0), (2, .int 0), (3, .int (nI c))] [] M (mC mM_manyOf, mS mM_manyOf) (QI K)) (fun c hc ih => ?_) ?_
  · exact key
  · refine vM_manyOf_4 ⟨fun q => absurd q (nge rfl (by decide) hc), fun _ => ?_⟩
    rw [b0 c hc, nI_s]; exact ih
  · exact vM_manyOf_4 ⟨fun _ => h, fun q => absurd (nself rfl) q⟩
theorem first0 {K : Int32 → Mm → Prop} (h : K (-4) M) : CI mM_firstOf [.long 0] M K := by
  refine call_of rfl (Nat.le_of_ble_eq_true rfl) rfl (vM_firstOf_0 ?_)
  have key := lp 64 (P := fun c => X mM_firstOf 2 [(0, .long 0), (2, .int (nI c))] [] M (mC mM_firstOf, mS mM_firstOf) (QI K)) (fun c hc ih => ?_) ?_
  · exact key
  · refine vM_firstOf_2 ⟨fun q => ?_, fun _ => ?_⟩
    · rcases q with q | q
      · exact absurd q (nge rfl (by decide) hc)
      · exact absurd (b0 c hc) q.2
    · rw [nI_s]; exact ih
  · refine vM_firstOf_2 ⟨fun _ => ?_, fun q => absurd (nself rfl) q.1⟩
    rw [if_pos (show (64 : Int32) ≤ nI 64 from nself rfl)]; exact h
theorem yM_clash {d w : Int32} {K : Int32 → Mm → Prop} (y : YM M) (h : ∀ N, K (fClash d w) N) : CI mM_clash [.ref 6027, .int d, .int w] M K := by
  have hh := h M
  refine call_of rfl (Nat.le_of_ble_eq_true rfl) rfl (vM_clash_0 (sM_isDoctor (fun q => vM_clash_4 ⟨fun _ => ?_, fun q => absurd rfl q⟩) (fun i hi e => vM_clash_4 ⟨fun q => absurd q (by decide), fun _ => sM_inE (fun q => vM_clash_14 rfl ⟨fun q => absurd rfl q, fun _ => ?_⟩) (fun q => vM_clash_14 rfl ⟨fun _ => xM_findEach (y_x y) ?_, fun q => absurd q (by decide)⟩)⟩)))
  · rwa [fClash, q, Bool.false_and, if_neg (by decide)] at hh
  · rwa [fClash, q, Bool.and_false, if_neg (by decide)] at hh
  · subst e
    rw [fClash, yD hi, yE q, if_pos (by decide), fML] at hh
    refine vM_clash_23 rfl (mr29 y.1) ⟨fun _ => vin hi (by decide), fun _ => vin hi (by decide), fun p => ?_, fun p => ?_⟩
    · rw [y.2.2]; refine first0 (vM_clash_48 ?_); rwa [if_neg p] at hh
    · rw [y.2.2]; refine many0 (vM_clash_36 ?_); rwa [if_pos p] at hh
theorem yM_sides {d e w : Int32} {K : Int32 → Mm → Prop} (y : YM M) (h : ∀ N, K (fSides d e w) N) : CI mM_sides [.ref 6027, .int d, .int e, .int w] M K := by
  have hh := h M
  refine call_of rfl (Nat.le_of_ble_eq_true rfl) rfl (vM_sides_0 (sM_isDoctor (fun q => vM_sides_4 ⟨fun _ => ?_, fun q => absurd rfl q⟩) (fun i hi e1 => vM_sides_4 ⟨fun q => absurd q (by decide), fun _ => sM_isDoctor (fun q => vM_sides_11 ⟨fun _ => ?_, fun q => absurd rfl q.1⟩) (fun j hj e2 => vM_sides_11 ⟨fun q => ?_, fun q => inW (fun p => vM_sides_28 rfl ⟨fun q => absurd rfl q, fun _ => ?_⟩) (fun p => vM_sides_28 rfl ⟨fun _ => xM_findEach (y_x y) ?_, fun q => absurd q (by decide)⟩)⟩)⟩)))
  · rwa [fSides, q, Bool.false_and, if_neg (by decide)] at hh
  · rwa [fSides, q, Bool.false_and, Bool.and_false, if_neg (by decide)] at hh
  · have q1 : d = e := by
      rcases q with q | q
      · exact absurd q (by decide)
      · exact q.2
    rwa [fSides, show decide (¬ d = e ∧ ¬ w < 0 ∧ w ≤ 2) = false from decide_eq_false (fun r => r.1 q1), Bool.and_false, Bool.and_false, if_neg (by decide)] at hh
  · have no : ¬ (¬ w < 0 ∧ w ≤ 2) := by
      rintro ⟨r1, r2⟩
      obtain ⟨i, hi, rfl⟩ := rngL (c := 2) (n := 2) rfl (by decide) r1 (Int32.not_lt.mpr r2)
      match i, hi with
      | 0, _ => exact p.1 rfl
      | 1, _ => exact p.2.1 rfl
      | 2, _ => exact p.2.2 rfl
    rwa [fSides, show decide (¬ d = e ∧ ¬ w < 0 ∧ w ≤ 2) = false from decide_eq_false (fun r => no r.2), Bool.and_false, Bool.and_false, if_neg (by decide)] at hh
  · subst e1 e2
    have yes : ¬ w < 0 ∧ w ≤ 2 := by rcases p with rfl | rfl | rfl <;> decide
    rw [fSides, yD hi, yD hj, show decide (¬ nI i = nI j ∧ ¬ w < 0 ∧ w ≤ 2) = true from decide_eq_true ⟨q.2, yes⟩, if_pos (by decide)] at hh
    refine vM_sides_37 rfl (mr27 y.1) (mr28 y.1) ⟨vin hi (by decide), vin hj (by decide), vin hi (by decide), vin hj (by decide), vin hi (by decide), vin hj (by decide), vin hi (by decide), vin hj (by decide), ?_⟩
    simp only [y.2.2]
    refine ⟨fun p => first0 (vM_sides_128 ?_), fun p => many0 (vM_sides_120 ?_), fun p => many0 (vM_sides_107 ?_)⟩
    · rwa [if_neg p.1, if_neg p.2] at hh
    · rwa [if_neg p.1, if_pos p.2] at hh
    · rwa [if_pos p] at hh
end MOD2
