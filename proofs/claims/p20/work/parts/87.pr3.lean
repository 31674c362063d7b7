/-! ===== pairs of calls: library, rule, sheet, lay ===== -/
section PR3
variable {M : Mm}
theorem pr_library {Z : Int32 → Int32 → Mm → Prop} (i0 : INV M) (h : ∀ r s N, INV N → Z r s N) : CI mC_library [.ref 10] M (fun r N => CI mM_library [.ref 6027] N (fun s O => Z r s O)) := by
  obtain ⟨L, P, R, S, U, D, W, t, i⟩ := i0
  obtain ⟨i1, i2, i3, i4⟩ := i
  have hP : LA P := i1.1.2.2.1.2.1
  have hL := cxL i1.1
  have hP' := hP
  have hL' := hL
  unfold LA at hP' hL'
  have key : ∀ N r L' P' D', CP N L' P' R S U D' → LCF P M N → CI mM_library [.ref 6027] N (fun s O => Z r s O) := by
    intro N r L' P' D' cN f
    obtain ⟨f1, f2, f3, f4⟩ := f
    have g : ∀ a, a ≠ 199 → a ≠ 258 → a ≠ 70 → a ≠ 10 → ¬ (P ≤ a ∧ a < P + 2304) → gi N a = gi M a := f3
    have mN : MP N W := mp_eq i2 (fun k => by rw [f2 _ (by decide)]) (g _ (by decide) (by decide) (by decide) (by decide) (by omega)) (by rw [g _ (by decide) (by decide) (by decide) (by decide) (by omega)]) (by rw [g _ (by decide) (by decide) (by decide) (by decide) (by omega)]) (by rw [g _ (by decide) (by decide) (by decide) (by decide) (by omega)]) (by rw [g _ (by decide) (by decide) (by decide) (by decide) (by omega)])
    have sN : JS N := js_eq i4 (fun e he => g _ (by unfold sa; omega) (by unfold sa; omega) (by unfold sa; omega) (by unfold sa; omega) (by unfold sa; omega)) (fun e he => g _ (by omega) (by omega) (by omega) (by omega) (by omega)) (g _ (by decide) (by decide) (by decide) (by decide) (by omega)) (g _ (by decide) (by decide) (by decide) (by decide) (by omega)) (g _ (by decide) (by decide) (by decide) (by decide) (by omega))
    have n11 : gi N 6027 11 = nI t := by rw [g _ (by decide) (by decide) (by decide) (by decide) (by omega)]; exact i3.2.2.1
    have tp : TP N (gi N 6486) t := ⟨mN.1.1, n11, i3.2.1, rfl⟩
    have by' : ∀ k, k < 400 → BY (gi N 145 k) (gi N 6486 k) := fun k hk => by
      rw [g 145 (by decide) (by decide) (by decide) (by decide) (by omega), g 6486 (by decide) (by decide) (by decide) (by decide) (by omega)]
      exact i3.2.2.2 k hk
    refine tM_library tp (fun s O fO o11 => h r s O ⟨L', P', R, S, U, D', W, 0, ?_⟩) (fun s O W' fO o11 jO hW uO => h r s O ⟨L', P', R, S, U, D', W', 0, ?_⟩)
    · have g2 : ∀ a, ¬ (a = 6027 ∨ a = 6423 ∨ a = 6229 ∨ a = 6285 ∨ a = 6360) → gi O a = gi N a := fO.2.1
      refine ⟨cp_eq cN (fun _ _ _ _ => by rw [fO.1]) (fun a ha => g2 a (by omega)), mp_eq mN (fun _ => by rw [fO.1]) (g2 _ (by decide)) (fO.2.2.1 0 (by decide)) (fO.2.2.1 24 (by decide)) (by rw [g2 _ (by decide)]) (by rw [g2 _ (by decide)]), ⟨?_, Nat.zero_le _, o11, fun k hk => ?_⟩, js_eq sN (fun e he => g2 _ (by unfold sa; omega)) (fun e he => g2 _ (by omega)) (g2 _ (by decide)) (g2 _ (by decide)) (g2 _ (by decide))⟩
      · rw [g2 _ (by decide)]; exact f4
      · rw [g2 145 (by decide), g2 6486 (by decide)]; exact by' k hk
    · have g2 : ∀ a, ¬ (a = 6027 ∨ a = 6423 ∨ a = 6229 ∨ a = 6285 ∨ a = 6360 ∨ a = 6101 ∨ a = 6157 ∨ a = 6807) → gi O a = gi N a := fO.2.1
      refine ⟨cp_eq cN (fun _ _ _ _ => by rw [fO.1]) (fun a ha => g2 a (by omega)), ⟨jO, hW, ?_, ?_, uO⟩, ⟨?_, Nat.zero_le _, o11, fun k hk => ?_⟩, js_eq sN (fun e he => g2 _ (by unfold sa; omega)) (fun e he => g2 _ (by omega)) (g2 _ (by decide)) (g2 _ (by decide)) (g2 _ (by decide))⟩
      · unfold HD; rw [g2 _ (by decide)]; exact mN.2.2.1
      · unfold HO; rw [g2 _ (by decide)]; exact mN.2.2.2.1
      · rw [g2 _ (by decide)]; exact f4
      · rw [g2 145 (by decide), g2 6486 (by decide)]; exact by' k hk
  have rr : ∀ {N}, LCF P M N → RN N 4995 ∧ RN N 5059 ∧ RN N 5123 := by
    intro N f
    refine ⟨?_, ?_, ?_⟩
    · unfold RN; rw [f.2.2.1 _ (by decide) (by decide) (by decide) (by decide) (by omega)]; exact i1.2.2.2.1
    · unfold RN; rw [f.2.2.1 _ (by decide) (by decide) (by decide) (by decide) (by omega)]; exact i1.2.2.2.2.1
    · unfold RN; rw [f.2.2.1 _ (by decide) (by decide) (by decide) (by decide) (by omega)]; exact i1.2.2.2.2.2
  have neq : L ≠ P := i1.1.2.2.2.2.1
  refine sC_library i1.1 (tc_of i1.1 i3) (fun r N f e => key N r L P D ⟨cx_gr i1.1 (fun a j _ => by rw [e]), ?_, i1.2.2.1, rr f⟩ f) (fun r N D' f e hD hD2 => key N r P L D' ⟨?_, hD, hD2, rr f⟩ f)
  · rw [f.2.2.1 L (by omega) (by omega) (by omega) (by omega) (by omega)]; exact i1.2.1
  · obtain ⟨⟨x1, ⟨x2, x3, x4, x5, x6⟩, ⟨y1, y2, y3, y4, y5⟩, ⟨x8, x9⟩, ⟨z1, z2, z3, z4⟩⟩, c2⟩ := i1
    have nq : ∀ q ∈ cgt, q.1 = 10 → q.2.1 ≠ 5 ∧ q.2.1 ≠ 4 := by decide
    have lr : ∀ {L}, LA L → LR M L → LR N L := fun {L} hL h => by
      refine ⟨h.1, fun q hq => ?_, fun w hw => ?_⟩
      · rw [f.2.1 L (by unfold LA at hL; omega)]; exact h.2.1 q hq
      · rw [f.2.1 (L + 81) (by omega)]; exact h.2.2 w hw
    refine ⟨fun q hq => ?_, ⟨?_, ?_, ?_, ?_, ?_⟩, ⟨y2, y1, y3, y4, y5⟩, ⟨lr y2 x9, lr y1 x8⟩, ⟨Ne.symm z1, z2, z3, z4⟩⟩
    · by_cases q10 : q.1 = 10
      · have := nq q hq q10
        rw [q10, e, if_neg this.1, if_neg this.2, ← q10]; exact x1 q hq
      · rw [f.2.1 _ q10]; exact x1 q hq
    · rw [e, if_neg (by decide), if_pos rfl]
    · rw [e, if_pos rfl]
    · rw [e, if_neg (by decide), if_neg (by decide)]; exact x4
    · rw [e, if_neg (by decide), if_neg (by decide)]; exact x5
    · rw [e, if_neg (by decide), if_neg (by decide)]; exact x6
theorem pr_rule {Z : Int32 → Int32 → Mm → Prop} (i0 : INV M) (h : ∀ r s N, INV N → Z r s N) : CI mC_rule [.ref 10] M (fun r N => CI mM_rule [.ref 6027] N (fun s O => Z r s O)) := by
  obtain ⟨L, P, R, S, U, D, W, t, i⟩ := i0
  obtain ⟨i1, i2, i3, i4⟩ := i
  have hU : RA U := i1.1.2.2.1.2.2.2.2
  have hL := cxL i1.1
  have hU' := hU
  have hL' := hL
  unfold RA at hU'
  unfold LA at hL'
  have key : ∀ N r R' U', CP N L P R' S U' D → RCF U M N → CI mM_rule [.ref 6027] N (fun s O => Z r s O) := by
    intro N r R' U' cN f
    obtain ⟨f1, f2, f3, f4, f5⟩ := f
    have g : ∀ a, a ≠ 199 → a ≠ 70 → a ≠ 10 → a ≠ U → gi N a = gi M a := f3
    have mN : MP N W := mp_eq i2 (fun k => by rw [f2 _ (by decide)]) (g _ (by decide) (by decide) (by decide) (by omega)) (by rw [g _ (by decide) (by decide) (by decide) (by omega)]) (by rw [g _ (by decide) (by decide) (by decide) (by omega)]) (by rw [g _ (by decide) (by decide) (by decide) (by omega)]) (by rw [g _ (by decide) (by decide) (by decide) (by omega)])
    have sN : JS N := js_eq i4 (fun e he => g _ (by unfold sa; omega) (by unfold sa; omega) (by unfold sa; omega) (by unfold sa; omega)) (fun e he => g _ (by omega) (by omega) (by omega) (by omega)) (g _ (by decide) (by decide) (by decide) (by omega)) (g _ (by decide) (by decide) (by decide) (by omega)) (g _ (by decide) (by decide) (by decide) (by omega))
    have n11 : gi N 6027 11 = nI t := by rw [g _ (by decide) (by decide) (by decide) (by omega)]; exact i3.2.2.1
    have tp : TP N (gi N 6486) t := ⟨mN.1.1, n11, i3.2.1, rfl⟩
    have by' : ∀ k, k < 400 → BY (gi N 145 k) (gi N 6486 k) := fun k hk => by
      rw [g 145 (by decide) (by decide) (by decide) (by omega), g 6486 (by decide) (by decide) (by decide) (by omega)]
      exact i3.2.2.2 k hk
    have fin : ∀ O, NR N O → HD O → gi O 6027 11 = 0 → IV O L P R' S U' D W 0 := by
      intro O fO hO o11
      have g2 : ∀ a, ¬ (a = 6027 ∨ a = 6671 ∨ a = 6745 ∨ a = 6543) → gi O a = gi N a := fO.2.2.1
      refine ⟨cp_eq cN (fun _ _ _ _ => by rw [fO.1]) (fun a ha => g2 a (by omega)), ⟨jw_eq mN.1 (fun _ => by rw [fO.1]) (g2 _ (by decide)) (fO.2.2.2 0 (by decide)) (fO.2.2.2 24 (by decide)), mN.2.1, hO, ?_, ?_⟩, ⟨?_, Nat.zero_le _, o11, fun k hk => ?_⟩, js_eq sN (fun e he => g2 _ (by unfold sa; omega)) (fun e he => g2 _ (by omega)) (g2 _ (by decide)) (g2 _ (by decide)) (g2 _ (by decide))⟩
      · unfold HO; rw [g2 _ (by decide)]; exact mN.2.2.2.1
      · unfold UM; rw [fO.2.2.2 24 (by decide)]; exact mN.2.2.2.2
      · rw [g2 _ (by decide)]; exact f4
      · rw [g2 145 (by decide), g2 6486 (by decide)]; exact by' k hk
    refine tM_rule tp (fun s O fO e5 o11 => h r s O ⟨L, P, R', S, U', D, W, 0, fin O fO ?_ o11⟩) (fun s O fO hO o11 => h r s O ⟨L, P, R', S, U', D, W, 0, fin O fO hO o11⟩)
    unfold HD; rw [e5]; exact mN.2.2.1
  have rr : ∀ {N}, RCF U M N → ∀ X, RA X → RN N X := by
    intro N f X hX
    by_cases e : X = U
    · rw [e]; exact f.2.2.2.2
    · unfold RN
      rw [f.2.2.1 X (by unfold RA at hX; omega) (by unfold RA at hX; omega) (by unfold RA at hX; omega) e]
      exact rn_of i1 hX
  have r3 : ∀ {N}, RCF U M N → RN N 4995 ∧ RN N 5059 ∧ RN N 5123 := fun f => ⟨rr f _ (Or.inl rfl), rr f _ (Or.inr (Or.inl rfl)), rr f _ (Or.inr (Or.inr rfl))⟩
  have dd : ∀ {N}, RCF U M N → gi N L 1 = nI D := fun f => by rw [f.2.2.1 L (by omega) (by omega) (by omega) (by omega)]; exact i1.2.1
  refine sC_rule i1.1 (tc_of i1.1 i3) (fun r N f e => key N r R U ⟨cx_gr i1.1 (fun a j _ => by rw [e]), dd f, i1.2.2.1, r3 f⟩ f) (fun r N f e => key N r U R ⟨?_, dd f, i1.2.2.1, r3 f⟩ f)
  obtain ⟨⟨x1, ⟨x2, x3, x4, x5, x6⟩, ⟨y1, y2, y3, y4, y5⟩, ⟨x8, x9⟩, ⟨z1, z2, z3, z4⟩⟩, c2⟩ := i1
  have nq : ∀ q ∈ cgt, q.1 = 10 → q.2.1 ≠ 8 ∧ q.2.1 ≠ 6 := by decide
  have lr : ∀ {L}, LA L → LR M L → LR N L := fun {L} hL h => by
    refine ⟨h.1, fun q hq => ?_, fun w hw => ?_⟩
    · rw [f.2.1 L (by unfold LA at hL; omega)]; exact h.2.1 q hq
    · rw [f.2.1 (L + 81) (by omega)]; exact h.2.2 w hw
  refine ⟨fun q hq => ?_, ⟨?_, ?_, ?_, ?_, ?_⟩, ⟨y1, y2, y5, y4, y3⟩, ⟨lr y1 x8, lr y2 x9⟩, ⟨z1, Ne.symm z4, Ne.symm z3, Ne.symm z2⟩⟩
  · by_cases q10 : q.1 = 10
    · have := nq q hq q10
      rw [q10, e, if_neg this.1, if_neg this.2, ← q10]; exact x1 q hq
    · rw [f.2.1 _ q10]; exact x1 q hq
  · rw [e, if_neg (by decide), if_neg (by decide)]; exact x2
  · rw [e, if_neg (by decide), if_neg (by decide)]; exact x3
  · rw [e, if_neg (by decide), if_pos rfl]
  · rw [e, if_neg (by decide), if_neg (by decide)]; exact x5
  · rw [e, if_pos rfl]
theorem isS_e {k : Int32} {e : Nat} (he : e < 4) (ek : k = nI e) : isS k = true := by rw [ek]; exact decide_eq_true ⟨n0 e (by omega), nge rfl (by decide) he⟩
theorem pr_sheet {k l n : Int32} {Z : Int32 → Int32 → Mm → Prop} (i0 : INV M) (h : ∀ r s N, INV N → r = s → Z r s N) : CI mC_sheet [.ref 10, .int k, .int l, .int n] M (fun r N => CI mM_sheet [.ref 6027, .int k, .int l, .int n] N (fun s O => Z r s O)) := by
  obtain ⟨L, P, R, S, U, D, W, t, i⟩ := i0
  have i' := i
  obtain ⟨i1, i2, i3, i4⟩ := i
  have hL := cxL i1.1
  refine lC_sheet i1.1 (fun q => ?_) (fun q1 q2 q3 => ?_) (fun e he ek il q2 q3 => ?_)
  · refine tM_sheet i2.1.1 (fun _ => h _ _ M ⟨L, P, R, S, U, D, W, t, i'⟩ rfl) (fun p1 p2 p3 => ?_) (fun e he ek il p2 p3 => ?_)
    · exfalso
      rcases q with q | q
      · rw [p1] at q; exact absurd q (by decide)
      · exact q p2
    · exfalso
      rcases q with q | q
      · rw [isS_e he ek, il] at q; exact absurd q (by decide)
      · exact q p2
  · refine tM_sheet i2.1.1 (fun p => ?_) (fun _ _ _ => h _ _ M ⟨L, P, R, S, U, D, W, t, i'⟩ rfl) (fun e he ek il p2 p3 => absurd p3 q3)
    exfalso
    rcases p with p | p
    · rw [q1] at p; exact absurd p (by decide)
    · exact p q2
  · generalize eA : fl (si (si M (sa e) 1 l) (sa e) 2 n) (5588 + 128 * e) 40 0 = A
    have sae : ∀ x, x < 4 → sa x = 5509 + 128 * x := fun x _ => rfl
    have g : ∀ a, a ≠ sa e → a ≠ 5588 + 128 * e → gi A a = gi M a := fun a n1 n2 => by
      rw [← eA]; funext j; rw [flR _ _ _ _ _ _ n2, giR _ _ _ _ _ _ n1, giR _ _ _ _ _ _ n1]
    have gR : gr A = gr M := by rw [← eA]; rfl
    have a1 : gi A (sa e) 1 = l := by rw [← eA, flR _ _ _ _ _ _ (by rw [sae e he]; omega), gi_si, if_neg (by omega), gi_si, if_pos ⟨rfl, rfl⟩]
    have a2 : gi A (sa e) 2 = n := by rw [← eA, flR _ _ _ _ _ _ (by rw [sae e he]; omega), gi_si, if_pos ⟨rfl, rfl⟩]
    have a3 : ∀ j, j < 40 → gi A (5588 + 128 * e) j = 0 := fun j hj => by rw [← eA, gi_fl, if_pos ⟨rfl, hj⟩]
    have sa' := sae e he
    have c1 : CP A L P R S U D := cp_eq i1 (fun _ _ _ _ => by rw [gR]) (fun a ha => g a (by omega) (by omega))
    have m1 : MP A W := mp_eq i2 (fun _ => by rw [gR]) (g _ (by omega) (by omega)) (by rw [g _ (by omega) (by omega)]) (by rw [g _ (by omega) (by omega)]) (by rw [g _ (by omega) (by omega)]) (by rw [g _ (by omega) (by omega)])
    have j1 : JA A t := ja_eq i3 (g _ (by omega) (by omega)) (g _ (by omega) (by omega)) (by rw [g _ (by omega) (by omega)]) (g _ (by omega) (by omega))
    refine tM_sheet m1.1.1 (fun p => ?_) (fun _ _ p => absurd q3 p) (fun e' he' ek' _ _ _ O fO => ?_)
    · exfalso
      rcases p with p | p
      · rw [isS_e he ek, il] at p; exact absurd p (by decide)
      · exact p q2
    · have ee : e' = e := (ninj (by omega) (by omega)).mp (ek'.symm.trans ek)
      subst ee
      have g2 : ∀ a, a ≠ 7644 → a ≠ 7708 → a ≠ 7773 → gi O a = gi A a := fO.2.2.1
      refine h _ _ O ⟨L, P, R, S, U, D, W, t, cp_eq c1 (fun _ _ _ _ => by rw [fO.1]) (fun a ha => g2 a (by omega) (by omega) (by omega)), mp_eq m1 (fun _ => by rw [fO.1]) (g2 _ (by decide) (by decide) (by decide)) (by rw [g2 _ (by decide) (by decide) (by decide)]) (by rw [g2 _ (by decide) (by decide) (by decide)]) (by rw [g2 _ (by decide) (by decide) (by decide)]) (by rw [g2 _ (by decide) (by decide) (by decide)]), ja_eq j1 (g2 _ (by decide) (by decide) (by decide)) (g2 _ (by decide) (by decide) (by decide)) (by rw [g2 _ (by decide) (by decide) (by decide)]) (g2 _ (by decide) (by decide) (by decide)), fun x hx => ?_⟩ rfl
      have sx := sae x hx
      by_cases z : x = e'
      · subst z
        have q3' : ¬ n < 0 := Int32.not_lt.mpr q3
        obtain ⟨m, hm, em⟩ := rngL (c := 40) (n := 40) rfl (by decide) q3' (Int32.not_lt.mpr q2)
        refine ⟨⟨m, by omega, ?_, ?_⟩, ?_, fun j hj => ?_⟩
        · rw [g2 _ (by omega) (by omega) (by omega), a2]; exact em
        · rw [fO.2.2.2.2.1 x, if_pos rfl]; exact em
        · rw [g2 _ (by omega) (by omega) (by omega), a1, fO.2.2.2.1 x, if_pos rfl]
        · rw [g2 _ (by omega) (by omega) (by omega), a3 j hj, fO.2.2.2.2.2, if_pos (by omega)]
      · obtain ⟨⟨m, b1, b2, b3⟩, b4, b5⟩ := i4 x hx
        refine ⟨⟨m, b1, ?_, ?_⟩, ?_, fun j hj => ?_⟩
        · rw [g2 _ (by omega) (by omega) (by omega), g _ (by omega) (by omega)]; exact b2
        · rw [fO.2.2.2.2.1 x, if_neg z, g _ (by omega) (by omega)]; exact b3
        · rw [g2 _ (by omega) (by omega) (by omega), g _ (by omega) (by omega), fO.2.2.2.1 x, if_neg z, g _ (by omega) (by omega)]; exact b4
        · rw [g2 _ (by omega) (by omega) (by omega), g _ (by omega) (by omega), fO.2.2.2.2.2, if_neg (by omega), g _ (by omega) (by omega)]; exact b5 j hj
theorem pr_lay {k j v : Int32} {Z : Int32 → Int32 → Mm → Prop} (i0 : INV M) (h : ∀ r s N, INV N → r = s → Z r s N) : CI mC_lay [.ref 10, .int k, .int j, .int v] M (fun r N => CI mM_lay [.ref 6027, .int k, .int j, .int v] N (fun s O => Z r s O)) := by
  obtain ⟨L, P, R, S, U, D, W, t, i⟩ := i0
  have i' := i
  obtain ⟨i1, i2, i3, i4⟩ := i
  have hI : INV M := ⟨L, P, R, S, U, D, W, t, i'⟩
  have hm := js_m i4
  have uq : ∀ {e e' : Nat}, e < 4 → e' < 4 → k = nI e → k = nI e' → e' = e := fun h1 h2 a b => (ninj (by omega) (by omega)).mp (b.symm.trans a)
  refine lC_lay i1.1 (js_n i4) (fun q => ?_) (fun e he ek q => ?_) (fun e he ek q1 q2 => ?_) (fun e c n he ek ec hn en hc q => ?_)
  · refine tM_lay i2.1.1 hm (fun _ => h _ _ M hI rfl) (fun e he ek _ => ?_) (fun e he ek _ _ => ?_) (fun e c n he ek _ _ _ _ _ => ?_)
    all_goals exact absurd (isS_e he ek) (by rw [q]; decide)
  · have b4 := (i4 e he).2.1
    refine tM_lay i2.1.1 hm (fun p => absurd (isS_e he ek) (by rw [p]; decide)) (fun e' _ _ _ => h _ _ M hI rfl) (fun e' he' ek' p _ => ?_) (fun e' c n he' ek' _ _ _ _ p => ?_)
    all_goals
      have := uq he he' ek ek'
      subst this
      exact absurd (b4.symm.trans q) p
  · obtain ⟨⟨m, b1, b2, b3⟩, b4, -⟩ := i4 e he
    refine tM_lay i2.1.1 hm (fun p => absurd (isS_e he ek) (by rw [p]; decide)) (fun e' he' ek' p => ?_) (fun e' _ _ _ _ => h _ _ M hI rfl) (fun e' c n he' ek' ec hn en hc p => ?_)
    · have := uq he he' ek ek'
      subst this
      exact absurd (b4.trans p) q1
    · have := uq he he' ek ek'
      subst this
      exfalso
      have mn : m = n := (ninj (by omega) (by omega)).mp (b3.symm.trans en)
      rw [b2, ec] at q2
      rcases q2 with q2 | q2
      · exact n0 c (by omega) q2
      · rw [nle (by omega) (by omega)] at q2; omega
  · obtain ⟨⟨m, b1, b2, b3⟩, b4, b5⟩ := i4 e he
    have mn : m = n := (ninj (by omega) (by omega)).mp (b2.symm.trans en)
    subst mn
    have sae : ∀ x, sa x = 5509 + 128 * x := fun x => rfl
    generalize ew : layv (gi M (sa e) 1) v = w
    have g : ∀ a, a ≠ 5588 + 128 * e → gi (si M (5588 + 128 * e) c w) a = gi M a := fun a n1 => gi_ne n1
    have se := sae e
    have c1 : CP (si M (5588 + 128 * e) c w) L P R S U D := cp_eq i1 (fun _ _ _ _ => rfl) (fun a ha => g a (by omega))
    have m1 : MP (si M (5588 + 128 * e) c w) W := mp_eq i2 (fun _ => rfl) (g _ (by omega)) (by rw [g _ (by omega)]) (by rw [g _ (by omega)]) (by rw [g _ (by omega)]) (by rw [g _ (by omega)])
    have j1 : JA (si M (5588 + 128 * e) c w) t := ja_eq i3 (g _ (by omega)) (g _ (by omega)) (by rw [g _ (by omega)]) (g _ (by omega))
    have h7708 : gi (si M (5588 + 128 * e) c w) 7708 = gi M 7708 := g _ (by omega)
    have h7644 : gi (si M (5588 + 128 * e) c w) 7644 = gi M 7644 := g _ (by omega)
    refine tM_lay m1.1.1 (fun x hx => by rw [h7708]; exact hm x hx) (fun p => absurd (isS_e he ek) (by rw [p]; decide)) (fun e' he' ek' p => ?_) (fun e' he' ek' p1 p2 => ?_) (fun e' c' n' he' ek' ec' hn' en' hc' p => ?_)
    · have := uq he he' ek ek'
      subst this
      rw [h7644] at p
      exact absurd (b4.trans p) q
    · have := uq he he' ek ek'
      subst this
      exfalso
      rw [h7708, b3, ec] at p2
      rcases p2 with p2 | p2
      · exact n0 c (by omega) p2
      · rw [nle (by omega) (by omega)] at p2; omega
    · have := uq he he' ek ek'
      subst this
      have cc : c' = c := (ninj (by omega) (by omega)).mp (ec'.symm.trans ec)
      subst cc
      rw [h7644, ← b4, ew]
      have g2 : ∀ a, a ≠ 7773 → gi (si (si M (5588 + 128 * e') c' w) 7773 (40 * e' + c') w) a = gi (si M (5588 + 128 * e') c' w) a := fun a n1 => gi_ne n1
      refine h _ _ _ ⟨L, P, R, S, U, D, W, t, cp_eq c1 (fun _ _ _ _ => rfl) (fun a ha => g2 a (by omega)), mp_eq m1 (fun _ => rfl) (g2 _ (by omega)) (by rw [g2 _ (by omega)]) (by rw [g2 _ (by omega)]) (by rw [g2 _ (by omega)]) (by rw [g2 _ (by omega)]), ja_eq j1 (g2 _ (by omega)) (g2 _ (by omega)) (by rw [g2 _ (by omega)]) (g2 _ (by omega)), fun x hx => ?_⟩ rfl
      have sx := sae x
      obtain ⟨⟨m2, d1, d2, d3⟩, d4, d5⟩ := i4 x hx
      refine ⟨⟨m2, d1, ?_, ?_⟩, ?_, fun a ha => ?_⟩
      · rw [g2 _ (by omega), g _ (by omega)]; exact d2
      · rw [g2 _ (by omega), h7708]; exact d3
      · rw [g2 _ (by omega), g _ (by omega), g2 _ (by omega), h7644]; exact d4
      · rw [g2 _ (by omega), gi_si, gi_si, g 7773 (by omega), d5 a ha]
        by_cases z : x = e' ∧ a = c'
        · rw [if_pos (by omega), if_pos (by omega)]
        · rw [if_neg (by omega), if_neg (by omega)]
end PR3
