/-! ===== library and rule on both sides: what was read is the same ===== -/
section EQH
variable {M : Mm}
theorem px_library {Z : Int32 → Int32 → Mm → Prop} (i0 : INX M) (h : ∀ r s N, INX N → r = s → Z r s N) : CI mC_library [.ref 10] M (fun r N => CI mM_library [.ref 6027] N (fun s O => Z r s O)) := by
  obtain ⟨L, P, R, S, U, D, W, t, i, exx⟩ := i0
  obtain ⟨i1, i2, i3, i4⟩ := i
  have hP : LA P := i1.1.2.2.1.2.1
  have hL := cxL i1.1
  have hP' := hP
  have hL' := hL
  unfold LA at hP' hL'
  generalize eT : gi M 6486 = T
  generalize ex : gi M 6027 14 = x0
  generalize ev : gi M 6027 15 = v0
  generalize ep : gi M 6027 17 = p0
  have tcM : TC M T t := by rw [← eT]; exact tc_of i1.1 i3
  -- what stands of both behind the class's call
  have st : ∀ N, LCF P M N → TP N T t ∧ MP N W ∧ JS N ∧ (∀ k, k < 400 → BY (gi N 145 k) (gi N 6486 k)) ∧ gi N 6027 14 = x0 ∧ gi N 6027 15 = v0 ∧ gi N 6027 17 = p0 := by
    intro N f
    obtain ⟨f1, f2, f3, f4⟩ := f
    have g : ∀ a, a ≠ 199 → a ≠ 258 → a ≠ 70 → a ≠ 10 → ¬ (P ≤ a ∧ a < P + 2304) → gi N a = gi M a := f3
    have mN : MP N W := mp_eq i2 (fun k => by rw [f2 _ (by decide)]) (g _ (by decide) (by decide) (by decide) (by decide) (by omega)) (by rw [g _ (by decide) (by decide) (by decide) (by decide) (by omega)]) (by rw [g _ (by decide) (by decide) (by decide) (by decide) (by omega)]) (by rw [g _ (by decide) (by decide) (by decide) (by decide) (by omega)]) (by rw [g _ (by decide) (by decide) (by decide) (by decide) (by omega)])
    have sN : JS N := js_eq i4 (fun e he => g _ (by unfold sa; omega) (by unfold sa; omega) (by unfold sa; omega) (by unfold sa; omega) (by unfold sa; omega)) (fun e he => g _ (by omega) (by omega) (by omega) (by omega) (by omega)) (g _ (by decide) (by decide) (by decide) (by decide) (by omega)) (g _ (by decide) (by decide) (by decide) (by decide) (by omega)) (g _ (by decide) (by decide) (by decide) (by decide) (by omega))
    have e6 : gi N 6027 = gi M 6027 := g _ (by decide) (by decide) (by decide) (by decide) (by omega)
    have e8 : gi N 6486 = gi M 6486 := g _ (by decide) (by decide) (by decide) (by decide) (by omega)
    refine ⟨⟨mN.1.1, by rw [e6]; exact i3.2.2.1, i3.2.1, e8.trans eT⟩, mN, sN, fun k hk => ?_, by rw [e6]; exact ex, by rw [e6]; exact ev, by rw [e6]; exact ep⟩
    rw [g 145 (by decide) (by decide) (by decide) (by decide) (by omega), e8]
    exact i3.2.2.2 k hk
  have rr : ∀ {N}, LCF P M N → RN N 4995 ∧ RN N 5059 ∧ RN N 5123 := by
    intro N f
    refine ⟨?_, ?_, ?_⟩
    · unfold RN; rw [f.2.2.1 _ (by decide) (by decide) (by decide) (by decide) (by omega)]; exact i1.2.2.2.1
    · unfold RN; rw [f.2.2.1 _ (by decide) (by decide) (by decide) (by decide) (by omega)]; exact i1.2.2.2.2.1
    · unfold RN; rw [f.2.2.1 _ (by decide) (by decide) (by decide) (by decide) (by omega)]; exact i1.2.2.2.2.2
  have neq : L ≠ P := i1.1.2.2.2.2.1
  -- behind the reference's call
  have fin0 : ∀ N O L' P' D', LCF P M N → CP N L' P' R S U D' → OS N O → gi O 6027 11 = 0 → IV O L' P' R S U D' W 0 := by
    intro N O L' P' D' f cN fO o11
    obtain ⟨-, mN, sN, by', -⟩ := st N f
    have g2 : ∀ a, ¬ (a = 6027 ∨ a = 6423 ∨ a = 6229 ∨ a = 6285 ∨ a = 6360) → gi O a = gi N a := fO.2.1
    refine ⟨cp_eq cN (fun _ _ _ _ => by rw [fO.1]) (fun a ha => g2 a (by omega)), mp_eq mN (fun _ => by rw [fO.1]) (g2 _ (by decide)) (fO.2.2.1 0 (by decide)) (fO.2.2.1 24 (by decide)) (by rw [g2 _ (by decide)]) (by rw [g2 _ (by decide)]), ⟨?_, Nat.zero_le _, o11, fun k hk => ?_⟩, js_eq sN (fun e he => g2 _ (by unfold sa; omega)) (fun e he => g2 _ (by omega)) (g2 _ (by decide)) (g2 _ (by decide)) (g2 _ (by decide))⟩
    · rw [g2 _ (by decide)]; exact f.2.2.2
    · rw [g2 145 (by decide), g2 6486 (by decide)]; exact by' k hk
  have fin1 : ∀ N O L' P' D' W', LCF P M N → CP N L' P' R S U D' → NL N O → gi O 6027 11 = 0 → JW O W' → W' ≤ 24 → UM O W' → IV O L' P' R S U D' W' 0 := by
    intro N O L' P' D' W' f cN fO o11 jO hW uO
    obtain ⟨-, mN, sN, by', -⟩ := st N f
    have g2 : ∀ a, ¬ (a = 6027 ∨ a = 6423 ∨ a = 6229 ∨ a = 6285 ∨ a = 6360 ∨ a = 6101 ∨ a = 6157 ∨ a = 6807) → gi O a = gi N a := fO.2.1
    refine ⟨cp_eq cN (fun _ _ _ _ => by rw [fO.1]) (fun a ha => g2 a (by omega)), ⟨jO, hW, ?_, ?_, uO⟩, ⟨?_, Nat.zero_le _, o11, fun k hk => ?_⟩, js_eq sN (fun e he => g2 _ (by unfold sa; omega)) (fun e he => g2 _ (by omega)) (g2 _ (by decide)) (g2 _ (by decide)) (g2 _ (by decide))⟩
    · unfold HD; rw [g2 _ (by decide)]; exact mN.2.2.1
    · unfold HO; rw [g2 _ (by decide)]; exact mN.2.2.2.1
    · rw [g2 _ (by decide)]; exact f.2.2.2
    · rw [g2 145 (by decide), g2 6486 (by decide)]; exact by' k hk
  have cN0 : ∀ N, LCF P M N → gr N = gr M → CP N L P R S U D := by
    intro N f e
    refine ⟨cx_gr i1.1 (fun a j _ => by rw [e]), ?_, i1.2.2.1, rr f⟩
    rw [f.2.2.1 L (by omega) (by omega) (by omega) (by omega) (by omega)]; exact i1.2.1
  have cN1 : ∀ N D', LCF P M N → (∀ j, gr N 10 j = if j = 5 then some L else if j = 4 then some P else gr M 10 j) → gi N P 1 = nI D' → D' ≤ 24 → CP N P L R S U D' := by
    intro N D' f e hD hD2
    refine ⟨?_, hD, hD2, rr f⟩
    obtain ⟨⟨x1, ⟨x2, x3, x4, x5, x6⟩, ⟨y1, y2, y3, y4, y5⟩, ⟨x8, x9⟩, ⟨z1, z2, z3, z4⟩⟩, c2⟩ := i1
    have nq : ∀ q ∈ cgt, q.1 = 10 → q.2.1 ≠ 5 ∧ q.2.1 ≠ 4 := by decide
    have lr : ∀ {L}, LA L → LR M L → LR N L := fun {L} hL h => by
      refine ⟨h.1, fun q hq => ?_, fun w hw => ?_⟩
      · rw [f.2.1 L (by unfold LA at hL; omega)]; exact h.2.1 q hq
      · rw [f.2.1 (L + 81) (by omega)]; exact h.2.2 w hw
    refine ⟨fun q hq => ?_, ⟨?_, ?_, ?_, ?_, ?_⟩, ⟨y2, y1, y3, y4, y5⟩, ⟨lr y2 x9, lr y1 x8⟩, ⟨Ne.symm z1, z2, z3, z4⟩⟩
    · by_cases q10 : q.1 = 10
      · have := nq q hq q10
        rw [q10, e, if_neg this.1, if_neg this.2, ← q10]; exact x1 q hq
      · rw [f.2.1 _ q10]; exact x1 q hq
    · rw [e, if_neg (by decide), if_pos rfl]
    · rw [e, if_pos rfl]
    · rw [e, if_neg (by decide), if_neg (by decide)]; exact x4
    · rw [e, if_neg (by decide), if_neg (by decide)]; exact x5
    · rw [e, if_neg (by decide), if_neg (by decide)]; exact x6
  have neq2 : L ≠ P := i1.1.2.2.2.2.1
  obtain ⟨⟨a1, a2, a3⟩, x1, x2, x3, x4, x5, ⟨x6, x7⟩, x8⟩ := exx
  have a2' := a2
  have a3' := a3
  unfold RA at a2' a3'
  have exf : ∀ N O v, LCF P M N → OS N O → gi N 10 10 = v → gi N 10 9 = gi M 10 9 → gi O 6027 16 = v → EX O L R S D W := by
    intro N O v f fO e10 e9 e16
    have g2 : ∀ a, ¬ (a = 6027 ∨ a = 6423 ∨ a = 6229 ∨ a = 6285 ∨ a = 6360) → gi O a = gi N a := fO.2.1
    have g : ∀ a, a ≠ 199 → a ≠ 258 → a ≠ 70 → a ≠ 10 → ¬ (P ≤ a ∧ a < P + 2304) → gi N a = gi M a := f.2.2.1
    have gg : ∀ a, ¬ (a = 6027 ∨ a = 6423 ∨ a = 6229 ∨ a = 6285 ∨ a = 6360) → a ≠ 199 → a ≠ 258 → a ≠ 70 → a ≠ 10 → ¬ (P ≤ a ∧ a < P + 2304) → gi O a = gi M a := fun a n1 n2 n3 n4 n5 n6 => (g2 a n1).trans (g a n2 n3 n4 n5 n6)
    refine ⟨⟨a1, a2, a3⟩, ?_, ?_, fun i hi => ?_, fun i hi => ?_, fun b hb => ?_, ⟨x6, x7⟩, fun w hw i hi => ?_⟩
    · rw [g2 10 (by decide), e9, x1, fO.2.2.1 9 (by decide), g 6027 (by decide) (by decide) (by decide) (by decide) (by omega)]
    · rw [g2 10 (by decide), e10, e16]
    · rw [gg R (by omega) (by omega) (by omega) (by omega) (by omega) (by omega), gg 6543 (by decide) (by decide) (by decide) (by decide) (by decide) (by omega)]; exact x3 i hi
    · rw [gg S (by omega) (by omega) (by omega) (by omega) (by omega) (by omega), gg 6607 (by decide) (by decide) (by decide) (by decide) (by decide) (by omega)]; exact x4 i hi
    · rw [gg (L + 140) (by omega) (by omega) (by omega) (by omega) (by omega) (by omega), gg 6157 (by decide) (by decide) (by decide) (by decide) (by decide) (by omega)]; exact x5 b hb
    · rw [gg (L + 776 + 64 * w) (by omega) (by omega) (by omega) (by omega) (by omega) (by omega), gg 6101 (by decide) (by decide) (by decide) (by decide) (by decide) (by omega)]; exact x8 w hw i hi
  have exs : ∀ (N O : Mm) (σ : LSt), LCF P M N → NL N O → gi N 10 10 = 0 → gi N 10 9 = 255 → gi O 6027 16 = 0 → gi O 6027 9 = 255 → σ.2.1 ≤ 24 → (∀ w, w < σ.2.1 → ∀ i, i < 8 → gi N (P + 776 + 64 * w) (cf i) = σ.2.2.1 w i) → (∀ b, b < 8 → gi N (P + 140) b = σ.2.2.2.1 b) → (∀ w, w < σ.2.1 → ∀ i, i < 8 → gi O 6101 (10 * w + i) = σ.2.2.1 w i) → (∀ b, b < 8 → gi O 6157 b = σ.2.2.2.1 b) → EX O P R S σ.2.1 σ.2.1 := by
    intro N O σ f fO e10 e9 o16 o9 hD c1 c2 d1 d2
    have g2 : ∀ a, ¬ (a = 6027 ∨ a = 6423 ∨ a = 6229 ∨ a = 6285 ∨ a = 6360 ∨ a = 6101 ∨ a = 6157 ∨ a = 6807) → gi O a = gi N a := fO.2.1
    have g : ∀ a, a ≠ 199 → a ≠ 258 → a ≠ 70 → a ≠ 10 → ¬ (P ≤ a ∧ a < P + 2304) → gi N a = gi M a := f.2.2.1
    refine ⟨⟨hP, a2, a3⟩, ?_, ?_, fun i hi => ?_, fun i hi => ?_, fun b hb => ?_, ⟨rfl, hD⟩, fun w hw i hi => ?_⟩
    · rw [g2 10 (by decide), e9, o9]
    · rw [g2 10 (by decide), e10, o16]
    · rw [g2 R (by omega), g R (by omega) (by omega) (by omega) (by omega) (by omega), g2 6543 (by decide), g 6543 (by decide) (by decide) (by decide) (by decide) (by omega)]; exact x3 i hi
    · rw [g2 S (by omega), g S (by omega) (by omega) (by omega) (by omega) (by omega), g2 6607 (by decide), g 6607 (by decide) (by decide) (by decide) (by decide) (by omega)]; exact x4 i hi
    · rw [g2 (P + 140) (by omega), c2 b hb, d2 b hb]
    · rw [g2 (P + 776 + 64 * w) (by omega), c1 w hw i hi, d1 w hw i hi]
  have eM : ∀ {N : Mm} {K : Int32 → Mm → Prop}, _ := fun {N} {K} => eM_library (M := N) (T := T) (t := t) (K := K) (x0 := x0) (v0 := v0) (p0 := p0)
  have eC := eC_library (T := T) (t := t) (x0 := x0) (v0 := v0) (p0 := p0) (K := fun r N => CI mM_library [.ref 6027] N (fun s O => Z r s O)) i1.1 tcM
  generalize lpS T t 401 (lS0 T t x0 v0 p0) 0 = F at eM eC
  refine eC (fun N f e nf e10 e9 => ?_) (fun N w f e zf hw b1 b2 e10 e9 => ?_) (fun N f e zf nb e10 e9 hD hD2 ok rows cps => ?_)
  · obtain ⟨tp, -, -, -, q1, q2, q3⟩ := st N f
    exact eM tp q1 q2 q3 (fun O fO o11 _ o16 _ => h _ _ O ⟨L, P, R, S, U, D, W, 0, fin0 N O L P D f (cN0 N f e) fO o11, exf N O _ f fO e10 e9 o16⟩ rfl) (fun O w _ _ z => absurd z nf) (fun O _ _ z => absurd z nf)
  · obtain ⟨tp, -, -, -, q1, q2, q3⟩ := st N f
    refine eM tp q1 q2 q3 (fun O _ _ nf => absurd zf nf) (fun O w' fO o11 _ hw' b1' b2' o16 _ => ?_) (fun O _ _ _ nb => absurd b1 (nb w hw))
    have ww : w' = w := by
      by_cases l : w' < w
      · exact absurd b1' (b2 w' l)
      · by_cases l2 : w < w'
        · exact absurd b1 (b2' w l2)
        · omega
    subst ww
    exact h _ _ O ⟨L, P, R, S, U, D, W, 0, fin0 N O L P D f (cN0 N f e) fO o11, exf N O _ f fO e10 e9 o16⟩ rfl
  · obtain ⟨tp, -, -, -, q1, q2, q3⟩ := st N f
    exact eM tp q1 q2 q3 (fun O _ _ nf => absurd zf nf) (fun O w _ _ _ hw b => absurd b (nb w hw)) (fun O fO o11 _ _ o16 jO hW uO _ d1 d2 o9 => h _ _ O ⟨P, L, R, S, U, _, _, 0, fin1 N O P L _ _ f (cN1 N _ f e hD hD2) fO o11 jO hW uO, exs N O F.1 f fO e10 e9 o16 o9 hD2 rows cps d1 d2⟩ rfl)
theorem px_rule {Z : Int32 → Int32 → Mm → Prop} (i0 : INX M) (h : ∀ r s N, INX N → r = s → Z r s N) : CI mC_rule [.ref 10] M (fun r N => CI mM_rule [.ref 6027] N (fun s O => Z r s O)) := by
  obtain ⟨L, P, R, S, U, D, W, t, i, exx⟩ := i0
  obtain ⟨i1, i2, i3, i4⟩ := i
  have hU : RA U := i1.1.2.2.1.2.2.2.2
  have hL := cxL i1.1
  have hU' := hU
  have hL' := hL
  unfold RA at hU'
  unfold LA at hL'
  generalize eT : gi M 6486 = T
  generalize ex : gi M 6027 14 = x0
  generalize ev : gi M 6027 15 = v0
  generalize ep : gi M 6027 17 = p0
  have tcM : TC M T t := by rw [← eT]; exact tc_of i1.1 i3
  have st : ∀ N, RCF U M N → TP N T t ∧ MP N W ∧ JS N ∧ (∀ k, k < 400 → BY (gi N 145 k) (gi N 6486 k)) ∧ gi N 6027 14 = x0 ∧ gi N 6027 15 = v0 ∧ gi N 6027 17 = p0 := by
    intro N f
    obtain ⟨f1, f2, f3, f4, f5⟩ := f
    have g : ∀ a, a ≠ 199 → a ≠ 70 → a ≠ 10 → a ≠ U → gi N a = gi M a := f3
    have mN : MP N W := mp_eq i2 (fun k => by rw [f2 _ (by decide)]) (g _ (by decide) (by decide) (by decide) (by omega)) (by rw [g _ (by decide) (by decide) (by decide) (by omega)]) (by rw [g _ (by decide) (by decide) (by decide) (by omega)]) (by rw [g _ (by decide) (by decide) (by decide) (by omega)]) (by rw [g _ (by decide) (by decide) (by decide) (by omega)])
    have sN : JS N := js_eq i4 (fun e he => g _ (by unfold sa; omega) (by unfold sa; omega) (by unfold sa; omega) (by unfold sa; omega)) (fun e he => g _ (by omega) (by omega) (by omega) (by omega)) (g _ (by decide) (by decide) (by decide) (by omega)) (g _ (by decide) (by decide) (by decide) (by omega)) (g _ (by decide) (by decide) (by decide) (by omega))
    have e6 : gi N 6027 = gi M 6027 := g _ (by decide) (by decide) (by decide) (by omega)
    have e8 : gi N 6486 = gi M 6486 := g _ (by decide) (by decide) (by decide) (by omega)
    refine ⟨⟨mN.1.1, by rw [e6]; exact i3.2.2.1, i3.2.1, e8.trans eT⟩, mN, sN, fun k hk => ?_, by rw [e6]; exact ex, by rw [e6]; exact ev, by rw [e6]; exact ep⟩
    rw [g 145 (by decide) (by decide) (by decide) (by omega), e8]
    exact i3.2.2.2 k hk
  have fin : ∀ N O R' U', RCF U M N → CP N L P R' S U' D → NR N O → HD O → gi O 6027 11 = 0 → IV O L P R' S U' D W 0 := by
    intro N O R' U' f cN fO hO o11
    obtain ⟨-, mN, sN, by', -⟩ := st N f
    have g2 : ∀ a, ¬ (a = 6027 ∨ a = 6671 ∨ a = 6745 ∨ a = 6543) → gi O a = gi N a := fO.2.2.1
    refine ⟨cp_eq cN (fun _ _ _ _ => by rw [fO.1]) (fun a ha => g2 a (by omega)), ⟨jw_eq mN.1 (fun _ => by rw [fO.1]) (g2 _ (by decide)) (fO.2.2.2 0 (by decide)) (fO.2.2.2 24 (by decide)), mN.2.1, hO, ?_, ?_⟩, ⟨?_, Nat.zero_le _, o11, fun k hk => ?_⟩, js_eq sN (fun e he => g2 _ (by unfold sa; omega)) (fun e he => g2 _ (by omega)) (g2 _ (by decide)) (g2 _ (by decide)) (g2 _ (by decide))⟩
    · unfold HO; rw [g2 _ (by decide)]; exact mN.2.2.2.1
    · unfold UM; rw [fO.2.2.2 24 (by decide)]; exact mN.2.2.2.2
    · rw [g2 _ (by decide)]; exact f.2.2.2.1
    · rw [g2 145 (by decide), g2 6486 (by decide)]; exact by' k hk
  have rr : ∀ {N}, RCF U M N → ∀ X, RA X → RN N X := by
    intro N f X hX
    by_cases e : X = U
    · rw [e]; exact f.2.2.2.2
    · unfold RN
      rw [f.2.2.1 X (by unfold RA at hX; omega) (by unfold RA at hX; omega) (by unfold RA at hX; omega) e]
      exact rn_of i1 hX
  have r3 : ∀ {N}, RCF U M N → RN N 4995 ∧ RN N 5059 ∧ RN N 5123 := fun f => ⟨rr f _ (Or.inl rfl), rr f _ (Or.inr (Or.inl rfl)), rr f _ (Or.inr (Or.inr rfl))⟩
  have dd : ∀ {N}, RCF U M N → gi N L 1 = nI D := fun f => by rw [f.2.2.1 L (by omega) (by omega) (by omega) (by omega)]; exact i1.2.1
  have cN0 : ∀ N, RCF U M N → gr N = gr M → CP N L P R S U D := fun N f e => ⟨cx_gr i1.1 (fun a j _ => by rw [e]), dd f, i1.2.2.1, r3 f⟩
  have cN1 : ∀ N, RCF U M N → (∀ j, gr N 10 j = if j = 8 then some R else if j = 6 then some U else gr M 10 j) → CP N L P U S R D := by
    intro N f e
    refine ⟨?_, dd f, i1.2.2.1, r3 f⟩
    obtain ⟨⟨x1, ⟨x2, x3, x4, x5, x6⟩, ⟨y1, y2, y3, y4, y5⟩, ⟨x8, x9⟩, ⟨z1, z2, z3, z4⟩⟩, c2⟩ := i1
    have nq : ∀ q ∈ cgt, q.1 = 10 → q.2.1 ≠ 8 ∧ q.2.1 ≠ 6 := by decide
    have lr : ∀ {L}, LA L → LR M L → LR N L := fun {L} hL h => by
      refine ⟨h.1, fun q hq => ?_, fun w hw => ?_⟩
      · rw [f.2.1 L (by unfold LA at hL; omega)]; exact h.2.1 q hq
      · rw [f.2.1 (L + 81) (by omega)]; exact h.2.2 w hw
    refine ⟨fun q hq => ?_, ⟨?_, ?_, ?_, ?_, ?_⟩, ⟨y1, y2, y5, y4, y3⟩, ⟨lr y1 x8, lr y2 x9⟩, ⟨z1, Ne.symm z4, Ne.symm z3, Ne.symm z2⟩⟩
    · by_cases q10 : q.1 = 10
      · have := nq q hq q10
        rw [q10, e, if_neg this.1, if_neg this.2, ← q10]; exact x1 q hq
      · rw [f.2.1 _ q10]; exact x1 q hq
    · rw [e, if_neg (by decide), if_neg (by decide)]; exact x2
    · rw [e, if_neg (by decide), if_neg (by decide)]; exact x3
    · rw [e, if_neg (by decide), if_pos rfl]
    · rw [e, if_neg (by decide), if_neg (by decide)]; exact x5
    · rw [e, if_pos rfl]
  have neRU : R ≠ U := i1.1.2.2.2.2.2.2.1
  have neSU : S ≠ U := i1.1.2.2.2.2.2.2.2
  obtain ⟨⟨a1, a2, a3⟩, x1, x2, x3, x4, x5, ⟨x6, x7⟩, x8⟩ := exx
  have a2' := a2
  have a3' := a3
  unfold RA at a2' a3'
  have exf : ∀ N O v R', RA R' → RCF U M N → NR N O → gi N 10 10 = v → gi N 10 9 = gi M 10 9 → gi O 6027 16 = v → (∀ i, i < 7 → gi O R' i = gi O 6543 i) → EX O L R' S D W := by
    intro N O v R' hR' f fO e10 e9 e16 eR
    have g2 : ∀ a, ¬ (a = 6027 ∨ a = 6671 ∨ a = 6745 ∨ a = 6543) → gi O a = gi N a := fO.2.2.1
    have g : ∀ a, a ≠ 199 → a ≠ 70 → a ≠ 10 → a ≠ U → gi N a = gi M a := f.2.2.1
    have gg : ∀ a, ¬ (a = 6027 ∨ a = 6671 ∨ a = 6745 ∨ a = 6543) → a ≠ 199 → a ≠ 70 → a ≠ 10 → a ≠ U → gi O a = gi M a := fun a n1 n2 n3 n4 n5 => (g2 a n1).trans (g a n2 n3 n4 n5)
    refine ⟨⟨a1, hR', a3⟩, ?_, ?_, eR, fun i hi => ?_, fun b hb => ?_, ⟨x6, x7⟩, fun w hw i hi => ?_⟩
    · rw [g2 10 (by decide), e9, x1, fO.2.2.2 9 (by decide), g 6027 (by decide) (by decide) (by decide) (by omega)]
    · rw [g2 10 (by decide), e10, e16]
    · rw [gg S (by omega) (by omega) (by omega) (by omega) neSU, gg 6607 (by decide) (by decide) (by decide) (by decide) (by omega)]; exact x4 i hi
    · rw [gg (L + 140) (by omega) (by omega) (by omega) (by omega) (by omega), gg 6157 (by decide) (by decide) (by decide) (by decide) (by omega)]; exact x5 b hb
    · rw [gg (L + 776 + 64 * w) (by omega) (by omega) (by omega) (by omega) (by omega), gg 6101 (by decide) (by decide) (by decide) (by decide) (by omega)]; exact x8 w hw i hi
  have eM : ∀ {N : Mm} {K : Int32 → Mm → Prop}, _ := fun {N} {K} => eM_rule (M := N) (T := T) (t := t) (K := K) (x0 := x0) (v0 := v0) (p0 := p0)
  have eC := eC_rule (T := T) (t := t) (x0 := x0) (v0 := v0) (p0 := p0) (K := fun r N => CI mM_rule [.ref 6027] N (fun s O => Z r s O)) i1.1 tcM
  generalize qpS T t 401 (qS0 T t x0 v0 p0) 0 = F at eM eC
  refine eC (fun N f e nf e10 e9 => ?_) (fun N f e zf e10 e9 vals => ?_)
  · obtain ⟨tp, mN, -, -, q1, q2, q3⟩ := st N f
    exact eM tp q1 q2 q3 (fun O fO e5 o11 _ o16 _ => h _ _ O ⟨L, P, R, S, U, D, W, 0, fin N O R U f (cN0 N f e) fO (by unfold HD; rw [e5]; exact mN.2.2.1) o11, exf N O _ R a2 f fO e10 e9 o16 (fun i hi => by rw [e5, fO.2.2.1 R (by omega), f.2.2.1 R (by omega) (by omega) (by omega) neRU, f.2.2.1 6543 (by decide) (by decide) (by decide) (by omega)]; exact x3 i hi)⟩ rfl) (fun O _ _ _ z => absurd z nf)
  · obtain ⟨tp, mN, -, -, q1, q2, q3⟩ := st N f
    exact eM tp q1 q2 q3 (fun O _ _ _ nf => absurd zf nf) (fun O fO hO o11 _ o16 ov => h _ _ O ⟨L, P, U, S, R, D, W, 0, fin N O U R f (cN1 N f e) fO hO o11, exf N O _ U hU f fO e10 e9 o16 (fun i hi => by rw [fO.2.2.1 U (by omega), vals i hi, ov i hi])⟩ rfl)
end EQH
