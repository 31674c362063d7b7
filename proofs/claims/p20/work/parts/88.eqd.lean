/-! ===== the class's rule exactly; rule on both sides ===== -/
section EQD
variable {M N : Mm} {L P R S U : Nat}
theorem eC_rule {T : Nat → Int32} {t : Nat} {x0 v0 p0 : Int32} {K : Int32 → Mm → Prop} (c : CX M L P R S U) (tc : TC M T t)
    (h1 : ∀ N, RCF U M N → gr N = gr M → ¬ (qpS T t 401 (qS0 T t x0 v0 p0) 0).1.1.2.2.2.2.1 = 0 → gi N 10 10 = (qpS T t 401 (qS0 T t x0 v0 p0) 0).1.1.2.2.2.2.1 → gi N 10 9 = gi M 10 9 → K ((-10) - (qpS T t 401 (qS0 T t x0 v0 p0) 0).1.1.2.2.2.2.2) N)
    (h3 : ∀ N, RCF U M N → (∀ j, gr N 10 j = if j = 8 then some R else if j = 6 then some U else gr M 10 j) → (qpS T t 401 (qS0 T t x0 v0 p0) 0).1.1.2.2.2.2.1 = 0 → gi N 10 10 = 0 → gi N 10 9 = gi M 10 9 → (∀ i, i < 7 → gi N U i = (qpS T t 401 (qS0 T t x0 v0 p0) 0).1.2.2 i) → K (nI (qpS T t 401 (qS0 T t x0 v0 p0) 0).2) N) : CI mC_rule [.ref 10] M K := by
  have hU : RA U := c.2.2.1.2.2.2.2
  have u10 : U ≠ 10 ∧ U ≠ 70 := by unfold RA at hU; omega
  have main := eRr_readInto (M := M) (T := T) (t := t) (r := U) (x0 := x0) (v0 := v0) (p0 := p0) (K := fun rv N => X mC_rule 11 [(0, .ref 10)] [.int rv] N (mC mC_rule, mS mC_rule) (QI K)) (raM3 hU) (cxg c (324, 0, 199) (by decide)) tc
  generalize qpS T t 401 (qS0 T t x0 v0 p0) 0 = F at h1 h3 main
  refine call_of rfl (Nat.le_of_ble_eq_true rfl) rfl (vC_rule_0 rfl (cxg c (10, 3, 324) (by decide)) c.2.1.2.2.2.2 (main (fun N pN rn nf e5 e6 => ?_) (fun N pN rn zf e5 vals hl => ?_)))
  · have g6 : gr N 10 6 = some R := by rw [pN.1]; exact cx6 c
    have g8 : gr N 10 8 = some U := by rw [pN.1]; exact c.2.1.2.2.2.2
    refine vC_rule_11 rfl g6 g8 ⟨fun _ => vC_rule_34 rfl (eC_afterText (by rw [pN.1]; exact cxg c (10, 0, 70) (by decide)) (by rw [pN.1]; exact cxg c (10, 1, 199) (by decide)) (vC_rule_39 ?_)), fun q => absurd (by decide) q⟩
    rw [if_pos (by decide), e6]
    refine h1 _ ⟨pN.2.1, fun a _ => by show gr N a = _; rw [pN.1], fun a a1 a3 a4 a5 => ?_, ?_, ?_⟩ pN.1 nf ?_ ?_
    · rw [gi_ne a4, gi_ne a3]; exact pN.2.2 a a1 a5
    · rw [giR _ _ _ _ _ _ (by decide), gi_si, if_pos ⟨rfl, rfl⟩]
    · unfold RN
      rw [giR _ _ _ _ _ _ u10.1, giR _ _ _ _ _ _ u10.2]; exact rn
    · rw [gi_si, if_pos ⟨rfl, rfl⟩]; exact e5
    · rw [gi_si, if_neg (by decide), giR _ _ _ _ _ _ (by decide), pN.2.2 10 (by decide) (Ne.symm u10.1)]
  · have g6 : gr N 10 6 = some R := by rw [pN.1]; exact cx6 c
    have g8 : gr N 10 8 = some U := by rw [pN.1]; exact c.2.1.2.2.2.2
    have nl : ¬ nI F.2 < 0 := n0 F.2 (by omega)
    refine vC_rule_11 rfl g6 g8 ⟨fun q => absurd q nl, fun _ => vC_rule_34 rfl ?_⟩
    have gr' : ∀ a j, gr (sr (sr N 10 6 (some U)) 10 8 (some R)) a j = if a = 10 ∧ j = 8 then some R else if a = 10 ∧ j = 6 then some U else gr M a j := by
      intro a j
      rw [gr_sr, gr_sr, pN.1]
    have gi' : ∀ a, gi (sr (sr N 10 6 (some U)) 10 8 (some R)) a = gi N a := fun a => rfl
    refine eC_afterText (by rw [gr', if_neg (by decide), if_neg (by decide)]; exact cxg c (10, 0, 70) (by decide)) (by rw [gr', if_neg (by decide), if_neg (by decide)]; exact cxg c (10, 1, 199) (by decide)) (vC_rule_39 ?_)
    rw [if_neg nl]
    refine h3 _ ⟨pN.2.1, fun a n => ?_, fun a a1 a3 a4 a5 => ?_, ?_, ?_⟩ (fun j => ?_) zf ?_ ?_ (fun i hi => ?_)
    · funext j
      show gr (sr (sr N 10 6 (some U)) 10 8 (some R)) a j = _
      rw [gr', if_neg (fun e => n e.1), if_neg (fun e => n e.1)]
    · rw [gi_ne a4, gi_ne a3]; exact pN.2.2 a a1 a5
    · rw [giR _ _ _ _ _ _ (by decide), gi_si, if_pos ⟨rfl, rfl⟩]
    · unfold RN
      rw [giR _ _ _ _ _ _ u10.1, giR _ _ _ _ _ _ u10.2]; exact rn
    · show gr (sr (sr N 10 6 (some U)) 10 8 (some R)) 10 j = _
      rw [gr']
      simp only [true_and]
    · rw [gi_si, if_pos ⟨rfl, rfl⟩]; exact e5
    · rw [gi_si, if_neg (by decide), giR _ _ _ _ _ _ (by decide), gi', pN.2.2 10 (by decide) (Ne.symm u10.1)]
    · rw [giR _ _ _ _ _ _ u10.1, giR _ _ _ _ _ _ u10.2, gi']; exact vals i hi
end EQD
section EQD2
variable {M : Mm}
theorem pe_rule {Z : Int32 → Int32 → Mm → Prop} (i0 : INV M) (h : ∀ r s N, INV N → r = s → Z r s N) : CI mC_rule [.ref 10] M (fun r N => CI mM_rule [.ref 6027] N (fun s O => Z r s O)) := by
  obtain ⟨L, P, R, S, U, D, W, t, i⟩ := i0
  obtain ⟨i1, i2, i3, i4⟩ := i
  have hU : RA U := i1.1.2.2.1.2.2.2.2
  have hL := cxL i1.1
  have hU' := hU
  have hL' := hL
  unfold RA at hU'
  unfold LA at hL'
  generalize eT : gi M 6486 = T
  generalize ex : gi M 6027 14 = x0
  generalize ev : gi M 6027 15 = v0
  generalize ep : gi M 6027 17 = p0
  have tcM : TC M T t := by rw [← eT]; exact tc_of i1.1 i3
  have st : ∀ N, RCF U M N → TP N T t ∧ MP N W ∧ JS N ∧ (∀ k, k < 400 → BY (gi N 145 k) (gi N 6486 k)) ∧ gi N 6027 14 = x0 ∧ gi N 6027 15 = v0 ∧ gi N 6027 17 = p0 := by
    intro N f
    obtain ⟨f1, f2, f3, f4, f5⟩ := f
    have g : ∀ a, a ≠ 199 → a ≠ 70 → a ≠ 10 → a ≠ U → gi N a = gi M a := f3
    have mN : MP N W := mp_eq i2 (fun k => by rw [f2 _ (by decide)]) (g _ (by decide) (by decide) (by decide) (by omega)) (by rw [g _ (by decide) (by decide) (by decide) (by omega)]) (by rw [g _ (by decide) (by decide) (by decide) (by omega)]) (by rw [g _ (by decide) (by decide) (by decide) (by omega)]) (by rw [g _ (by decide) (by decide) (by decide) (by omega)])
    have sN : JS N := js_eq i4 (fun e he => g _ (by unfold sa; omega) (by unfold sa; omega) (by unfold sa; omega) (by unfold sa; omega)) (fun e he => g _ (by omega) (by omega) (by omega) (by omega)) (g _ (by decide) (by decide) (by decide) (by omega)) (g _ (by decide) (by decide) (by decide) (by omega)) (g _ (by decide) (by decide) (by decide) (by omega))
    have e6 : gi N 6027 = gi M 6027 := g _ (by decide) (by decide) (by decide) (by omega)
    have e8 : gi N 6486 = gi M 6486 := g _ (by decide) (by decide) (by decide) (by omega)
    refine ⟨⟨mN.1.1, by rw [e6]; exact i3.2.2.1, i3.2.1, e8.trans eT⟩, mN, sN, fun k hk => ?_, by rw [e6]; exact ex, by rw [e6]; exact ev, by rw [e6]; exact ep⟩
    rw [g 145 (by decide) (by decide) (by decide) (by omega), e8]
    exact i3.2.2.2 k hk
  have fin : ∀ N O R' U', RCF U M N → CP N L P R' S U' D → NR N O → HD O → gi O 6027 11 = 0 → INV O := by
    intro N O R' U' f cN fO hO o11
    obtain ⟨-, mN, sN, by', -⟩ := st N f
    have g2 : ∀ a, ¬ (a = 6027 ∨ a = 6671 ∨ a = 6745 ∨ a = 6543) → gi O a = gi N a := fO.2.2.1
    refine ⟨L, P, R', S, U', D, W, 0, cp_eq cN (fun _ _ _ _ => by rw [fO.1]) (fun a ha => g2 a (by omega)), ⟨jw_eq mN.1 (fun _ => by rw [fO.1]) (g2 _ (by decide)) (fO.2.2.2 0 (by decide)) (fO.2.2.2 24 (by decide)), mN.2.1, hO, ?_, ?_⟩, ⟨?_, Nat.zero_le _, o11, fun k hk => ?_⟩, js_eq sN (fun e he => g2 _ (by unfold sa; omega)) (fun e he => g2 _ (by omega)) (g2 _ (by decide)) (g2 _ (by decide)) (g2 _ (by decide))⟩
    · unfold HO; rw [g2 _ (by decide)]; exact mN.2.2.2.1
    · unfold UM; rw [fO.2.2.2 24 (by decide)]; exact mN.2.2.2.2
    · rw [g2 _ (by decide)]; exact f.2.2.2.1
    · rw [g2 145 (by decide), g2 6486 (by decide)]; exact by' k hk
  have rr : ∀ {N}, RCF U M N → ∀ X, RA X → RN N X := by
    intro N f X hX
    by_cases e : X = U
    · rw [e]; exact f.2.2.2.2
    · unfold RN
      rw [f.2.2.1 X (by unfold RA at hX; omega) (by unfold RA at hX; omega) (by unfold RA at hX; omega) e]
      exact rn_of i1 hX
  have r3 : ∀ {N}, RCF U M N → RN N 4995 ∧ RN N 5059 ∧ RN N 5123 := fun f => ⟨rr f _ (Or.inl rfl), rr f _ (Or.inr (Or.inl rfl)), rr f _ (Or.inr (Or.inr rfl))⟩
  have dd : ∀ {N}, RCF U M N → gi N L 1 = nI D := fun f => by rw [f.2.2.1 L (by omega) (by omega) (by omega) (by omega)]; exact i1.2.1
  have cN0 : ∀ N, RCF U M N → gr N = gr M → CP N L P R S U D := fun N f e => ⟨cx_gr i1.1 (fun a j _ => by rw [e]), dd f, i1.2.2.1, r3 f⟩
  have cN1 : ∀ N, RCF U M N → (∀ j, gr N 10 j = if j = 8 then some R else if j = 6 then some U else gr M 10 j) → CP N L P U S R D := by
    intro N f e
    refine ⟨?_, dd f, i1.2.2.1, r3 f⟩
    obtain ⟨⟨x1, ⟨x2, x3, x4, x5, x6⟩, ⟨y1, y2, y3, y4, y5⟩, ⟨x8, x9⟩, ⟨z1, z2, z3, z4⟩⟩, c2⟩ := i1
    have nq : ∀ q ∈ cgt, q.1 = 10 → q.2.1 ≠ 8 ∧ q.2.1 ≠ 6 := by decide
    have lr : ∀ {L}, LA L → LR M L → LR N L := fun {L} hL h => by
      refine ⟨h.1, fun q hq => ?_, fun w hw => ?_⟩
      · rw [f.2.1 L (by unfold LA at hL; omega)]; exact h.2.1 q hq
      · rw [f.2.1 (L + 81) (by omega)]; exact h.2.2 w hw
    refine ⟨fun q hq => ?_, ⟨?_, ?_, ?_, ?_, ?_⟩, ⟨y1, y2, y5, y4, y3⟩, ⟨lr y1 x8, lr y2 x9⟩, ⟨z1, Ne.symm z4, Ne.symm z3, Ne.symm z2⟩⟩
    · by_cases q10 : q.1 = 10
      · have := nq q hq q10
        rw [q10, e, if_neg this.1, if_neg this.2, ← q10]; exact x1 q hq
      · rw [f.2.1 _ q10]; exact x1 q hq
    · rw [e, if_neg (by decide), if_neg (by decide)]; exact x2
    · rw [e, if_neg (by decide), if_neg (by decide)]; exact x3
    · rw [e, if_neg (by decide), if_pos rfl]
    · rw [e, if_neg (by decide), if_neg (by decide)]; exact x5
    · rw [e, if_pos rfl]
  have eM : ∀ {N : Mm} {K : Int32 → Mm → Prop}, _ := fun {N} {K} => eM_rule (M := N) (T := T) (t := t) (K := K) (x0 := x0) (v0 := v0) (p0 := p0)
  have eC := eC_rule (T := T) (t := t) (x0 := x0) (v0 := v0) (p0 := p0) (K := fun r N => CI mM_rule [.ref 6027] N (fun s O => Z r s O)) i1.1 tcM
  generalize qpS T t 401 (qS0 T t x0 v0 p0) 0 = F at eM eC
  refine eC (fun N f e nf e10 e9 => ?_) (fun N f e zf e10 e9 vals => ?_)
  · obtain ⟨tp, mN, -, -, q1, q2, q3⟩ := st N f
    exact eM tp q1 q2 q3 (fun O fO e5 o11 _ _ _ => h _ _ O (fin N O R U f (cN0 N f e) fO (by unfold HD; rw [e5]; exact mN.2.2.1) o11) rfl) (fun O _ _ _ z => absurd z nf)
  · obtain ⟨tp, mN, -, -, q1, q2, q3⟩ := st N f
    exact eM tp q1 q2 q3 (fun O _ _ _ nf => absurd zf nf) (fun O fO hO o11 _ _ _ => h _ _ O (fin N O U R f (cN1 N f e) fO hO o11) rfl)
end EQD2
