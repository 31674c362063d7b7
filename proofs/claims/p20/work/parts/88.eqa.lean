/-! ===== the class's library exactly; library on both sides ===== -/
section EQA
variable {M N : Mm} {L P R S U : Nat}
theorem eC_afterText {v : Int32} {K : Int32 → Mm → Prop} (g0 : gr M 10 0 = some 70) (g1 : gr M 10 1 = some 199) (h : K (if v < 0 then (-10) - gi M 199 6 else v) (si (si M 70 1 0) 10 10 (gi M 199 5))) : CI mC_afterText [.ref 10, .int v] M K := by
  refine call_of rfl (Nat.le_of_ble_eq_true rfl) rfl (vC_afterText_0 rfl g0 g1 ?_)
  have e : gi (si M 70 1 0) 199 5 = gi M 199 5 := giR _ _ _ _ _ _ (by decide)
  have e6 : gi (si (si M 70 1 0) 10 10 (gi M 199 5)) 199 6 = gi M 199 6 := by rw [giR _ _ _ _ _ _ (by decide), giR _ _ _ _ _ _ (by decide)]
  rw [e, e6]; exact h
theorem eC_library {T : Nat → Int32} {t : Nat} {x0 v0 p0 : Int32} {K : Int32 → Mm → Prop} (c : CX M L P R S U) (tc : TC M T t)
    (h1 : ∀ N, LCF P M N → gr N = gr M → ¬ (lpS T t 401 (lS0 T t x0 v0 p0) 0).1.1.2.2.2.2.1 = 0 → gi N 10 10 = (lpS T t 401 (lS0 T t x0 v0 p0) 0).1.1.2.2.2.2.1 → gi N 10 9 = gi M 10 9 → K ((-10) - (lpS T t 401 (lS0 T t x0 v0 p0) 0).1.1.2.2.2.2.2) N)
    (h2 : ∀ N w, LCF P M N → gr N = gr M → (lpS T t 401 (lS0 T t x0 v0 p0) 0).1.1.2.2.2.2.1 = 0 → w < (lpS T t 401 (lS0 T t x0 v0 p0) 0).1.2.1 → bdS (lpS T t 401 (lS0 T t x0 v0 p0) 0).1 w → (∀ v, v < w → ¬ bdS (lpS T t 401 (lS0 T t x0 v0 p0) 0).1 v) → gi N 10 10 = 6 → gi N 10 9 = gi M 10 9 → K ((-10) - (lpS T t 401 (lS0 T t x0 v0 p0) 0).1.2.2.2.2.2.2 w) N)
    (h3 : ∀ N, LCF P M N → (∀ j, gr N 10 j = if j = 5 then some L else if j = 4 then some P else gr M 10 j) → (lpS T t 401 (lS0 T t x0 v0 p0) 0).1.1.2.2.2.2.1 = 0 → (∀ w, w < (lpS T t 401 (lS0 T t x0 v0 p0) 0).1.2.1 → ¬ bdS (lpS T t 401 (lS0 T t x0 v0 p0) 0).1 w) → gi N 10 10 = 0 → gi N 10 9 = 255 → gi N P 1 = nI (lpS T t 401 (lS0 T t x0 v0 p0) 0).1.2.1 → (lpS T t 401 (lS0 T t x0 v0 p0) 0).1.2.1 ≤ 24 → okS (lpS T t 401 (lS0 T t x0 v0 p0) 0).1 → (∀ w, w < (lpS T t 401 (lS0 T t x0 v0 p0) 0).1.2.1 → ∀ i, i < 8 → gi N (P + 776 + 64 * w) (cf i) = (lpS T t 401 (lS0 T t x0 v0 p0) 0).1.2.2.1 w i) → (∀ b, b < 8 → gi N (P + 140) b = (lpS T t 401 (lS0 T t x0 v0 p0) 0).1.2.2.2.1 b) → K (nI (lpS T t 401 (lS0 T t x0 v0 p0) 0).2) N) : CI mC_library [.ref 10] M K := by
  have hP : LA P := c.2.2.1.2.1
  have lP : LR M P := c.2.2.2.1.2
  have hP' := hP
  unfold LA at hP'
  have pr : 258 < P := by omega
  have fa : ∀ N v, PC P M N → (∀ N', LCF P M N' → gr N' = gr M → gi N' 10 10 = gi N 199 5 → gi N' 10 9 = gi M 10 9 → K ((-10) - gi N 199 6) N') → v < 0 → X mC_library 11 [(0, .ref 10)] [.int v] N (mC mC_library, mS mC_library) (QI K) := by
    intro N v pN h hv
    have g5 : gr N 10 5 = some P := by rw [pN.1]; exact c.2.1.2.1
    refine vC_library_11 rfl g5 ⟨fun _ => vC_library_48 rfl (eC_afterText (by rw [pN.1]; exact cxg c (10, 0, 70) (by decide)) (by rw [pN.1]; exact cxg c (10, 1, 199) (by decide)) (vC_library_53 ?_)), fun q => absurd hv q⟩
    rw [if_pos hv]
    refine h _ ⟨pN.2.1, fun a _ => by show gr N a = _; rw [pN.1], fun a a1 a2 a3 a4 a5 => ?_, ?_⟩ pN.1 ?_ ?_
    · rw [gi_ne a4, gi_ne a3]; exact pN.2.2 a a1 a2 a5
    · rw [giR _ _ _ _ _ _ (by decide), gi_si, if_pos ⟨rfl, rfl⟩]
    · rw [gi_si, if_pos ⟨rfl, rfl⟩]
    · rw [gi_si, if_neg (by decide), giR _ _ _ _ _ _ (by decide), pN.2.2 10 (by decide) (by decide) (by omega)]
  refine call_of rfl (Nat.le_of_ble_eq_true rfl) rfl (vC_library_0 rfl (cxg c (10, 2, 258) (by decide)) c.2.1.2.1 ?_)
  have main := eLr_readInto (M := M) (T := T) (t := t) (r := P) (x0 := x0) (v0 := v0) (p0 := p0) (K := fun rv N => X mC_library 11 [(0, .ref 10)] [.int rv] N (mC mC_library, mS mC_library) (QI K)) lP pr (cxg c (258, 0, 199) (by decide)) tc
  generalize lpS T t 401 (lS0 T t x0 v0 p0) 0 = F at h1 h2 h3 main
  refine main (fun N pN nf e5 e6 => fa N _ pN (fun O a1 a2 a3 a4 => ?_) (by decide)) (fun N w pN zf hw b1 b2 e5 e6 => fa N _ pN (fun O a1 a2 a3 a4 => ?_) (by decide)) (fun N u pN zf nb e5 ld cl ok hl => ?_)
  · rw [e5] at a3
    rw [e6]
    exact h1 O a1 a2 nf a3 a4
  · rw [e5] at a3
    rw [e6]
    exact h2 O w a1 a2 zf hw b1 b2 a3 a4
  · have g5 : gr N 10 5 = some P := by rw [pN.1]; exact c.2.1.2.1
    have nl : ¬ nI F.2 < 0 := n0 F.2 (by omega)
    refine vC_library_11 rfl g5 ⟨fun q => absurd q nl, fun _ => lS_settle ld (fun O sO => ?_)⟩
    have gO : gr O = gr M := sO.1.trans pN.1
    refine vC_library_23 rfl (r1 := L) (r2 := P) (by rw [gO]; exact cx4 c) (by rw [gO]; exact c.2.1.2.1) (vC_library_48 rfl ?_)
    have gr' : ∀ a j, gr (si (sr (sr O 10 4 (some P)) 10 5 (some L)) 10 9 255) a j = if a = 10 ∧ j = 5 then some L else if a = 10 ∧ j = 4 then some P else gr M a j := by
      intro a j
      show gr (sr (sr O 10 4 (some P)) 10 5 (some L)) a j = _
      rw [gr_sr, gr_sr, gO]
    refine eC_afterText (by rw [gr', if_neg (by decide), if_neg (by decide)]; exact cxg c (10, 0, 70) (by decide)) (by rw [gr', if_neg (by decide), if_neg (by decide)]; exact cxg c (10, 1, 199) (by decide)) (vC_library_53 ?_)
    rw [if_neg nl]
    have hD := ok.1
    have gx : ∀ x k, x ≠ 10 → x ≠ 70 → gi (si (si (si (sr (sr O 10 4 (some P)) 10 5 (some L)) 10 9 255) 70 1 0) 10 10 (gi (si (sr (sr O 10 4 (some P)) 10 5 (some L)) 10 9 255) 199 5)) x k = gi O x k := by
      intro x k n1 n2
      rw [giR _ _ _ _ _ _ n1, giR _ _ _ _ _ _ n2, giR _ _ _ _ _ _ n1]
      rfl
    refine h3 _ ⟨?_, fun a n => ?_, fun a a1 a2 a3 a4 a5 => ?_, ?_⟩ (fun j => ?_) zf nb ?_ ?_ ?_ hD ok (fun w hw i hi => ?_) (fun b hb => ?_)
    · show gl O = _
      rw [sO.2.1, pN.2.1]
    · funext j
      show gr (si (sr (sr O 10 4 (some P)) 10 5 (some L)) 10 9 255) a j = _
      rw [gr', if_neg (fun e => n e.1), if_neg (fun e => n e.1)]
    · rw [gi_ne a4, gi_ne a3, gi_ne a4]
      show gi O a = _
      rw [sO.2.2.2.2.1 a a5, pN.2.2 a a1 a2 a5]
    · rw [giR _ _ _ _ _ _ (by decide), gi_si, if_pos ⟨rfl, rfl⟩]
    · show gr (si (sr (sr O 10 4 (some P)) 10 5 (some L)) 10 9 255) 10 j = _
      rw [gr']
      simp only [true_and]
    · rw [gi_si, if_pos ⟨rfl, rfl⟩, giR _ _ _ _ _ _ (by decide)]
      show gi O 199 5 = 0
      rw [sO.2.2.2.2.1 199 (by omega)]; exact e5
    · rw [gi_si, if_neg (by decide), giR _ _ _ _ _ _ (by decide), gi_si, if_pos ⟨rfl, rfl⟩]
    · rw [gx _ _ (by omega) (by omega), sO.2.2.1]; exact ld.2.1
    · rw [gx _ _ (by omega) (by omega), sO.2.2.2.1 w (by omega) (cf i) (by unfold cf; split <;> omega)]
      exact cl.2.2.1 w hw i hi
    · rw [gx _ _ (by omega) (by omega), sO.2.2.2.2.2]
      exact cl.2.2.2.2.1 b hb
end EQA
section EQA2
variable {M : Mm}
theorem pe_library {Z : Int32 → Int32 → Mm → Prop} (i0 : INV M) (h : ∀ r s N, INV N → r = s → Z r s N) : CI mC_library [.ref 10] M (fun r N => CI mM_library [.ref 6027] N (fun s O => Z r s O)) := by
  obtain ⟨L, P, R, S, U, D, W, t, i⟩ := i0
  obtain ⟨i1, i2, i3, i4⟩ := i
  have hP : LA P := i1.1.2.2.1.2.1
  have hL := cxL i1.1
  have hP' := hP
  have hL' := hL
  unfold LA at hP' hL'
  generalize eT : gi M 6486 = T
  generalize ex : gi M 6027 14 = x0
  generalize ev : gi M 6027 15 = v0
  generalize ep : gi M 6027 17 = p0
  have tcM : TC M T t := by rw [← eT]; exact tc_of i1.1 i3
  -- what stands of both behind the class's call
  have st : ∀ N, LCF P M N → TP N T t ∧ MP N W ∧ JS N ∧ (∀ k, k < 400 → BY (gi N 145 k) (gi N 6486 k)) ∧ gi N 6027 14 = x0 ∧ gi N 6027 15 = v0 ∧ gi N 6027 17 = p0 := by
    intro N f
    obtain ⟨f1, f2, f3, f4⟩ := f
    have g : ∀ a, a ≠ 199 → a ≠ 258 → a ≠ 70 → a ≠ 10 → ¬ (P ≤ a ∧ a < P + 2304) → gi N a = gi M a := f3
    have mN : MP N W := mp_eq i2 (fun k => by rw [f2 _ (by decide)]) (g _ (by decide) (by decide) (by decide) (by decide) (by omega)) (by rw [g _ (by decide) (by decide) (by decide) (by decide) (by omega)]) (by rw [g _ (by decide) (by decide) (by decide) (by decide) (by omega)]) (by rw [g _ (by decide) (by decide) (by decide) (by decide) (by omega)]) (by rw [g _ (by decide) (by decide) (by decide) (by decide) (by omega)])
    have sN : JS N := js_eq i4 (fun e he => g _ (by unfold sa; omega) (by unfold sa; omega) (by unfold sa; omega) (by unfold sa; omega) (by unfold sa; omega)) (fun e he => g _ (by omega) (by omega) (by omega) (by omega) (by omega)) (g _ (by decide) (by decide) (by decide) (by decide) (by omega)) (g _ (by decide) (by decide) (by decide) (by decide) (by omega)) (g _ (by decide) (by decide) (by decide) (by decide) (by omega))
    have e6 : gi N 6027 = gi M 6027 := g _ (by decide) (by decide) (by decide) (by decide) (by omega)
    have e8 : gi N 6486 = gi M 6486 := g _ (by decide) (by decide) (by decide) (by decide) (by omega)
    refine ⟨⟨mN.1.1, by rw [e6]; exact i3.2.2.1, i3.2.1, e8.trans eT⟩, mN, sN, fun k hk => ?_, by rw [e6]; exact ex, by rw [e6]; exact ev, by rw [e6]; exact ep⟩
    rw [g 145 (by decide) (by decide) (by decide) (by decide) (by omega), e8]
    exact i3.2.2.2 k hk
  have rr : ∀ {N}, LCF P M N → RN N 4995 ∧ RN N 5059 ∧ RN N 5123 := by
    intro N f
    refine ⟨?_, ?_, ?_⟩
    · unfold RN; rw [f.2.2.1 _ (by decide) (by decide) (by decide) (by decide) (by omega)]; exact i1.2.2.2.1
    · unfold RN; rw [f.2.2.1 _ (by decide) (by decide) (by decide) (by decide) (by omega)]; exact i1.2.2.2.2.1
    · unfold RN; rw [f.2.2.1 _ (by decide) (by decide) (by decide) (by decide) (by omega)]; exact i1.2.2.2.2.2
  have neq : L ≠ P := i1.1.2.2.2.2.1
  -- behind the reference's call
  have fin0 : ∀ N O L' P' D', LCF P M N → CP N L' P' R S U D' → OS N O → gi O 6027 11 = 0 → INV O := by
    intro N O L' P' D' f cN fO o11
    obtain ⟨-, mN, sN, by', -⟩ := st N f
    have g2 : ∀ a, ¬ (a = 6027 ∨ a = 6423 ∨ a = 6229 ∨ a = 6285 ∨ a = 6360) → gi O a = gi N a := fO.2.1
    refine ⟨L', P', R, S, U, D', W, 0, cp_eq cN (fun _ _ _ _ => by rw [fO.1]) (fun a ha => g2 a (by omega)), mp_eq mN (fun _ => by rw [fO.1]) (g2 _ (by decide)) (fO.2.2.1 0 (by decide)) (fO.2.2.1 24 (by decide)) (by rw [g2 _ (by decide)]) (by rw [g2 _ (by decide)]), ⟨?_, Nat.zero_le _, o11, fun k hk => ?_⟩, js_eq sN (fun e he => g2 _ (by unfold sa; omega)) (fun e he => g2 _ (by omega)) (g2 _ (by decide)) (g2 _ (by decide)) (g2 _ (by decide))⟩
    · rw [g2 _ (by decide)]; exact f.2.2.2
    · rw [g2 145 (by decide), g2 6486 (by decide)]; exact by' k hk
  have fin1 : ∀ N O L' P' D' W', LCF P M N → CP N L' P' R S U D' → NL N O → gi O 6027 11 = 0 → JW O W' → W' ≤ 24 → UM O W' → INV O := by
    intro N O L' P' D' W' f cN fO o11 jO hW uO
    obtain ⟨-, mN, sN, by', -⟩ := st N f
    have g2 : ∀ a, ¬ (a = 6027 ∨ a = 6423 ∨ a = 6229 ∨ a = 6285 ∨ a = 6360 ∨ a = 6101 ∨ a = 6157 ∨ a = 6807) → gi O a = gi N a := fO.2.1
    refine ⟨L', P', R, S, U, D', W', 0, cp_eq cN (fun _ _ _ _ => by rw [fO.1]) (fun a ha => g2 a (by omega)), ⟨jO, hW, ?_, ?_, uO⟩, ⟨?_, Nat.zero_le _, o11, fun k hk => ?_⟩, js_eq sN (fun e he => g2 _ (by unfold sa; omega)) (fun e he => g2 _ (by omega)) (g2 _ (by decide)) (g2 _ (by decide)) (g2 _ (by decide))⟩
    · unfold HD; rw [g2 _ (by decide)]; exact mN.2.2.1
    · unfold HO; rw [g2 _ (by decide)]; exact mN.2.2.2.1
    · rw [g2 _ (by decide)]; exact f.2.2.2
    · rw [g2 145 (by decide), g2 6486 (by decide)]; exact by' k hk
  have cN0 : ∀ N, LCF P M N → gr N = gr M → CP N L P R S U D := by
    intro N f e
    refine ⟨cx_gr i1.1 (fun a j _ => by rw [e]), ?_, i1.2.2.1, rr f⟩
    rw [f.2.2.1 L (by omega) (by omega) (by omega) (by omega) (by omega)]; exact i1.2.1
  have cN1 : ∀ N D', LCF P M N → (∀ j, gr N 10 j = if j = 5 then some L else if j = 4 then some P else gr M 10 j) → gi N P 1 = nI D' → D' ≤ 24 → CP N P L R S U D' := by
    intro N D' f e hD hD2
    refine ⟨?_, hD, hD2, rr f⟩
    obtain ⟨⟨x1, ⟨x2, x3, x4, x5, x6⟩, ⟨y1, y2, y3, y4, y5⟩, ⟨x8, x9⟩, ⟨z1, z2, z3, z4⟩⟩, c2⟩ := i1
    have nq : ∀ q ∈ cgt, q.1 = 10 → q.2.1 ≠ 5 ∧ q.2.1 ≠ 4 := by decide
    have lr : ∀ {L}, LA L → LR M L → LR N L := fun {L} hL h => by
      refine ⟨h.1, fun q hq => ?_, fun w hw => ?_⟩
      · rw [f.2.1 L (by unfold LA at hL; omega)]; exact h.2.1 q hq
      · rw [f.2.1 (L + 81) (by omega)]; exact h.2.2 w hw
    refine ⟨fun q hq => ?_, ⟨?_, ?_, ?_, ?_, ?_⟩, ⟨y2, y1, y3, y4, y5⟩, ⟨lr y2 x9, lr y1 x8⟩, ⟨Ne.symm z1, z2, z3, z4⟩⟩
    · by_cases q10 : q.1 = 10
      · have := nq q hq q10
        rw [q10, e, if_neg this.1, if_neg this.2, ← q10]; exact x1 q hq
      · rw [f.2.1 _ q10]; exact x1 q hq
    · rw [e, if_neg (by decide), if_pos rfl]
    · rw [e, if_pos rfl]
    · rw [e, if_neg (by decide), if_neg (by decide)]; exact x4
    · rw [e, if_neg (by decide), if_neg (by decide)]; exact x5
    · rw [e, if_neg (by decide), if_neg (by decide)]; exact x6
  have eM : ∀ {N : Mm} {K : Int32 → Mm → Prop}, _ := fun {N} {K} => eM_library (M := N) (T := T) (t := t) (K := K) (x0 := x0) (v0 := v0) (p0 := p0)
  have eC := eC_library (T := T) (t := t) (x0 := x0) (v0 := v0) (p0 := p0) (K := fun r N => CI mM_library [.ref 6027] N (fun s O => Z r s O)) i1.1 tcM
  generalize lpS T t 401 (lS0 T t x0 v0 p0) 0 = F at eM eC
  refine eC (fun N f e nf e10 e9 => ?_) (fun N w f e zf hw b1 b2 e10 e9 => ?_) (fun N f e zf nb e10 e9 hD hD2 ok rows cps => ?_)
  · obtain ⟨tp, -, -, -, q1, q2, q3⟩ := st N f
    exact eM tp q1 q2 q3 (fun O fO o11 _ _ _ => h _ _ O (fin0 N O L P D f (cN0 N f e) fO o11) rfl) (fun O w _ _ z => absurd z nf) (fun O _ _ z => absurd z nf)
  · obtain ⟨tp, -, -, -, q1, q2, q3⟩ := st N f
    refine eM tp q1 q2 q3 (fun O _ _ nf => absurd zf nf) (fun O w' fO o11 _ hw' b1' b2' _ _ => ?_) (fun O _ _ _ nb => absurd b1 (nb w hw))
    have ww : w' = w := by
      by_cases l : w' < w
      · exact absurd b1' (b2 w' l)
      · by_cases l2 : w < w'
        · exact absurd b1 (b2' w l2)
        · omega
    subst ww
    exact h _ _ O (fin0 N O L P D f (cN0 N f e) fO o11) rfl
  · obtain ⟨tp, -, -, -, q1, q2, q3⟩ := st N f
    exact eM tp q1 q2 q3 (fun O _ _ nf => absurd zf nf) (fun O w _ _ _ hw b => absurd b (nb w hw)) (fun O fO o11 _ _ _ jO hW uO _ _ _ _ => h _ _ O (fin1 N O P L _ _ f (cN1 N _ f e hD hD2) fO o11 jO hW uO) rfl)
end EQA2
