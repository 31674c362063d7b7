/-! ===== the class's library exactly; library on both sides ===== -/
section EQA
variable {M N : Mm} {L P R S U : Nat}
theorem eC_afterText {v : Int32} {K : Int32 → Mm → Prop} (g0 : gr M 10 0 = some 70) (g1 : gr M 10 1 = some 199) (h : K (if v < 0 then (-10) - gi M 199 6 else v) (si (si M 70 1 0) 10 10 (gi M 199 5))) : CI mC_afterText [.ref 10, .int v] M K := by
  refine call_of rfl (Nat.le_of_ble_eq_true rfl) rfl (vC_afterText_0 rfl g0 g1 ?_)
  have e : gi (si M 70 1 0) 199 5 = gi M 199 5 := giR _ _ _ _ _ _ (by decide)
  have e6 : gi (si (si M 70 1 0) 10 10 (gi M 199 5)) 199 6 = gi M 199 6 := by rw [giR _ _ _ _ _ _ (by decide), giR _ _ _ _ _ _ (by decide)]
  rw [e, e6]; exact h
theorem eC_library {T : Nat → Int32} {t : Nat} {x0 v0 p0 : Int32} {K : Int32 → Mm → Prop} (c : CX M L P R S U) (tc : TC M T t)
    (h1 : ∀ N, LCF P M N → gr N = gr M → ¬ (lpS T t 401 (lS0 T t x0 v0 p0) 0).1.1.2.2.2.2.1 = 0 → gi N 10 10 = (lpS T t 401 (lS0 T t x0 v0 p0) 0).1.1.2.2.2.2.1 → gi N 10 9 = gi M 10 9 → K ((-10) - (lpS T t 401 (lS0 T t x0 v0 p0) 0).1.1.2.2.2.2.2) N)
    (h2 : ∀ N w, LCF P M N → gr N = gr M → (lpS T t 401 (lS0 T t x0 v0 p0) 0).1.1.2.2.2.2.1 = 0 → w < (lpS T t 401 (lS0 T t x0 v0 p0) 0).1.2.1 → bdS (lpS T t 401 (lS0 T t x0 v0 p0) 0).1 w → (∀ v, v < w → ¬ bdS (lpS T t 401 (lS0 T t x0 v0 p0) 0).1 v) → gi N 10 10 = 6 → gi N 10 9 = gi M 10 9 → K ((-10) - (lpS T t 401 (lS0 T t x0 v0 p0) 0).1.2.2.2.2.2.2 w) N)
    (h3 : ∀ N, LCF P M N → (∀ j, gr N 10 j = if j = 5 then some L else if j = 4 then some P else gr M 10 j) → (lpS T t 401 (lS0 T t x0 v0 p0) 0).1.1.2.2.2.2.1 = 0 → (∀ w, w < (lpS T t 401 (lS0 T t x0 v0 p0) 0).1.2.1 → ¬ bdS (lpS T t 401 (lS0 T t x0 v0 p0) 0).1 w) → gi N 10 10 = 0 → gi N 10 9 = 255 → gi N P 1 = nI (lpS T t 401 (lS0 T t x0 v0 p0) 0).1.2.1 → (lpS T t 401 (lS0 T t x0 v0 p0) 0).1.2.1 ≤ 24 → okS (lpS T t 401 (lS0 T t x0 v0 p0) 0).1 → (∀ w, w < (lpS T t 401 (lS0 T t x0 v0 p0) 0).1.2.1 → ∀ i, i < 8 → gi N (P + 776 + 64 * w) (cf i) = (lpS T t 401 (lS0 T t x0 v0 p0) 0).1.2.2.1 w i) → (∀ b, b < 8 → gi N (P + 140) b = (lpS T t 401 (lS0 T t x0 v0 p0) 0).1.2.2.2.1 b) → K (nI (lpS T t 401 (lS0 T t x0 v0 p0) 0).2) N) : CI mC_library [.ref 10] M K := by
  have hP : LA P := c.2.2.1.2.1
  have lP : LR M P := c.2.2.2.1.2
  have hP' := hP
  unfold LA at hP'
  have pr : 258 < P := by omega
  have fa : ∀ N v, PC P M N → (∀ N', LCF P M N' → gr N' = gr M → gi N' 10 10 = gi N 199 5 → gi N' 10 9 = gi M 10 9 → K ((-10) - gi N 199 6) N') → v < 0 → X mC_library 11 [(0, .ref 10)] [.int v] N (mC mC_library, mS mC_library) (QI K) := by
    intro N v pN h hv
    have g5 : gr N 10 5 = some P := by rw [pN.1]; exact c.2.1.2.1
    refine vC_library_11 rfl g5 ⟨fun _ => vC_library_48 rfl (eC_afterText (by rw [pN.1]; exact cxg c (10, 0, 70) (by decide)) (by rw [pN.1]; exact cxg c (10, 1, 199) (by decide)) (vC_library_53 ?_)), fun q => absurd hv q⟩
    rw [if_pos hv]
    refine h _ ⟨pN.2.1, fun a _ => by show gr N a = _; rw [pN.1], fun a a1 a2 a3 a4 a5 => ?_, ?_⟩ pN.1 ?_ ?_
    · rw [gi_ne a4, gi_ne a3]; exact pN.2.2 a a1 a2 a5
    · rw [giR _ _ _ _ _ _ (by decide), gi_si, if_pos ⟨rfl, rfl⟩]
    · rw [gi_si, if_pos ⟨rfl, rfl⟩]
    · rw [gi_si, if_neg (by decide), giR _ _ _ _ _ _ (by decide), pN.2.2 10 (by decide) (by decide) (by omega)]
  refine call_of rfl (Nat.le_of_ble_eq_true rfl) rfl (vC_library_0 rfl (cxg c (10, 2, 258) (by decide)) c.2.1.2.1 ?_)
  have main := eLr_readInto (M := M) (T := T) (t := t) (r := P) (x0 := x0) (v0 := v0) (p0 := p0) (K := fun rv N => X mC_library 11 [(0, .ref 10)] [.int rv] N (mC mC_library, mS mC_library) (QI K)) lP pr (cxg c (258, 0, 199) (by decide)) tc
  generalize lpS T t 401 (lS0 T t x0 v0 p0) 0 = F at h1 h2 h3 main
  refine main (fun N pN nf e5 e6 => fa N _ pN (fun O a1 a2 a3 a4 => ?_) (by decide)) (fun N w pN zf hw b1 b2 e5 e6 => fa N _ pN (fun O a1 a2 a3 a4 => ?_) (by decide)) (fun N u pN zf nb e5 ld cl ok hl => ?_)
  · rw [e5] at a3
    rw [e6]
    exact h1 O a1 a2 nf a3 a4
  · rw [e5] at a3
    rw [e6]
    exact h2 O w a1 a2 zf hw b1 b2 a3 a4
  · have g5 : gr N 10 5 = some P := by rw [pN.1]; exact c.2.1.2.1
    have nl : ¬ nI F.2 < 0 := n0 F.2 (by omega)
    refine vC_library_11 rfl g5 ⟨fun q => absurd q nl, fun _ => lS_settle ld (fun O sO => ?_)⟩
    have gO : gr O = gr M := sO.1.trans pN.1
    refine vC_library_23 rfl (r1 := L) (r2 := P) (by rw [gO]; exact cx4 c) (by rw [gO]; exact c.2.1.2.1) (vC_library_48 rfl ?_)
    have gr' : ∀ a j, gr (si (sr (sr O 10 4 (some P)) 10 5 (some L)) 10 9 255) a j = if a = 10 ∧ j = 5 then some L else if a = 10 ∧ j = 4 then some P else gr M a j := by
      intro a j
      show gr (sr (sr O 10 4 (some P)) 10 5 (some L)) a j = _
      rw [gr_sr, gr_sr, gO]
    refine eC_afterText (by rw [gr', if_neg (by decide), if_neg (by decide)]; exact cxg c (10, 0, 70) (by decide)) (by rw [gr', if_neg (by decide), if_neg (by decide)]; exact cxg c (10, 1, 199) (by decide)) (vC_library_53 ?_)
    rw [if_neg nl]
    have hD := ok.1
    have gx : ∀ x k, x ≠ 10 → x ≠ 70 → gi (si (si (si (sr (sr O 10 4 (some P)) 10 5 (some L)) 10 9 255) 70 1 0) 10 10 (gi (si (sr (sr O 10 4 (some P)) 10 5 (some L)) 10 9 255) 199 5)) x k = gi O x k := by
      intro x k n1 n2
      rw [giR _ _ _ _ _ _ n1, giR _ _ _ _ _ _ n2, giR _ _ _ _ _ _ n1]
      rfl
    refine h3 _ ⟨?_, fun a n => ?_, fun a a1 a2 a3 a4 a5 => ?_, ?_⟩ (fun j => ?_) zf nb ?_ ?_ ?_ hD ok (fun w hw i hi => ?_) (fun b hb => ?_)
    · show gl O = _
      rw [sO.2.1, pN.2.1]
    · funext j
      show gr (si (sr (sr O 10 4 (some P)) 10 5 (some L)) 10 9 255) a j = _
      rw [gr', if_neg (fun e => n e.1), if_neg (fun e => n e.1)]
    · rw [gi_ne a4, gi_ne a3, gi_ne a4]
      show gi O a = _
      rw [sO.2.2.2.2.1 a a5, pN.2.2 a a1 a2 a5]
    · rw [giR _ _ _ _ _ _ (by decide), gi_si, if_pos ⟨rfl, rfl⟩]
    · show gr (si (sr (sr O 10 4 (some P)) 10 5 (some L)) 10 9 255) 10 j = _
      rw [gr']
      simp only [true_and]
    · rw [gi_si, if_pos ⟨rfl, rfl⟩, giR _ _ _ _ _ _ (by decide)]
      show gi O 199 5 = 0
      rw [sO.2.2.2.2.1 199 (by omega)]; exact e5
    · rw [gi_si, if_neg (by decide), giR _ _ _ _ _ _ (by decide), gi_si, if_pos ⟨rfl, rfl⟩]
    · rw [gx _ _ (by omega) (by omega), sO.2.2.1]; exact ld.2.1
    · rw [gx _ _ (by omega) (by omega), sO.2.2.2.1 w (by omega) (cf i) (by unfold cf; split <;> omega)]
      exact cl.2.2.1 w hw i hi
    · rw [gx _ _ (by omega) (by omega), sO.2.2.2.2.2]
      exact cl.2.2.2.2.1 b hb
end EQA
section EQA2
variable {M : Mm}
end EQA2
