/-! ===== the class's rule exactly; rule on both sides ===== -/
section EQD
variable {M N : Mm} {L P R S U : Nat}
theorem eC_rule {T : Nat → Int32} {t : Nat} {x0 v0 p0 : Int32} {K : Int32 → Mm → Prop} (c : CX M L P R S U) (tc : TC M T t)
    (h1 : ∀ N, RCF U M N → gr N = gr M → ¬ (qpS T t 401 (qS0 T t x0 v0 p0) 0).1.1.2.2.2.2.1 = 0 → gi N 10 10 = (qpS T t 401 (qS0 T t x0 v0 p0) 0).1.1.2.2.2.2.1 → gi N 10 9 = gi M 10 9 → K ((-10) - (qpS T t 401 (qS0 T t x0 v0 p0) 0).1.1.2.2.2.2.2) N)
    (h3 : ∀ N, RCF U M N → (∀ j, gr N 10 j = if j = 8 then some R else if j = 6 then some U else gr M 10 j) → (qpS T t 401 (qS0 T t x0 v0 p0) 0).1.1.2.2.2.2.1 = 0 → gi N 10 10 = 0 → gi N 10 9 = gi M 10 9 → (∀ i, i < 7 → gi N U i = (qpS T t 401 (qS0 T t x0 v0 p0) 0).1.2.2 i) → K (nI (qpS T t 401 (qS0 T t x0 v0 p0) 0).2) N) : CI mC_rule [.ref 10] M K := by
  have hU : RA U := c.2.2.1.2.2.2.2
  have u10 : U ≠ 10 ∧ U ≠ 70 := by unfold RA at hU; omega
  have main := eRr_readInto (M := M) (T := T) (t := t) (r := U) (x0 := x0) (v0 := v0) (p0 := p0) (K := fun rv N => X mC_rule 11 [(0, .ref 10)] [.int rv] N (mC mC_rule, mS mC_rule) (QI K)) (raM3 hU) (cxg c (324, 0, 199) (by decide)) tc
  generalize qpS T t 401 (qS0 T t x0 v0 p0) 0 = F at h1 h3 main
  refine call_of rfl (Nat.le_of_ble_eq_true rfl) rfl (vC_rule_0 rfl (cxg c (10, 3, 324) (by decide)) c.2.1.2.2.2.2 (main (fun N pN rn nf e5 e6 => ?_) (fun N pN rn zf e5 vals hl => ?_)))
  · have g6 : gr N 10 6 = some R := by rw [pN.1]; exact cx6 c
    have g8 : gr N 10 8 = some U := by rw [pN.1]; exact c.2.1.2.2.2.2
    refine vC_rule_11 rfl g6 g8 ⟨fun _ => vC_rule_34 rfl (eC_afterText (by rw [pN.1]; exact cxg c (10, 0, 70) (by decide)) (by rw [pN.1]; exact cxg c (10, 1, 199) (by decide)) (vC_rule_39 ?_)), fun q => absurd (by decide) q⟩
    rw [if_pos (by decide), e6]
    refine h1 _ ⟨pN.2.1, fun a _ => by show gr N a = _; rw [pN.1], fun a a1 a3 a4 a5 => ?_, ?_, ?_⟩ pN.1 nf ?_ ?_
    · rw [gi_ne a4, gi_ne a3]; exact pN.2.2 a a1 a5
    · rw [giR _ _ _ _ _ _ (by decide), gi_si, if_pos ⟨rfl, rfl⟩]
    · unfold RN
      rw [giR _ _ _ _ _ _ u10.1, giR _ _ _ _ _ _ u10.2]; exact rn
    · rw [gi_si, if_pos ⟨rfl, rfl⟩]; exact e5
    · rw [gi_si, if_neg (by decide), giR _ _ _ _ _ _ (by decide), pN.2.2 10 (by decide) (Ne.symm u10.1)]
  · have g6 : gr N 10 6 = some R := by rw [pN.1]; exact cx6 c
    have g8 : gr N 10 8 = some U := by rw [pN.1]; exact c.2.1.2.2.2.2
    have nl : ¬ nI F.2 < 0 := n0 F.2 (by omega)
    refine vC_rule_11 rfl g6 g8 ⟨fun q => absurd q nl, fun _ => vC_rule_34 rfl ?_⟩
    have gr' : ∀ a j, gr (sr (sr N 10 6 (some U)) 10 8 (some R)) a j = if a = 10 ∧ j = 8 then some R else if a = 10 ∧ j = 6 then some U else gr M a j := by
      intro a j
      rw [gr_sr, gr_sr, pN.1]
    have gi' : ∀ a, gi (sr (sr N 10 6 (some U)) 10 8 (some R)) a = gi N a := fun a => rfl
    refine eC_afterText (by rw [gr', if_neg (by decide), if_neg (by decide)]; exact cxg c (10, 0, 70) (by decide)) (by rw [gr', if_neg (by decide), if_neg (by decide)]; exact cxg c (10, 1, 199) (by decide)) (vC_rule_39 ?_)
    rw [if_neg nl]
    refine h3 _ ⟨pN.2.1, fun a n => ?_, fun a a1 a3 a4 a5 => ?_, ?_, ?_⟩ (fun j => ?_) zf ?_ ?_ (fun i hi => ?_)
    · funext j
      show gr (sr (sr N 10 6 (some U)) 10 8 (some R)) a j = _
      rw [gr', if_neg (fun e => n e.1), if_neg (fun e => n e.1)]
    · rw [gi_ne a4, gi_ne a3]; exact pN.2.2 a a1 a5
    · rw [giR _ _ _ _ _ _ (by decide), gi_si, if_pos ⟨rfl, rfl⟩]
    · unfold RN
      rw [giR _ _ _ _ _ _ u10.1, giR _ _ _ _ _ _ u10.2]; exact rn
    · show gr (sr (sr N 10 6 (some U)) 10 8 (some R)) 10 j = _
      rw [gr']
      simp only [true_and]
    · rw [gi_si, if_pos ⟨rfl, rfl⟩]; exact e5
    · rw [gi_si, if_neg (by decide), giR _ _ _ _ _ _ (by decide), gi', pN.2.2 10 (by decide) (Ne.symm u10.1)]
    · rw [giR _ _ _ _ _ _ u10.1, giR _ _ _ _ _ _ u10.2, gi']; exact vals i hi
end EQD
section EQD2
variable {M : Mm}
end EQD2
