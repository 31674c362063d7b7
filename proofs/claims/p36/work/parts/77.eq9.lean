/-! ===== the reference's library, as the lines tell it ===== -/
/-- the reference's draft stands as the lines tell it -/
def ML (N : Mm) (σ : LSt) : Prop := gi N 6027 3 = nI σ.2.1 ∧ (∀ w, w < σ.2.1 → ∀ i, i < 8 → gi N 6229 (10 * w + i) = σ.2.2.1 w i) ∧ (∀ w, w < σ.2.1 → kCN (σ.2.2.1 w 0) → gi N 6423 w = σ.2.2.2.2.2.2 w) ∧ (∀ b, b < 8 → gi N 6285 b = σ.2.2.2.1 b) ∧ gi N 6027 8 = σ.2.2.2.2.2.1 ∧ ∀ b, b < 8 → gi N 6360 b = σ.2.2.2.2.1 b
section EQ9
variable {M N : Mm} {T : Nat → Int32} {t : Nat}
theorem ml_eq {σ : LSt} (h : ∀ a, a = 6229 ∨ a = 6423 ∨ a = 6285 ∨ a = 6360 → gi N a = gi M a) (h3 : gi N 6027 3 = gi M 6027 3) (h8 : gi N 6027 8 = gi M 6027 8) (l : ML M σ) : ML N σ := by
  unfold ML
  rw [h 6229 (by decide), h 6423 (by decide), h 6285 (by decide), h 6360 (by decide), h3, h8]
  exact l
theorem ml_pf {σ : LSt} (f : PF M N) (l : ML M σ) : ML N σ := ml_eq (fun a ha => f.2.2.1 a (by omega)) (f.2.2.2 3 (by decide)) (f.2.2.2 8 (by decide)) l
theorem ml_lb {σ : LSt} (ok : okS σ) (l : ML M σ) : LB M σ.2.1 := by
  obtain ⟨l1, l2, l3, l4, l5, l6⟩ := l
  refine ⟨l1, ok.1, by rw [l5]; exact ok.2.1, fun w hw => ?_⟩
  have h0 := l2 w hw 0 (by decide)
  rw [Nat.add_zero] at h0
  unfold RK
  rw [l2 w hw 2 (by decide), h0, l2 w hw 6 (by decide)]
  exact ok.2.2 w hw
theorem bad_eq {σ : LSt} {w : Nat} (ok : okS σ) (l : ML M σ) (hw : w < σ.2.1) : bad M σ.2.1 w ↔ bdS σ w := by
  obtain ⟨l1, l2, l3, l4, l5, l6⟩ := l
  have hD := ok.1
  obtain ⟨-, k, hk, ek, h⟩ := ok.2.2 w hw
  unfold bad bdS
  rw [l2 w hw 6 (by decide)]
  rcases h with ⟨n, e⟩ | ⟨n, f, hf, e⟩
  · rw [e]
    exact ⟨fun z => absurd rfl z.1, fun z => absurd rfl z.1⟩
  · rw [e, ncl (by omega)]
    by_cases lf : f < σ.2.1
    · have h0 := l2 f lf 0 (by decide)
      rw [Nat.add_zero] at h0
      rw [h0]
    · have le : nI σ.2.1 ≤ nI f := by rw [nle (by omega) (by omega)]; omega
      exact ⟨fun z => ⟨z.1, Or.inl le⟩, fun z => ⟨z.1, Or.inl le⟩⟩
theorem nM_lnS {σ : LSt} {K : Mm → Prop} (rd : RD M T t σ.1) (ml : ML M σ) (ok : okS σ) (h : ∀ N, PL M N → RD N T t (lnS T t σ).1 → ((lnS T t σ).1.2.2.2.2.1 = 0 → ML N (lnS T t σ)) → K N) : CV mM_readLine [.ref 6027] M K := by
  have e4 : ln4 T t σ.2.1 (gi M 6360) σ.1 = (lnS T t σ).1 := by rw [lnS_1]; exact ln4_cg ml.2.2.2.2.2
  refine nM_readLine rd ml.1 ok.1 (fun N pl rN nf => ?_) (fun N O pN pO rO z k => ?_) (fun N O i pN pO rO z k hi ei => ?_) (fun N O pN pO rO z k1 k2 hp => ?_)
  · rw [e4] at rN nf
    exact h N pl rN (fun y => absurd y nf)
  · rw [e4] at rO z
    refine h O (pl_tr (pl_pf pN) (pl_tr (pl_si (by decide)) (pl_pf pO))) rO (fun _ => ml_pf pO ?_)
    have f4 : (ln4 T t σ.2.1 σ.2.2.2.2.1 σ.1).2.2.2.2.1 = 0 := by rw [← lnS_1]; exact z
    have eS : lnS T t σ = (ln4 T t σ.2.1 σ.2.2.2.2.1 σ.1, σ.2.1, σ.2.2.1, σ.2.2.2.1, σ.2.2.2.2.1, (ln2 T t σ.2.1 σ.1).2.2.2.1, σ.2.2.2.2.2.2) := by
      unfold lnS; rw [if_neg (fun q => q f4), if_pos k]
    rw [eS]
    generalize ln4 T t σ.2.1 σ.2.2.2.2.1 σ.1 = s4
    obtain ⟨l1, l2, l3, l4, l5, l6⟩ := ml_pf pN ml
    unfold ML
    dsimp only
    rw [gi_ne (show (6229 : Nat) ≠ 6027 by decide), gi_ne (show (6423 : Nat) ≠ 6027 by decide), gi_ne (show (6285 : Nat) ≠ 6027 by decide), gi_ne (show (6360 : Nat) ≠ 6027 by decide), g6 _ _ _ _ (by decide), g6s]
    exact ⟨l1, l2, l3, l4, rfl, l6⟩
  · rw [e4] at rO z
    refine h O (pl_tr (pl_pf pN) (pl_tr (pl_si (Or.inl (by decide))) (pl_tr (pl_si (Or.inl (by decide))) (pl_pf pO)))) rO (fun _ => ml_pf pO ?_)
    have f4 : (ln4 T t σ.2.1 σ.2.2.2.2.1 σ.1).2.2.2.2.1 = 0 := by rw [← lnS_1]; exact z
    have n10 : ¬ lnk T t σ.1 = 10 := by rw [k]; decide
    have eS : lnS T t σ = (ln4 T t σ.2.1 σ.2.2.2.2.1 σ.1, σ.2.1, σ.2.2.1, up1 σ.2.2.2.1 (ln2 T t σ.2.1 σ.1).2.2.2.1.toNatClampNeg (rc3 T t (σ.2.2.2.2.1 (ln2 T t σ.2.1 σ.1).2.2.2.1.toNatClampNeg) (ln2 T t σ.2.1 σ.1)).2.2.2.1, up1 σ.2.2.2.2.1 (ln2 T t σ.2.1 σ.1).2.2.2.1.toNatClampNeg 1, σ.2.2.2.2.2.1, σ.2.2.2.2.2.2) := by
      unfold lnS; rw [if_neg (fun q => q f4), if_neg n10, if_pos k]
    rw [eS]
    generalize ln4 T t σ.2.1 σ.2.2.2.2.1 σ.1 = s4
    have ci : (ln2 T t σ.2.1 σ.1).2.2.2.1.toNatClampNeg = i := by rw [ei]; exact ncl (by omega)
    rw [ci, ml.2.2.2.2.2 i hi]
    generalize (rc3 T t (σ.2.2.2.2.1 i) (ln2 T t σ.2.1 σ.1)).2.2.2.1 = v
    obtain ⟨l1, l2, l3, l4, l5, l6⟩ := ml_pf pN ml
    unfold ML
    dsimp only
    refine ⟨?_, fun w hw j hj => ?_, fun w hw kc => ?_, fun b hb => ?_, ?_, fun b hb => ?_⟩
    · rw [giR _ _ _ _ _ _ (by decide), giR _ _ _ _ _ _ (by decide)]; exact l1
    · rw [giR _ _ _ _ _ _ (by decide), giR _ _ _ _ _ _ (by decide)]; exact l2 w hw j hj
    · rw [giR _ _ _ _ _ _ (by decide), giR _ _ _ _ _ _ (by decide)]; exact l3 w hw kc
    · rw [gxs, giR _ _ _ _ _ _ (by decide)]
      unfold up1
      by_cases q : b = i
      · rw [if_pos q, if_pos q]
      · rw [if_neg q, if_neg q]; exact l4 b hb
    · rw [giR _ _ _ _ _ _ (by decide), giR _ _ _ _ _ _ (by decide)]; exact l5
    · rw [giR _ _ _ _ _ _ (by decide), gxs]
      unfold up1
      by_cases q : b = i
      · rw [if_pos q, if_pos q]
      · rw [if_neg q, if_neg q]; exact l6 b hb
  · rw [e4] at rO z
    refine h O (pl_tr (pl_pw pN) (pl_tr pl_r8 (pl_tr (pl_si (by decide)) (pl_pf pO)))) rO (fun _ => ml_pf pO ?_)
    have f4 : (ln4 T t σ.2.1 σ.2.2.2.2.1 σ.1).2.2.2.2.1 = 0 := by rw [← lnS_1]; exact z
    have eS : lnS T t σ = (ln4 T t σ.2.1 σ.2.2.2.2.1 σ.1, σ.2.1 + 1, upr σ.2.2.1 σ.2.1 (rwr T t (lnk T t σ.1) (ln2 T t σ.2.1 σ.1) σ.2.2.2.2.2.1), σ.2.2.2.1, σ.2.2.2.2.1, σ.2.2.2.2.2.1, up1 σ.2.2.2.2.2.2 σ.2.1 (nI (rw5 T t (lnk T t σ.1) (ln2 T t σ.2.1 σ.1)).1)) := by
      unfold lnS; rw [if_neg (fun q => q f4), if_neg k1, if_neg k2]
    rw [eS]
    generalize ln4 T t σ.2.1 σ.2.2.2.2.1 σ.1 = s4
    obtain ⟨l1, l2, l3, l4, l5, l6⟩ := ml
    obtain ⟨p1, p2, p3, p4, p5⟩ := pN
    have k0 : ∀ b, rwr T t (lnk T t σ.1) (ln2 T t σ.2.1 σ.1) b 0 = lnk T t σ.1 := fun b => rfl
    rw [l5]
    generalize eR : rwr T t (lnk T t σ.1) (ln2 T t σ.2.1 σ.1) σ.2.2.2.2.2.1 = rr
    have r0 : rr 0 = lnk T t σ.1 := by rw [← eR]; exact k0 _
    generalize nI (rw5 T t (lnk T t σ.1) (ln2 T t σ.2.1 σ.1)).1 = pl at *
    unfold ML
    dsimp only
    refine ⟨g6s _ _ _, fun w hw j hj => ?_, fun w hw kc => ?_, fun b hb => ?_, ?_, fun b hb => ?_⟩
    · rw [giR _ _ _ _ _ _ (by decide)]
      unfold upr
      by_cases q : w = σ.2.1
      · rw [if_pos q, q]; exact r8_at _ _ _ _ hj
      · rw [if_neg q, r8_lt _ _ _ _ (by omega), p3 6229 (by decide) (by decide)]
        exact l2 w (by omega) j hj
    · rw [giR _ _ _ _ _ _ (by decide), r8_ne _ _ _ _ (by decide)]
      unfold upr at kc
      unfold up1
      by_cases q : w = σ.2.1
      · rw [if_pos q] at kc ⊢
        rw [q]
        rw [r0] at kc
        exact hp kc
      · rw [if_neg q] at kc ⊢
        rw [p5 w q]
        exact l3 w (by omega) kc
    · rw [giR _ _ _ _ _ _ (by decide), r8_ne _ _ _ _ (by decide), p3 6285 (by decide) (by decide)]; exact l4 b hb
    · rw [g6 _ _ _ _ (by decide), r8_ne _ _ _ _ (by decide), p4 8 (by decide)]; exact l5
    · rw [giR _ _ _ _ _ _ (by decide), r8_ne _ _ _ _ (by decide), p3 6360 (by decide) (by decide)]; exact l6 b hb
end EQ9
