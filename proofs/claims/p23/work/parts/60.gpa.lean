/-! ===== the reference's reader: the first token, the check of what words follow, rows that are as they should be ===== -/
theorem nM_next0 {M : Mm} {T : Nat → Int32} {t : Nat} {K : Mm → Prop} (tp : TP M T t) (r12 : gi M 6027 12 = 0) (r16 : gi M 6027 16 = 0) (h : ∀ N, PF M N → RD N T t (nxs T t (0, 0, gi M 6027 14, gi M 6027 15, 0, gi M 6027 17)) → K N) : CV mM_next [.ref 6027] M K := by
  have ht := tp.2.2.1
  refine sM_next (p := 0) tp r12 (by omega) r16 (fun N nx => ?_)
  obtain ⟨pf, n13, nx⟩ := nx
  have tpN := tp_pf pf tp
  have h1 : nx1 T t 0 ≤ t := rn_le isB T t (by decide) 401 _ (Nat.zero_le _)
  refine h N pf ?_
  unfold nxs
  rw [if_pos rfl]
  show RD N T t (if lk T t (nx1 T t 0) < 0 then _ else _)
  rw [r16] at nx
  rcases nx with ⟨c, n12, n14, n15, n16, n17⟩ | ⟨c, a, n12, n14, n15, n16, n17⟩ | ⟨c, a, b, n12, n14, n15, n16⟩ | ⟨c, a, b, n12, n14, n15, n16⟩
  · rw [if_pos c]
    exact ⟨tpN, n13, n12, n14, n15, n16, n17, Nat.le_refl _, h1, Or.inl rfl⟩
  · rw [if_neg c, if_pos a]
    exact ⟨tpN, n13, n12, n14, n15, n16, n17, rn_ge _ _ _ _ _, rn_le isA T t (by decide) 401 _ h1, Or.inl rfl⟩
  · rw [if_neg c, if_neg (by rw [a]; decide), if_pos b]
    by_cases l : rn isF T t 401 (nx1 T t 0) - nx1 T t 0 ≤ 3
    · rw [if_pos l] at n16
      rw [if_pos l, if_pos l]
      exact ⟨tpN, n13, n12, n14, n15, n16.1, n16.2, rn_ge _ _ _ _ _, rn_le isF T t (by decide) 401 _ h1, Or.inl rfl⟩
    · rw [if_neg l] at n16
      rw [if_neg l, if_neg l]
      exact ⟨tpN, n13, n12, n14, n15, n16.1, n16.2, rn_ge _ _ _ _ _, rn_le isF T t (by decide) 401 _ h1, Or.inr (show ¬ (1 : Int32) ≤ 0 by decide)⟩
  · rw [if_neg c, if_neg (by rw [a]; decide), if_neg (by rw [b]; decide)]
    have h2 : nx1 T t 0 + 1 ≤ t := by
      by_cases l : t ≤ nx1 T t 0
      · exfalso
        rw [lk, if_pos l] at c
        exact c (by decide)
      · omega
    by_cases l : lk T t (nx1 T t 0) = 45 ∨ lk T t (nx1 T t 0) = 59
    · rw [if_pos l] at n16
      rw [if_pos l, if_pos l]
      exact ⟨tpN, n13, n12, n14, n15, n16.1, n16.2, Nat.le_succ _, h2, Or.inl rfl⟩
    · rw [if_neg l] at n16
      rw [if_neg l, if_neg l]
      exact ⟨tpN, n13, n12, n14, n15, n16.1, n16.2, Nat.le_succ _, h2, Or.inr (show ¬ (1 : Int32) ≤ 0 by decide)⟩
/-- a word that follows wrongly -/
def bad (M : Mm) (D w : Nat) : Prop := ¬ gi M 6229 (10 * w + 6) = -4 ∧ (nI D ≤ gi M 6229 (10 * w + 6) ∨ gi M 6229 (10 * w + 6) = nI w ∨ gi M 6229 (10 * (gi M 6229 (10 * w + 6)).toNatClampNeg) = 5)
theorem n10c (f : Nat) (h : f < 25) : (10 * nI f).toNatClampNeg = 10 * f ∧ vp_in (10 * nI f) 250 := by
  rw [n10]
  exact ⟨ncl (by omega), vin (by omega) (by decide)⟩
theorem nM_checks {M : Mm} {D : Nat} {K : Mm → Prop} (hm : MR M) (hD : gi M 6027 3 = nI D) (hD2 : D ≤ 24) (hr : gi M 6027 16 = 0 → ∀ w, w < D → gi M 6229 (10 * w + 6) = -4 ∨ ∃ f, f < 24 ∧ gi M 6229 (10 * w + 6) = nI f) (hf : ¬ gi M 6027 16 = 0 → K M) (h0 : gi M 6027 16 = 0 → (∀ w, w < D → ¬ bad M D w) → K M) (h1 : gi M 6027 16 = 0 → ∀ w, w < D → bad M D w → (∀ v, v < w → ¬ bad M D v) → K (si (si M 6027 16 6) 6027 17 (gi M 6423 w))) : CV mM_checks [.ref 6027] M K := by
  refine call_of rfl (Nat.le_of_ble_eq_true rfl) rfl (vM_checks_0 ?_)
  by_cases z : gi M 6027 16 = 0
  · have key : ∀ n i, i + n = D → (∀ v, v < i → ¬ bad M D v) → X mM_checks 2 [(0, .ref 6027), (1, .int (nI i))] [] M (mC mM_checks, mS mM_checks) (QV K) := by
      intro n
      induction n with
      | zero =>
        intro i hi hb
        rw [Nat.add_zero] at hi
        subst hi
        have l : gi M 6027 3 ≤ nI i := by rw [hD]; exact Int32.le_refl _
        exact vM_checks_2 rfl (mr4 hm) (mr7 hm) ⟨fun q => absurd l q.1, fun _ => h0 z hb, fun q => absurd l q.1⟩
      | succ n ih =>
        intro i hi hb
        have hi2 : i < D := by omega
        have l : ¬ gi M 6027 3 ≤ nI i := by rw [hD]; exact nge rfl (by omega) hi2
        have e6 : (10 * nI i + 6 : Int32) = nI (10 * i + 6) := nI_ix i 6
        have c6 : (nI (10 * i + 6)).toNatClampNeg = 10 * i + 6 := ncl (by omega)
        have go : ¬ bad M D i → X mM_checks 2 [(0, .ref 6027), (1, .int (nI i + 1))] [] M (mC mM_checks, mS mM_checks) (QV K) := by
          intro nb
          rw [nI_s]
          refine ih (i + 1) (by omega) (fun v hv => ?_)
          by_cases e : v = i
          · rw [e]; exact nb
          · exact hb v (by omega)
        have stop : bad M D i → vp_in (nI i) 25 ∧ X mM_checks 2 [(0, .ref 6027), (1, .int (nI i + 1))] [] (si (si M 6027 16 6) 6027 17 (gi (si M 6027 16 6) 6423 (nI i).toNatClampNeg)) (mC mM_checks, mS mM_checks) (QV K) := by
          intro b
          refine ⟨vin (by omega) (by decide), ?_⟩
          rw [ncl (by omega), gi_ne (show (6423 : Nat) ≠ 6027 by decide)]
          have k := h1 z i hi2 b hb
          have k16 : gi (si (si M 6027 16 6) 6027 17 (gi M 6423 i)) 6027 16 = 6 := by rw [g6 _ _ _ _ (by decide), g6s]
          have k3 : gi (si (si M 6027 16 6) 6027 17 (gi M 6423 i)) 6027 3 = gi M 6027 3 := by rw [g6 _ _ _ _ (by decide), g6 _ _ _ _ (by decide)]
          refine vM_checks_2 rfl (mr4 (mr_w hm rfl)) (mr7 (mr_w hm rfl)) ⟨fun q => absurd (k16.symm.trans q.2) (by decide), fun _ => k, fun q => absurd (k16.symm.trans q.2) (by decide)⟩
        rcases hr z i hi2 with e4 | ⟨f, hf2, ef⟩
        · have nb : ¬ bad M D i := fun b => b.1 e4
          refine vM_checks_2 rfl (mr4 hm) (mr7 hm) ⟨fun _ => by rw [e6]; exact vin (by omega) (by decide), fun q => absurd z (q.elim (fun q => absurd q l) (fun q => q.2)), fun _ => ?_⟩
          rw [e6, c6]
          refine ⟨fun q => absurd e4 q.1, fun _ => go nb, fun q => ?_⟩
          exfalso
          rcases q with q | q | q <;> exact q.1 e4
        · obtain ⟨c10, v10⟩ := n10c f (by omega)
          refine vM_checks_2 rfl (mr4 hm) (mr7 hm) ⟨fun _ => by rw [e6]; exact vin (by omega) (by decide), fun q => absurd z (q.elim (fun q => absurd q l) (fun q => q.2)), fun _ => ?_⟩
          rw [e6, c6, ef, hD, c10]
          have hb2 : bad M D i ↔ ¬ nI f = -4 ∧ (nI D ≤ nI f ∨ nI f = nI i ∨ gi M 6229 (10 * f) = 5) := by
            unfold bad
            rw [ef, ncl (by omega)]
          refine ⟨fun _ => v10, fun q => go (fun b => ?_), fun q => stop (hb2.mpr ?_)⟩
          · have b' := hb2.mp b
            rcases q with q | q
            · exact b'.1 q
            · exact b'.2.elim q.2.1 (fun y => y.elim q.2.2.1 q.2.2.2)
          · rcases q with q | q | q
            · exact ⟨q.1, Or.inl q.2⟩
            · exact ⟨q.1, Or.inr (Or.inl q.2.2)⟩
            · exact ⟨q.1, Or.inr (Or.inr q.2.2.2)⟩
    exact key D 0 (by omega) (fun v hv => absurd hv (by omega))
  · exact vM_checks_2 rfl (mr4 hm) (mr7 hm) ⟨fun q => absurd q.2 z, fun _ => hf z, fun q => absurd q.2 z⟩
/-- a told row is as it should be -/
def RK (M : Mm) (w : Nat) : Prop := (∃ b, b < 8 ∧ gi M 6229 (10 * w + 2) = nI b) ∧ ∃ k, k < 6 ∧ gi M 6229 (10 * w) = nI k ∧ ((¬ (1 ≤ k ∧ k ≤ 3) ∧ gi M 6229 (10 * w + 6) = -4) ∨ ((1 ≤ k ∧ k ≤ 3) ∧ ∃ f, f < 24 ∧ gi M 6229 (10 * w + 6) = nI f))
def LB (M : Mm) (D : Nat) : Prop := gi M 6027 3 = nI D ∧ D ≤ 24 ∧ (∃ b, b < 8 ∧ gi M 6027 8 = nI b) ∧ ∀ w, w < D → RK M w
theorem rk_eq {M N : Mm} {w : Nat} (h : ∀ i, i < 10 → gi N 6229 (10 * w + i) = gi M 6229 (10 * w + i)) (r : RK M w) : RK N w := by
  have h0 := h 0 (by decide)
  rw [Nat.add_zero] at h0
  unfold RK
  rw [h 2 (by decide), h0, h 6 (by decide)]
  exact r
theorem ite1 {p : Prop} [Decidable p] (h : ¬ (if p then (1 : Int32) else 0) = 0) : p := by
  by_cases q : p
  · exact q
  · rw [if_neg q] at h; exact absurd rfl h