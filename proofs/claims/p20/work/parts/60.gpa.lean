/-! ===== the reference's reader: the first token, the check of what words follow, rows that are as they should be ===== -/
theorem nM_next0 {M : Mm} {T : Nat → Int32} {t : Nat} {K : Mm → Prop} (tp : TP M T t) (r12 : gi M 6027 12 = 0) (r16 : gi M 6027 16 = 0) (h : ∀ N, PF M N → RD N T t (nxs T t (0, 0, gi M 6027 14, gi M 6027 15, 0, gi M 6027 17)) → K N) : CV mM_next [.ref 6027] M K := by
  have ht := tp.2.2.1
  refine sM_next (p := 0) tp r12 (by omega) r16 (fun N nx => ?_)
  obtain ⟨pf, n13, nx⟩ := nx
  have tpN := tp_pf pf tp
  have h1 : nx1 T t 0 ≤ t := rn_le isB T t (by decide) 401 _ (Nat.zero_le _)
  refine h N pf ?_
  unfold nxs
  rw [if_pos rfl]
  show RD N T t (if lk T t (nx1 T t 0) < 0 then _ else _)
  rw [r16] at nx
  rcases nx with ⟨c, n12, n14, n15, n16, n17⟩ | ⟨c, a, n12, n14, n15, n16, n17⟩ | ⟨c, a, b, n12, n14, n15, n16⟩ | ⟨c, a, b, n12, n14, n15, n16⟩
  · rw [if_pos c]
    exact ⟨tpN, n13, n12, n14, n15, n16, n17, Nat.le_refl _, h1, Or.inl rfl⟩
  · rw [if_neg c, if_pos a]
    exact ⟨tpN, n13, n12, n14, n15, n16, n17, rn_ge _ _ _ _ _, rn_le isA T t (by decide) 401 _ h1, Or.inl rfl⟩
  · rw [if_neg c, if_neg (by rw [a]; decide), if_pos b]
    by_cases l : rn isF T t 401 (nx1 T t 0) - nx1 T t 0 ≤ 3
    · rw [if_pos l] at n16
      rw [if_pos l, if_pos l]
      exact ⟨tpN, n13, n12, n14, n15, n16.1, n16.2, rn_ge _ _ _ _ _, rn_le isF T t (by decide) 401 _ h1, Or.inl rfl⟩
    · rw [if_neg l] at n16
      rw [if_neg l, if_neg l]
      exact ⟨tpN, n13, n12, n14, n15, n16.1, n16.2, rn_ge _ _ _ _ _, rn_le isF T t (by decide) 401 _ h1, Or.inr (show ¬ (1 : Int32) ≤ 0 by decide)⟩
  · rw [if_neg c, if_neg (by rw [a]; decide), if_neg (by rw [b]; decide)]
    have h2 : nx1 T t 0 + 1 ≤ t := by
      by_cases l : t ≤ nx1 T t 0
      · exfalso
        rw [lk, if_pos l] at c
        exact c (by decide)
      · omega
    by_cases l : lk T t (nx1 T t 0) = 45 ∨ lk T t (nx1 T t 0) = 59
    · rw [if_pos l] at n16
      rw [if_pos l, if_pos l]
      exact ⟨tpN, n13, n12, n14, n15, n16.1, n16.2, Nat.le_succ _, h2, Or.inl rfl⟩
    · rw [if_neg l] at n16
      rw [if_neg l, if_neg l]
      exact ⟨tpN, n13, n12, n14, n15, n16.1, n16.2, Nat.le_succ _, h2, Or.inr (show ¬ (1 : Int32) ≤ 0 by decide)⟩
/-- a word that follows wrongly -/
def bad (M : Mm) (D w : Nat) : Prop := ¬ gi M 6229 (10 * w + 6) = -4 ∧ (nI D ≤ gi M 6229 (10 * w + 6) ∨ gi M 6229 (10 * w + 6) = nI w ∨ gi M 6229 (10 * (gi M 6229 (10 * w + 6)).toNatClampNeg) = 5)
theorem n10c (f : Nat) (h : f < 25) : (10 * nI f).toNatClampNeg = 10 * f ∧ vp_in (10 * nI f) 250 := by
  rw [n10]
  exact ⟨ncl (by omega), vin (by omega) (by decide)⟩
theorem nM_checks {M : Mm} {D : Nat} {K : Mm → Prop} (hm : MR M) (hD : gi M 6027 3 = nI D) (hD2 : D ≤ 24) (hr : gi M 6027 16 = 0 → ∀ w, w < D → gi M 6229 (10 * w + 6) = -4 ∨ ∃ f, f < 24 ∧ gi M 6229 (10 * w + 6) = nI f) (hf : ¬ gi M 6027 16 = 0 → K M) (h0 : gi M 6027 16 = 0 → (∀ w, w < D → ¬ bad M D w) → K M) (h1 : gi M 6027 16 = 0 → ∀ w, w < D → bad M D w → (∀ v, v < w → ¬ bad M D v) → K (si (si M 6027 16 6) 6027 17 (gi M 6423 w))) : CV mM_checks [.ref 6027] M K := by
  refine call_of rfl (Nat.le_of_ble_eq_true rfl) rfl (vM_checks_0 ?_)
  by_cases z : gi M 6027 16 = 0
  · have key : ∀ n i, i + n = D → (∀ v, v < i → ¬ bad M D v) → X mM_checks 2 [(0, .ref 6027), (1, .int (nI i))] [] M (mC mM_checks, mS mM_checks) (QV K) := by
      intro n
      induction n with
      | zero =>
        intro i hi hb
        rw [Nat.add_zero] at hi
        subst hi
        have l : gi M 6027 3 ≤ nI i := by rw [hD]; exact Int32.le_refl _
        exact vM_checks_2 rfl (mr4 hm) (mr7 hm) ⟨fun q => absurd l q.1, fun _ => h0 z hb, fun q => absurd l q.1⟩
      | succ n ih =>
        intro i hi hb
        have hi2 : i < D := by omega
        have l : ¬ gi M 6027 3 ≤ nI i := by rw [hD]; exact nge rfl (by omega) hi2
        have e6 : (10 * nI i + 6 : Int32) = nI (10 * i + 6) := nI_ix i 6
        have c6 : (nI (10 * i + 6)).toNatClampNeg = 10 * i + 6 := ncl (by omega)
        have go : ¬ bad M D i → X mM_checks 2 [(0, .ref 6027), (1, .int (nI i + 1))] [] M (mC mM_checks, mS mM_checks) (QV K) := by
          intro nb
          rw [nI_s]
          refine ih (i + 1) (by omega) (fun v hv => ?_)
          by_cases e : v = i
          · rw [e]; exact nb
          · exact hb v (by omega)
        have stop : bad M D i → vp_in (nI i) 25 ∧ X mM_checks 2 [(0, .ref 6027), (1, .int (nI i + 1))] [] (si (si M 6027 16 6) 6027 17 (gi (si M 6027 16 6) 6423 (nI i).toNatClampNeg)) (mC mM_checks, mS mM_checks) (QV K) := by
          intro b
          refine ⟨vin (by omega) (by decide), ?_⟩
          rw [ncl (by omega), gi_ne (show (6423 : Nat) ≠ 6027 by decide)]
          have k := h1 z i hi2 b hb
          have k16 : gi (si (si M 6027 16 6) 6027 17 (gi M 6423 i)) 6027 16 = 6 := by rw [g6 _ _ _ _ (by decide), g6s]
          have k3 : gi (si (si M 6027 16 6) 6027 17 (gi M 6423 i)) 6027 3 = gi M 6027 3 := by rw [g6 _ _ _ _ (by decide), g6 _ _ _ _ (by decide)]
          refine vM_checks_2 rfl (mr4 (mr_w hm rfl)) (mr7 (mr_w hm rfl)) ⟨fun q => absurd (k16.symm.trans q.2) (by decide), fun _ => k, fun q => absurd (k16.symm.trans q.2) (by decide)⟩
        rcases hr z i hi2 with e4 | ⟨f, hf2, ef⟩
        · have nb : ¬ bad M D i := fun b => b.1 e4
          refine vM_checks_2 rfl (mr4 hm) (mr7 hm) ⟨fun _ => by rw [e6]; exact vin (by omega) (by decide), fun q => absurd z (q.elim (fun q => absurd q l) (fun q => q.2)), fun _ => ?_⟩
          rw [e6, c6]
          refine ⟨fun q => absurd e4 q.1, fun _ => go nb, fun q => ?_⟩
          exfalso
          rcases q with q | q | q <;> exact q.1 e4
        · obtain ⟨c10, v10⟩ := n10c f (by omega)
          refine vM_checks_2 rfl (mr4 hm) (mr7 hm) ⟨fun _ => by rw [e6]; exact vin (by omega) (by decide), fun q => absurd z (q.elim (fun q => absurd q l) (fun q => q.2)), fun _ => ?_⟩
          rw [e6, c6, ef, hD, c10]
          have hb2 : bad M D i ↔ ¬ nI f = -4 ∧ (nI D ≤ nI f ∨ nI f = nI i ∨ gi M 6229 (10 * f) = 5) := by
            unfold bad
            rw [ef, ncl (by omega)]
          refine ⟨fun _ => v10, fun q => go (fun b => ?_), fun q => stop (hb2.mpr ?_)⟩
          · have b' := hb2.mp b
            rcases q with q | q
            · exact b'.1 q
            · exact b'.2.elim q.2.1 (fun y => y.elim q.2.2.1 q.2.2.2)
          · rcases q with q | q | q
            · exact ⟨q.1, Or.inl q.2⟩
            · exact ⟨q.1, Or.inr (Or.inl q.2.2)⟩
            · exact ⟨q.1, Or.inr (Or.inr q.2.2.2)⟩
    exact key D 0 (by omega) (fun v hv => absurd hv (by omega))
  · exact vM_checks_2 rfl (mr4 hm) (mr7 hm) ⟨fun q => absurd q.2 z, fun _ => hf z, fun q => absurd q.2 z⟩
/-- a told row is as it should be -/
def RK (M : Mm) (w : Nat) : Prop := (∃ b, b < 8 ∧ gi M 6229 (10 * w + 2) = nI b) ∧ ∃ k, k < 6 ∧ gi M 6229 (10 * w) = nI k ∧ ((¬ (1 ≤ k ∧ k ≤ 3) ∧ gi M 6229 (10 * w + 6) = -4) ∨ ((1 ≤ k ∧ k ≤ 3) ∧ ∃ f, f < 24 ∧ gi M 6229 (10 * w + 6) = nI f))
def LB (M : Mm) (D : Nat) : Prop := gi M 6027 3 = nI D ∧ D ≤ 24 ∧ (∃ b, b < 8 ∧ gi M 6027 8 = nI b) ∧ ∀ w, w < D → RK M w
theorem rk_eq {M N : Mm} {w : Nat} (h : ∀ i, i < 10 → gi N 6229 (10 * w + i) = gi M 6229 (10 * w + i)) (r : RK M w) : RK N w := by
  have h0 := h 0 (by decide)
  rw [Nat.add_zero] at h0
  unfold RK
  rw [h 2 (by decide), h0, h 6 (by decide)]
  exact r
theorem lb_pf {M N : Mm} {D : Nat} (f : PF M N) (l : LB M D) : LB N D := by
  refine ⟨(f.2.2.2 3 (by decide)).trans l.1, l.2.1, ?_, fun w hw => rk_eq (fun i _ => by rw [f.2.2.1 6229 (by decide)]) (l.2.2.2 w hw)⟩
  rw [f.2.2.2 8 (by decide)]; exact l.2.2.1
theorem lb_si {M : Mm} {D a j : Nat} {v : Int32} (h1 : a ≠ 6027) (h2 : a ≠ 6229) (l : LB M D) : LB (si M a j v) D := by
  refine ⟨by rw [gi_ne (Ne.symm h1)]; exact l.1, l.2.1, by rw [gi_ne (Ne.symm h1)]; exact l.2.2.1, fun w hw => rk_eq (fun i _ => by rw [gi_ne (Ne.symm h2)]) (l.2.2.2 w hw)⟩
theorem lb_in {M : Mm} {D : Nat} {v : Int32} (h : ∃ b, b < 8 ∧ v = nI b) (l : LB M D) : LB (si M 6027 8 v) D := by
  refine ⟨by rw [g6 _ _ _ _ (by decide)]; exact l.1, l.2.1, by rw [g6s]; exact h, fun w hw => rk_eq (fun i _ => by rw [gi_ne (by decide)]) (l.2.2.2 w hw)⟩
theorem lb_pw {M N : Mm} {D : Nat} (f : PW D M N) (l : LB M D) : LB N D := by
  refine ⟨(f.2.2.2.1 3 (by decide)).trans l.1, l.2.1, ?_, fun w hw => rk_eq (fun i _ => by rw [f.2.2.1 6229 (by decide) (by decide)]) (l.2.2.2 w hw)⟩
  rw [f.2.2.2.1 8 (by decide)]; exact l.2.2.1
theorem lb_r8 {M : Mm} {D : Nat} {v : Nat → Int32} (hD : D < 24) (hb : ∃ b, b < 8 ∧ v 2 = nI b) (hk : ∃ k, k < 6 ∧ v 0 = nI k ∧ ((¬ (1 ≤ k ∧ k ≤ 3) ∧ v 6 = -4) ∨ ((1 ≤ k ∧ k ≤ 3) ∧ ∃ f, f < 24 ∧ v 6 = nI f))) (l : LB M D) : LB (si (r8 M D v) 6027 3 (nI (D + 1))) (D + 1) := by
  refine ⟨g6s _ _ _, hD, ?_, fun w hw => ?_⟩
  · rw [g6 _ _ _ _ (by decide), r8_ne _ _ _ _ (by decide)]; exact l.2.2.1
  · by_cases e : w = D
    · subst e
      have h0 := r8_at M w 0 v (by decide)
      rw [Nat.add_zero] at h0
      unfold RK
      rw [gi_ne (show (6229 : Nat) ≠ 6027 by decide), h0, r8_at M w 2 v (by decide), r8_at M w 6 v (by decide)]
      exact ⟨hb, hk⟩
    · refine rk_eq (fun i hi => ?_) (l.2.2.2 w (by omega))
      rw [gi_ne (show (6229 : Nat) ≠ 6027 by decide), r8_lt _ _ _ _ (by omega)]
theorem ite1 {p : Prop} [Decidable p] (h : ¬ (if p then (1 : Int32) else 0) = 0) : p := by
  by_cases q : p
  · exact q
  · rw [if_neg q] at h; exact absurd rfl h
/-- a line without a fault leaves rows as they should be -/
theorem nM_line {M : Mm} {T : Nat → Int32} {t : Nat} {s : Rst} {D : Nat} {K : Mm → Prop} (rd : RD M T t s) (lb : LB M D) (h : ∀ N u, PL M N → RD N T t u → s.2.1 ≤ u.2.1 → (u.2.2.2.2.1 = 0 → s.2.1 < u.2.1 ∧ ∃ E, LB N E) → K N) : CV mM_readLine [.ref 6027] M K := by
  have g4 : s.2.1 ≤ (ln4 T t D (gi M 6360) s).2.1 := by unfold ln4; exact Nat.le_trans go_ln3.1 ge_eln.1
  have g5 : (ln4 T t D (gi M 6360) s).2.2.2.2.1 = 0 → s.2.1 < (ln4 T t D (gi M 6360) s).2.1 := fun q => go_ln4 q
  have g6' : (ln4 T t D (gi M 6360) s).2.2.2.2.1 = 0 → (ln3 T t D (gi M 6360) s).2.2.2.2.1 = 0 := fun q => by unfold ln4 at q; exact (eln_ok q).2
  refine nM_readLine rd lb.1 lb.2.1 (fun N pl rN nf => h N _ pl rN g4 (fun z => absurd z nf)) (fun N O pN pO rO z k => ?_) (fun N O i pN pO rO z k hi ei => ?_) (fun N O pN pO rO z k1 k2 hp => ?_)
  · have z3 := g6' z
    unfold ln3 at z3
    rw [if_pos k] at z3
    obtain ⟨y1, y2, -⟩ := isn_ok (nxs_ok z3)
    obtain ⟨i, hi, e⟩ := rngL (c := 7) (n := 7) rfl (by decide) y1 y2
    exact h O _ (pl_tr (pl_pf pN) (pl_tr (pl_si (by decide)) (pl_pf pO))) rO g4 (fun _ => ⟨g5 z, D, lb_pf pO (lb_in ⟨i, hi, e⟩ (lb_pf pN lb))⟩)
  · exact h O _ (pl_tr (pl_pf pN) (pl_tr (pl_si (Or.inl (by decide))) (pl_tr (pl_si (Or.inl (by decide))) (pl_pf pO)))) rO g4 (fun _ => ⟨g5 z, D, lb_pf pO (lb_si (by decide) (by decide) (lb_si (by decide) (by decide) (lb_pf pN lb)))⟩)
  · have z3 := g6' z
    unfold ln3 at z3
    rw [if_neg k1, if_neg k2] at z3
    have z2 := (go_rw6.2 z3).1
    unfold ln2 at z2
    have z1 := nxs_ok z2
    unfold ln1 at z1
    obtain ⟨a1, a2, -⟩ := wts_ok (by decide) z1
    obtain ⟨b1, b2, -⟩ := wts_ok (by decide) a2
    have c1 := ite1 b1
    have c2 := ite1 a1
    have c3 : ¬ lnk T t s < 0 ∧ ¬ 5 < lnk T t s := c1.resolve_right (fun y => y.elim k1 k2)
    have hD : D < 24 := c2.resolve_left c3.2
    obtain ⟨k, hk, ek⟩ := rngL (c := 5) (n := 5) rfl (by decide) c3.1 c3.2
    have hr : ∃ k', k' < 6 ∧ rwr T t (lnk T t s) (ln2 T t D s) (gi M 6027 8) 0 = nI k' ∧ ((¬ (1 ≤ k' ∧ k' ≤ 3) ∧ rwr T t (lnk T t s) (ln2 T t D s) (gi M 6027 8) 6 = -4) ∨ ((1 ≤ k' ∧ k' ≤ 3) ∧ ∃ f, f < 24 ∧ rwr T t (lnk T t s) (ln2 T t D s) (gi M 6027 8) 6 = nI f)) := by
      refine ⟨k, hk, ek, ?_⟩
      have e6 : rwr T t (lnk T t s) (ln2 T t D s) (gi M 6027 8) 6 = ra6 T t (lnk T t s) (ln2 T t D s) := rfl
      rw [e6]
      have cn : kCN (lnk T t s) ↔ (1 ≤ k ∧ k ≤ 3) := by
        unfold kCN
        rw [ek, show (1 : Int32) = nI 1 from rfl, show (3 : Int32) = nI 3 from rfl, nlt (by omega) (by omega), nlt (by omega) (by omega)]
        omega
      by_cases q : kCN (lnk T t s)
      · right
        refine ⟨cn.mp q, ?_⟩
        unfold ra6
        rw [if_pos q]
        unfold rw6 at z3
        rw [if_pos q] at z3
        obtain ⟨y1, y2, -⟩ := isn_ok (nxs_ok z3)
        obtain ⟨i, hi, e⟩ := rngL (c := 23) (n := 23) rfl (by decide) y1 y2
        exact ⟨i, hi, e⟩
      · left
        unfold ra6
        rw [if_neg q]
        exact ⟨fun y => q (cn.mpr y), rfl⟩
    exact h O _ (pl_tr (pl_pw pN) (pl_tr pl_r8 (pl_tr (pl_si (by decide)) (pl_pf pO)))) rO g4 (fun _ => ⟨g5 z, D + 1, lb_pf pO (lb_r8 hD lb.2.2.1 hr (lb_pw pN lb))⟩)
