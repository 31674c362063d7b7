section MG50
/-! ===== the reference's library, as the lines tell it ===== -/
/-- the reference's draft stands as the lines tell it -/
def ML (N : Mm) (σ : LSt) : Prop := gi N 6027 3 = nI σ.2.1 ∧ (∀ w, w < σ.2.1 → ∀ i, i < 8 → gi N 6229 (10 * w + i) = σ.2.2.1 w i) ∧ (∀ w, w < σ.2.1 → kCN (σ.2.2.1 w 0) → gi N 6423 w = σ.2.2.2.2.2.2 w) ∧ (∀ b, b < 8 → gi N 6285 b = σ.2.2.2.1 b) ∧ gi N 6027 8 = σ.2.2.2.2.2.1 ∧ ∀ b, b < 8 → gi N 6360 b = σ.2.2.2.2.1 b
section EQ9
variable {M N : Mm} {T : Nat → Int32} {t : Nat}
theorem ml_eq {σ : LSt} (h : ∀ a, a = 6229 ∨ a = 6423 ∨ a = 6285 ∨ a = 6360 → gi N a = gi M a) (h3 : gi N 6027 3 = gi M 6027 3) (h8 : gi N 6027 8 = gi M 6027 8) (l : ML M σ) : ML N σ := by
  unfold ML
  rw [h 6229 (by decide), h 6423 (by decide), h 6285 (by decide), h 6360 (by decide), h3, h8]
  exact l
theorem ml_pf {σ : LSt} (f : PF M N) (l : ML M σ) : ML N σ := ml_eq (fun a ha => f.2.2.1 a (by omega)) (f.2.2.2 3 (by decide)) (f.2.2.2 8 (by decide)) l
theorem ml_lb {σ : LSt} (ok : okS σ) (l : ML M σ) : LB M σ.2.1 := by
  obtain ⟨l1, l2, l3, l4, l5, l6⟩ := l
  refine ⟨l1, ok.1, by rw [l5]; exact ok.2.1, fun w hw => ?_⟩
  have h0 := l2 w hw 0 (by decide)
  rw [Nat.add_zero] at h0
  unfold RK
  rw [l2 w hw 2 (by decide), h0, l2 w hw 6 (by decide)]
  exact ok.2.2 w hw
theorem bad_eq {σ : LSt} {w : Nat} (ok : okS σ) (l : ML M σ) (hw : w < σ.2.1) : bad M σ.2.1 w ↔ bdS σ w := by
  obtain ⟨l1, l2, l3, l4, l5, l6⟩ := l
  have hD := ok.1
  obtain ⟨-, k, hk, ek, h⟩ := ok.2.2 w hw
  unfold bad bdS
  rw [l2 w hw 6 (by decide)]
  rcases h with ⟨n, e⟩ | ⟨n, f, hf, e⟩
  · rw [e]
    exact ⟨fun z => absurd rfl z.1, fun z => absurd rfl z.1⟩
  · rw [e, ncl (by omega)]
    by_cases lf : f < σ.2.1
    · have h0 := l2 f lf 0 (by decide)
      rw [Nat.add_zero] at h0
      rw [h0]
    · have le : nI σ.2.1 ≤ nI f := by rw [nle (by omega) (by omega)]; omega
      exact ⟨fun z => ⟨z.1, Or.inl le⟩, fun z => ⟨z.1, Or.inl le⟩⟩
theorem nM_lnS {σ : LSt} {K : Mm → Prop} (rd : RD M T t σ.1) (ml : ML M σ) (ok : okS σ) (h : ∀ N, PL M N → RD N T t (lnS T t σ).1 → ((lnS T t σ).1.2.2.2.2.1 = 0 → ML N (lnS T t σ)) → K N) : CV mM_readLine [.ref 6027] M K := by
  have e4 : ln4 T t σ.2.1 (gi M 6360) σ.1 = (lnS T t σ).1 := by rw [lnS_1]; exact ln4_cg ml.2.2.2.2.2
  refine nM_readLine rd ml.1 ok.1 (fun N pl rN nf => ?_) (fun N O pN pO rO z k => ?_) (fun N O i pN pO rO z k hi ei => ?_) (fun N O pN pO rO z k1 k2 hp => ?_)
  · rw [e4] at rN nf
    exact h N pl rN (fun y => absurd y nf)
  · rw [e4] at rO z
    refine h O (pl_tr (pl_pf pN) (pl_tr (pl_si (by decide)) (pl_pf pO))) rO (fun _ => ml_pf pO ?_)
    have f4 : (ln4 T t σ.2.1 σ.2.2.2.2.1 σ.1).2.2.2.2.1 = 0 := by rw [← lnS_1]; exact z
    have eS : lnS T t σ = (ln4 T t σ.2.1 σ.2.2.2.2.1 σ.1, σ.2.1, σ.2.2.1, σ.2.2.2.1, σ.2.2.2.2.1, (ln2 T t σ.2.1 σ.1).2.2.2.1, σ.2.2.2.2.2.2) := by
      unfold lnS; rw [if_neg (fun q => q f4), if_pos k]
    rw [eS]
    generalize ln4 T t σ.2.1 σ.2.2.2.2.1 σ.1 = s4
    obtain ⟨l1, l2, l3, l4, l5, l6⟩ := ml_pf pN ml
    unfold ML
    dsimp only
    rw [gi_ne (show (6229 : Nat) ≠ 6027 by decide), gi_ne (show (6423 : Nat) ≠ 6027 by decide), gi_ne (show (6285 : Nat) ≠ 6027 by decide), gi_ne (show (6360 : Nat) ≠ 6027 by decide), g6 _ _ _ _ (by decide), g6s]
    exact ⟨l1, l2, l3, l4, rfl, l6⟩
  · rw [e4] at rO z
    refine h O (pl_tr (pl_pf pN) (pl_tr (pl_si (Or.inl (by decide))) (pl_tr (pl_si (Or.inl (by decide))) (pl_pf pO)))) rO (fun _ => ml_pf pO ?_)
    have f4 : (ln4 T t σ.2.1 σ.2.2.2.2.1 σ.1).2.2.2.2.1 = 0 := by rw [← lnS_1]; exact z
    have n10 : ¬ lnk T t σ.1 = 10 := by rw [k]; decide
    have eS : lnS T t σ = (ln4 T t σ.2.1 σ.2.2.2.2.1 σ.1, σ.2.1, σ.2.2.1, up1 σ.2.2.2.1 (ln2 T t σ.2.1 σ.1).2.2.2.1.toNatClampNeg (rc3 T t (σ.2.2.2.2.1 (ln2 T t σ.2.1 σ.1).2.2.2.1.toNatClampNeg) (ln2 T t σ.2.1 σ.1)).2.2.2.1, up1 σ.2.2.2.2.1 (ln2 T t σ.2.1 σ.1).2.2.2.1.toNatClampNeg 1, σ.2.2.2.2.2.1, σ.2.2.2.2.2.2) := by
      unfold lnS; rw [if_neg (fun q => q f4), if_neg n10, if_pos k]
    rw [eS]
    generalize ln4 T t σ.2.1 σ.2.2.2.2.1 σ.1 = s4
    have ci : (ln2 T t σ.2.1 σ.1).2.2.2.1.toNatClampNeg = i := by rw [ei]; exact ncl (by omega)
    rw [ci, ml.2.2.2.2.2 i hi]
    generalize (rc3 T t (σ.2.2.2.2.1 i) (ln2 T t σ.2.1 σ.1)).2.2.2.1 = v
    obtain ⟨l1, l2, l3, l4, l5, l6⟩ := ml_pf pN ml
    unfold ML
    dsimp only
    refine ⟨?_, fun w hw j hj => ?_, fun w hw kc => ?_, fun b hb => ?_, ?_, fun b hb => ?_⟩
    · rw [giR _ _ _ _ _ _ (by decide), giR _ _ _ _ _ _ (by decide)]; exact l1
    · rw [giR _ _ _ _ _ _ (by decide), giR _ _ _ _ _ _ (by decide)]; exact l2 w hw j hj
    · rw [giR _ _ _ _ _ _ (by decide), giR _ _ _ _ _ _ (by decide)]; exact l3 w hw kc
    · rw [gxs, giR _ _ _ _ _ _ (by decide)]
      unfold up1
      by_cases q : b = i
      · rw [if_pos q, if_pos q]
      · rw [if_neg q, if_neg q]; exact l4 b hb
    · rw [giR _ _ _ _ _ _ (by decide), giR _ _ _ _ _ _ (by decide)]; exact l5
    · rw [giR _ _ _ _ _ _ (by decide), gxs]
      unfold up1
      by_cases q : b = i
      · rw [if_pos q, if_pos q]
      · rw [if_neg q, if_neg q]; exact l6 b hb
  · rw [e4] at rO z
    refine h O (pl_tr (pl_pw pN) (pl_tr pl_r8 (pl_tr (pl_si (by decide)) (pl_pf pO)))) rO (fun _ => ml_pf pO ?_)
    have f4 : (ln4 T t σ.2.1 σ.2.2.2.2.1 σ.1).2.2.2.2.1 = 0 := by rw [← lnS_1]; exact z
    have eS : lnS T t σ = (ln4 T t σ.2.1 σ.2.2.2.2.1 σ.1, σ.2.1 + 1, upr σ.2.2.1 σ.2.1 (rwr T t (lnk T t σ.1) (ln2 T t σ.2.1 σ.1) σ.2.2.2.2.2.1), σ.2.2.2.1, σ.2.2.2.2.1, σ.2.2.2.2.2.1, up1 σ.2.2.2.2.2.2 σ.2.1 (nI (rw5 T t (lnk T t σ.1) (ln2 T t σ.2.1 σ.1)).1)) := by
      unfold lnS; rw [if_neg (fun q => q f4), if_neg k1, if_neg k2]
    rw [eS]
    generalize ln4 T t σ.2.1 σ.2.2.2.2.1 σ.1 = s4
    obtain ⟨l1, l2, l3, l4, l5, l6⟩ := ml
    obtain ⟨p1, p2, p3, p4, p5⟩ := pN
    have k0 : ∀ b, rwr T t (lnk T t σ.1) (ln2 T t σ.2.1 σ.1) b 0 = lnk T t σ.1 := fun b => rfl
    rw [l5]
    generalize eR : rwr T t (lnk T t σ.1) (ln2 T t σ.2.1 σ.1) σ.2.2.2.2.2.1 = rr
    have r0 : rr 0 = lnk T t σ.1 := by rw [← eR]; exact k0 _
    generalize nI (rw5 T t (lnk T t σ.1) (ln2 T t σ.2.1 σ.1)).1 = pl at *
    unfold ML
    dsimp only
    refine ⟨g6s _ _ _, fun w hw j hj => ?_, fun w hw kc => ?_, fun b hb => ?_, ?_, fun b hb => ?_⟩
    · rw [giR _ _ _ _ _ _ (by decide)]
      unfold upr
      by_cases q : w = σ.2.1
      · rw [if_pos q, q]; exact r8_at _ _ _ _ hj
      · rw [if_neg q, r8_lt _ _ _ _ (by omega), p3 6229 (by decide) (by decide)]
        exact l2 w (by omega) j hj
    · rw [giR _ _ _ _ _ _ (by decide), r8_ne _ _ _ _ (by decide)]
      unfold upr at kc
      unfold up1
      by_cases q : w = σ.2.1
      · rw [if_pos q] at kc ⊢
        rw [q]
        rw [r0] at kc
        exact hp kc
      · rw [if_neg q] at kc ⊢
        rw [p5 w q]
        exact l3 w (by omega) kc
    · rw [giR _ _ _ _ _ _ (by decide), r8_ne _ _ _ _ (by decide), p3 6285 (by decide) (by decide)]; exact l4 b hb
    · rw [g6 _ _ _ _ (by decide), r8_ne _ _ _ _ (by decide), p4 8 (by decide)]; exact l5
    · rw [giR _ _ _ _ _ _ (by decide), r8_ne _ _ _ _ (by decide), p3 6360 (by decide) (by decide)]; exact l6 b hb
end EQ9
end MG50
section MG51
/-! ===== a rule as the lines tell it, on both sides ===== -/
section EQB
variable {M : Mm} {T : Nat → Int32} {t : Nat} {a : Tst} {r : Rst}
/-- one of three names -/
def ooc (T : Nat → Int32) (t : Nat) (x y z : Int32) (r : Rst) : Rst := wts (if nmk T t r = x ∨ nmk T t r = y ∨ nmk T t r = z then 1 else 0) 2 (nam r)
theorem oos_d {x y z : Int32} : oos T t x y z r = nxs T t (ooc T t x y z r) := rfl
theorem ooc_f {x y z : Int32} (h : ¬ r.2.2.2.2.1 = 0) : ooc T t x y z r = r := by unfold ooc; rw [nam_f h]; exact wts_f h
theorem oos_f {x y z : Int32} (h : ¬ r.2.2.2.2.1 = 0) : oos T t x y z r = r := by rw [oos_d, ooc_f h, nxs_f h]
theorem dmc_f (h : ¬ r.2.2.2.2.1 = 0) : dmc T t r = r := by unfold dmc; rw [nam_f h]; exact wts_f h
theorem rms_f (h : ¬ r.2.2.2.2.1 = 0) : rms T t r = r := by rw [rms_d, dmc_f h, nxs_f h]
theorem tk1_f {j : Nat} (h : ¬ a.2.2.2.2.1 = 0) : tk1 T t j a = a := by
  unfold tk1
  split
  · rfl
  · exact tfl_f h
theorem rl_one {j : Nat} {x y z : Int32} {NLj : List (List Int32)} (hr : r.2.1 ≤ 400) (h : RL a r) (am : ∀ s : Tst, amo T t j s = fnd (tkl T t s.2.1 (s.2.2.1 - s.2.1)) NLj 0) (fq : ∀ k, (fnd k NLj 0 = -1 ∧ ∀ c ∈ ([x, y, z] : List Int32), ¬ nmF k = c) ∨ ∃ i, i < 3 ∧ fnd k NLj 0 = nI i ∧ ([x, y, z] : List Int32)[i]? = some (nmF k)) :
    RL (tk1 T t j a) (ooc T t x y z r) ∧ ((tk1 T t j a).2.2.2.2.1 = 0 → (∃ i, i < 3 ∧ tk1v T t j a = nI i ∧ ([x, y, z] : List Int32)[i]? = some (nmk T t r)) ∧ tk1 T t j a = a ∧ ooc T t x y z r = r ∧ a.2.2.2.2.1 = 0) := by
  by_cases f : a.2.2.2.2.1 = 0
  · have fr : r.2.2.2.2.1 = 0 := h.1.symm.trans f
    rcases rl_nam h f with ⟨k2, en, s1⟩ | ⟨k2, hn, fn⟩
    · have ek : nmk T t r = nmF (tkl T t r.1 (r.2.1 - r.1)) := by unfold nmk; rw [en, if_pos fr, nmv_d T t _ _ hr]
      have ea : tk1n T t j a = fnd (tkl T t r.1 (r.2.1 - r.1)) NLj 0 := by unfold tk1n; rw [if_pos k2, am, rl_tok h f]
      rcases fq (tkl T t r.1 (r.2.1 - r.1)) with ⟨e, n⟩ | ⟨i, hi, e, c⟩
      · have e1 : tk1 T t j a = tfl 2 a := by unfold tk1; rw [ea, e, if_neg (by decide)]
        have nc : ¬ (nmk T t r = x ∨ nmk T t r = y ∨ nmk T t r = z) := by
          rw [ek]
          rintro (q | q | q)
          · exact n x (List.mem_cons_self ..) q
          · exact n y (List.mem_cons_of_mem _ (List.mem_cons_self ..)) q
          · exact n z (List.mem_cons_of_mem _ (List.mem_cons_of_mem _ (List.mem_cons_self ..))) q
        have e2 : ooc T t x y z r = wts 0 2 r := by unfold ooc; rw [if_neg nc, en]
        rw [e1, e2]
        exact ⟨rl_fail h f (by decide), fun q => absurd q (tfl_ne (by decide))⟩
      · have p0 : (0 : Int32) ≤ nI i := nI_pos' (by omega)
        have e1 : tk1 T t j a = a := by unfold tk1; rw [ea, e, if_pos p0]
        have ev : tk1v T t j a = nI i := by unfold tk1v; rw [ea, e, if_pos p0]
        rw [← ek] at c
        have cc : nmk T t r = x ∨ nmk T t r = y ∨ nmk T t r = z := by
          match i, hi, c with
          | 0, _, c => exact Or.inl (Option.some.inj c).symm
          | 1, _, c => exact Or.inr (Or.inl (Option.some.inj c).symm)
          | 2, _, c => exact Or.inr (Or.inr (Option.some.inj c).symm)
        have e2 : ooc T t x y z r = r := by unfold ooc; rw [if_pos cc, en]; exact wts_t (by decide)
        rw [e1, e2]
        exact ⟨h, fun _ => ⟨⟨i, hi, ev, c⟩, rfl, rfl, f⟩⟩
    · have e1 : tk1 T t j a = tfl 2 a := by unfold tk1 tk1n; rw [if_neg k2, if_neg (by decide)]
      have er : ooc T t x y z r = nam r := by unfold ooc; exact wts_f fn
      rw [e1, er]
      exact ⟨hn, fun q => absurd q (tfl_ne (by decide))⟩
  · have fr : ¬ r.2.2.2.2.1 = 0 := fun q => f (h.1.trans q)
    rw [tk1_f f, ooc_f fr]
    exact ⟨h, fun q => absurd q f⟩
end EQB
/-- state, rows told, rows -/
abbrev QSt : Type := Rst × (Nat → Int32) × (Nat → Int32)
section EQB2
variable (T : Nat → Int32) (t : Nat)
def qlS (ρ : QSt) : QSt :=
  if row (lnk T t ρ.1) = -4 then (wts 0 2 ρ.1, ρ.2)
  else if ¬ (ru3 T t ρ.2.1 ρ.1).2.2.2.2.1 = 0 then (ru3 T t ρ.2.1 ρ.1, ρ.2)
  else (ru3 T t ρ.2.1 ρ.1, up1 ρ.2.1 (row (lnk T t ρ.1)).toNatClampNeg 1, up1 ρ.2.2 (row (lnk T t ρ.1)).toNatClampNeg (ruv T t ρ.2.1 ρ.1))
def qpS : Nat → QSt → Nat → QSt × Nat
  | 0, ρ, l => (ρ, l)
  | n + 1, ρ, l => if ¬ ρ.1.2.2.2.2.1 = 0 ∨ ρ.1.2.2.1 = 0 then (ρ, l) else qpS n (qlS T t ρ) (l + 1)
theorem qpS_stop {n l : Nat} {ρ : QSt} (h : ¬ ρ.1.2.2.2.2.1 = 0 ∨ ρ.1.2.2.1 = 0) : qpS T t (n + 1) ρ l = (ρ, l) := by
  show (if ¬ ρ.1.2.2.2.2.1 = 0 ∨ ρ.1.2.2.1 = 0 then (ρ, l) else qpS T t n (qlS T t ρ) (l + 1)) = _
  exact if_pos h
theorem qpS_go {n l : Nat} {ρ : QSt} (h : ¬ (¬ ρ.1.2.2.2.2.1 = 0 ∨ ρ.1.2.2.1 = 0)) : qpS T t (n + 1) ρ l = qpS T t n (qlS T t ρ) (l + 1) := by
  show (if ¬ ρ.1.2.2.2.2.1 = 0 ∨ ρ.1.2.2.1 = 0 then (ρ, l) else qpS T t n (qlS T t ρ) (l + 1)) = _
  exact if_neg h
end EQB2
section EQB3
variable {M : Mm} {T : Nat → Int32} {t : Nat} {ρ : QSt}
theorem ql_1a (h : row (lnk T t ρ.1) = -4) : qlS T t ρ = (wts 0 2 ρ.1, ρ.2) := by unfold qlS; rw [if_pos h]
theorem ql_1b (h : ¬ row (lnk T t ρ.1) = -4) (f : ¬ (ru3 T t ρ.2.1 ρ.1).2.2.2.2.1 = 0) : qlS T t ρ = (ru3 T t ρ.2.1 ρ.1, ρ.2) := by unfold qlS; rw [if_neg h, if_pos f]
theorem ql_1c (h : ¬ row (lnk T t ρ.1) = -4) (f : (ru3 T t ρ.2.1 ρ.1).2.2.2.2.1 = 0) : qlS T t ρ = (ru3 T t ρ.2.1 ρ.1, up1 ρ.2.1 (row (lnk T t ρ.1)).toNatClampNeg 1, up1 ρ.2.2 (row (lnk T t ρ.1)).toNatClampNeg (ruv T t ρ.2.1 ρ.1)) := by unfold qlS; rw [if_neg h, if_neg (fun q => q f)]
theorem ql_1 (h : ¬ row (lnk T t ρ.1) = -4) : (qlS T t ρ).1 = ru3 T t ρ.2.1 ρ.1 := by
  by_cases f : (ru3 T t ρ.2.1 ρ.1).2.2.2.2.1 = 0
  · rw [ql_1c h f]
  · rw [ql_1b h f]
theorem wts02 {s : Rst} {k : Int32} (hk : ¬ k = 0) : ¬ (wts 0 k s).2.2.2.2.1 = 0 := by
  by_cases z : s.2.2.2.2.1 = 0
  · unfold wts; rw [if_pos ⟨rfl, z⟩]; exact hk
  · rw [wts_f z]; exact z
/-- a line without a fault tells a row -/
theorem ql_row (f : (qlS T t ρ).1.2.2.2.2.1 = 0) : ¬ row (lnk T t ρ.1) = -4 ∧ (ru3 T t ρ.2.1 ρ.1).2.2.2.2.1 = 0 := by
  by_cases h : row (lnk T t ρ.1) = -4
  · rw [ql_1a h] at f
    exact absurd f (wts02 (by decide))
  · rw [ql_1 h] at f
    exact ⟨h, f⟩
theorem ql_go (f : (qlS T t ρ).1.2.2.2.2.1 = 0) : ρ.1.2.1 < (qlS T t ρ).1.2.1 := by
  obtain ⟨h, z⟩ := ql_row f
  rw [ql_1 h]
  exact go_ru3 z
theorem row_lt (k : Int32) : (row k).toNatClampNeg < 7 := by
  rcases row_c k with q | ⟨-, q⟩ | ⟨-, q⟩ | ⟨-, q⟩ | ⟨-, q⟩ | ⟨-, q⟩ | ⟨-, q⟩ | ⟨-, q⟩ <;> rw [q] <;> decide
theorem ru1_cg {c c' : Nat → Int32} {s : Rst} (h : ∀ i, i < 7 → c i = c' i) : ru1 T t c s = ru1 T t c' s := by
  unfold ru1; rw [h _ (row_lt _)]
theorem ru3_cg {c c' : Nat → Int32} {s : Rst} (h : ∀ i, i < 7 → c i = c' i) : ru3 T t c s = ru3 T t c' s := by
  have e := ru1_cg (T := T) (t := t) (s := s) h
  unfold ru3 ru2; rw [e]
theorem ruv_cg {c c' : Nat → Int32} {s : Rst} (h : ∀ i, i < 7 → c i = c' i) : ruv T t c s = ruv T t c' s := by
  have e := ru1_cg (T := T) (t := t) (s := s) h
  unfold ruv; rw [e]
/-- the head that is told is a doctor or none -/
def hdS (ρ : QSt) : Prop := ρ.2.2 4 = -4 ∨ ∃ e, e < 8 ∧ ρ.2.2 4 = nI e
theorem ql_hd (hd : hdS ρ) (f : (qlS T t ρ).1.2.2.2.2.1 = 0) : hdS (qlS T t ρ) := by
  obtain ⟨h, z⟩ := ql_row f
  rw [ql_1c h z]
  unfold hdS
  dsimp only
  unfold up1
  by_cases q : 4 = (row (lnk T t ρ.1)).toNatClampNeg
  · rw [if_pos q]
    have k15 : lnk T t ρ.1 = 15 := by
      rcases row_c (lnk T t ρ.1) with e | ⟨-, e⟩ | ⟨-, e⟩ | ⟨-, e⟩ | ⟨-, e⟩ | ⟨k, e⟩ | ⟨-, e⟩ | ⟨-, e⟩
      · rw [e] at q; exact absurd q (by decide)
      · rw [e] at q; exact absurd q (by decide)
      · rw [e] at q; exact absurd q (by decide)
      · rw [e] at q; exact absurd q (by decide)
      · rw [e] at q; exact absurd q (by decide)
      · exact k
      · rw [e] at q; exact absurd q (by decide)
      · rw [e] at q; exact absurd q (by decide)
    have d1 : ruv T t ρ.2.1 ρ.1 = rdv T t (ru1 T t ρ.2.1 ρ.1) := by
      unfold ruv; rw [if_neg (by rw [k15]; decide), if_neg (by rw [k15]; decide), if_neg (by rw [k15]; decide), if_neg (by rw [k15]; decide), if_pos k15]
    have d2 : ru2 T t ρ.2.1 ρ.1 = rds T t (ru1 T t ρ.2.1 ρ.1) := by
      unfold ru2; rw [if_neg (by rw [k15]; decide), if_neg (by rw [k15]; decide), if_neg (by rw [k15]; decide), if_neg (by rw [k15]; decide), if_pos k15]
    rw [d1]
    unfold ru3 at z
    have z2 := (eln_ok z).2
    rw [d2] at z2
    obtain ⟨-, x, y, -⟩ := rds_ok z2
    obtain ⟨j, hj, e⟩ := rngL (c := 7) (n := 7) rfl (by decide) x y
    exact Or.inr ⟨j, hj, e⟩
  · rw [if_neg q]; exact hd
/-- the beginning of a rule -/
def qS0 (T : Nat → Int32) (t : Nat) (x v p : Int32) : QSt := (nxs T t (0, 0, x, v, 0, p), (fun _ => 0), dv)
/-- the reference's draft of a rule -/
def MUq (N : Mm) (ρ : QSt) : Prop := (∀ i, i < 7 → gi N 6745 i = ρ.2.1 i) ∧ ∀ i, i < 7 → gi N 6671 i = ρ.2.2 i
theorem nM_qlS {K : Mm → Prop} (rd : RD M T t ρ.1) (z0 : ρ.1.2.2.2.2.1 = 0) (mu : MUq M ρ) (h : ∀ N, PR M N → RD N T t (qlS T t ρ).1 → ((qlS T t ρ).1.2.2.2.2.1 = 0 → MUq N (qlS T t ρ)) → K N) : CV mM_readRule [.ref 6027] M K := by
  have c3 : ru3 T t (gi M 6745) ρ.1 = ru3 T t ρ.2.1 ρ.1 := ru3_cg mu.1
  have cv : ruv T t (gi M 6745) ρ.1 = ruv T t ρ.2.1 ρ.1 := ruv_cg mu.1
  refine nM_readRule rd z0 (fun N u pr rN nf q1 q2 => ?_) (fun N O P i ei hi pN pO pP rP z => ?_)
  · by_cases q : row (lnk T t ρ.1) = -4
    · have e := q1 q
      rw [if_pos q] at e
      have eq : (qlS T t ρ).1 = u := by rw [ql_1a q, e]
      exact h N pr (by rw [eq]; exact rN) (fun y => absurd (by rw [← eq]; exact y) nf)
    · have e := q2 q
      have eq : (qlS T t ρ).1 = u := by rw [ql_1 q, e, c3]
      exact h N pr (by rw [eq]; exact rN) (fun y => absurd (by rw [← eq]; exact y) nf)
  · rw [c3] at rP z
    rw [cv] at pP
    have q : ¬ row (lnk T t ρ.1) = -4 := by rw [ei]; exact nI4 (by omega)
    have ci : (row (lnk T t ρ.1)).toNatClampNeg = i := by rw [ei]; exact ncl (by omega)
    refine h P (pr_tr (pr_pf pN) (pr_tr (pr_si (Or.inr rfl)) (pr_tr (pr_pf pO) (pr_tr (pr_si (Or.inl rfl)) (pr_pf pP))))) (by rw [ql_1 q]; exact rP) (fun _ => ?_)
    rw [ql_1c q z, ci]
    generalize ruv T t ρ.2.1 ρ.1 = v at pP ⊢
    generalize ru3 T t ρ.2.1 ρ.1 = s3
    unfold MUq
    dsimp only
    refine ⟨fun j hj => ?_, fun j hj => ?_⟩
    · rw [pP.2.2.1 6745 (by decide), gi_ne (by decide), pO.2.2.1 6745 (by decide), gxs, pN.2.2.1 6745 (by decide)]
      unfold up1
      by_cases e : j = i
      · rw [if_pos e, if_pos e]
      · rw [if_neg e, if_neg e]; exact mu.1 j hj
    · rw [pP.2.2.1 6671 (by decide), gxs, pO.2.2.1 6671 (by decide), gi_ne (by decide), pN.2.2.1 6671 (by decide)]
      unfold up1
      by_cases e : j = i
      · rw [if_pos e, if_pos e]
      · rw [if_neg e, if_neg e]; exact mu.2 j hj
/-- the reference's rule, exactly -/
theorem eM_rule {K : Int32 → Mm → Prop} {x0 v0 p0 : Int32} (tp : TP M T t) (hx : gi M 6027 14 = x0) (hv : gi M 6027 15 = v0) (hp : gi M 6027 17 = p0)
    (h1 : ∀ N, NR M N → gi N 6543 = gi M 6543 → gi N 6027 11 = 0 → ¬ (qpS T t 401 (qS0 T t x0 v0 p0) 0).1.1.2.2.2.2.1 = 0 → gi N 6027 16 = (qpS T t 401 (qS0 T t x0 v0 p0) 0).1.1.2.2.2.2.1 → gi N 6027 17 = (qpS T t 401 (qS0 T t x0 v0 p0) 0).1.1.2.2.2.2.2 → K ((-10) - (qpS T t 401 (qS0 T t x0 v0 p0) 0).1.1.2.2.2.2.2) N)
    (h3 : ∀ N, NR M N → HD N → gi N 6027 11 = 0 → (qpS T t 401 (qS0 T t x0 v0 p0) 0).1.1.2.2.2.2.1 = 0 → gi N 6027 16 = 0 → (∀ i, i < 7 → gi N 6543 i = (qpS T t 401 (qS0 T t x0 v0 p0) 0).1.2.2 i) → K (nI (qpS T t 401 (qS0 T t x0 v0 p0) 0).2) N) : CI mM_rule [.ref 6027] M K := by
  have hm := tp.1
  have ht := tp.2.2.1
  refine call_of rfl (Nat.le_of_ble_eq_true rfl) rfl (vM_rule_0 rfl (sM_firstRule (mr_w hm rfl) (vM_rule_16 rfl ?_)))
  generalize eA : fu0 (si (si M 6027 16 0) 6027 12 0) = A
  have gA : ∀ a, ¬ (a = 6027 ∨ a = 6671 ∨ a = 6745) → gi A a = gi M a := by
    intro a ha
    funext k
    rw [← eA]; unfold fu0
    rw [rwmR _ _ _ _ _ _ (fun e => ha (by omega)), flR _ _ _ _ _ _ (fun e => ha (by omega)), giR _ _ _ _ _ _ (fun e => ha (by omega)), giR _ _ _ _ _ _ (fun e => ha (by omega))]
  have fA : ∀ k, k ≠ 12 → k ≠ 16 → gi A 6027 k = gi M 6027 k := by
    intro k c d
    rw [← eA]; unfold fu0
    rw [rwmR _ _ _ _ _ _ (by decide), flR _ _ _ _ _ _ (by decide), g6 _ _ _ _ c, g6 _ _ _ _ d]
  have fz : ∀ k, k = 12 ∨ k = 16 → gi A 6027 k = 0 := by
    intro k hk
    rw [← eA]; unfold fu0
    rw [rwmR _ _ _ _ _ _ (by decide), flR _ _ _ _ _ _ (by decide)]
    simp only [gi_si]
    rcases hk with rfl | rfl <;> simp
  have tA : ∀ i, i < 7 → gi A 6745 i = 0 := by
    intro i hi
    rw [← eA]; unfold fu0
    rw [rwmR _ _ _ _ _ _ (by decide), gi_fl, if_pos ⟨rfl, hi⟩]
  have dA : ∀ i, i < 7 → gi A 6671 i = dv i := by
    intro i hi
    rw [← eA]; unfold fu0
    rw [gi_rwm, if_pos ⟨rfl, hi⟩]
  have rA : gr A = gr M := by rw [← eA, gr_fu0]; rfl
  have lA : gl A = gl M := by rw [← eA]; rfl
  have tpA : TP A T t := ⟨mr_w hm rA, (fA 11 (by decide) (by decide)).trans tp.2.1, tp.2.2.1, (gA 6486 (by decide)).trans tp.2.2.2⟩
  have nrA : ∀ {N}, PR A N → NR M (si N 6027 11 0) ∧ gi (si N 6027 11 0) 6543 = gi M 6543 := by
    intro N pr
    refine ⟨⟨pr.1.trans rA, pr.2.1.trans lA, fun a ha => ?_, fun k hk => ?_⟩, ?_⟩
    · rw [gi_ne (fun e => ha (by omega)), pr.2.2.1 a (fun e => ha (by omega)), gA a (fun e => ha (by omega))]
    · rw [g6 _ _ _ _ (fun e => hk (by omega)), pr.2.2.2 k (fun e => hk (by omega)), fA k (fun e => hk (by omega)) (fun e => hk (by omega))]
    · rw [gi_ne (by decide), pr.2.2.1 _ (by decide), gA _ (by decide)]
  refine nM_next0 tpA (fz 12 (by decide)) (fz 16 (by decide)) (fun N pf rN => ?_)
  rw [fA 14 (by decide) (by decide), fA 15 (by decide) (by decide), fA 17 (by decide) (by decide), hx, hv, hp] at rN
  have mu0 : MUq N (qS0 T t x0 v0 p0) := ⟨fun i hi => by rw [pf.2.2.1 6745 (by decide)]; exact tA i hi, fun i hi => by rw [pf.2.2.1 6671 (by decide)]; exact dA i hi⟩
  have hd0 : hdS (qS0 T t x0 v0 p0) := Or.inl rfl
  have rN' : RD N T t (qS0 T t x0 v0 p0).1 := rN
  have pos0 : (qS0 T t x0 v0 p0).1.2.2.2.2.1 = 0 → ¬ (qS0 T t x0 v0 p0).1.2.2.1 = 0 → 0 < (qS0 T t x0 v0 p0).1.2.1 := fun f n => by
    have := (go_nxs (T := T) (t := t) (s := (0, 0, x0, v0, 0, p0))).2 f
    exact this.2 n
  clear rN
  generalize qS0 T t x0 v0 p0 = ρ0 at h1 h3 mu0 hd0 rN' pos0
  generalize eF : qpS T t 401 ρ0 0 = F at h1 h3
  have bout : ∀ N ρ v, PR A N → RD N T t ρ.1 → (ρ.1.2.2.2.2.1 = 0 → MUq N ρ ∧ hdS ρ) → (ρ, v) = F → ((gi (si N 6027 11 0) 6027 16) ≤ 0 → (X mM_rule 66 [(0, .ref 6027), (1, .int (nI v)), (2, .int 0)] [] (si N 6027 11 0) (mC mM_rule, mS mM_rule) (QI K))) ∧ (¬ (gi (si N 6027 11 0) 6027 16) ≤ 0 → (K ((-10) - (gi (si N 6027 11 0) 6027 17)) (si N 6027 11 0))) := by
    intro N ρ v pr rN lk e
    subst e
    have n16 := rN.2.2.2.2.2.1
    have n17 := rN.2.2.2.2.2.2.1
    have mN := rN.1.1
    have e16 : gi (si N 6027 11 0) 6027 16 = ρ.1.2.2.2.2.1 := (g6 _ _ _ _ (by decide)).trans n16
    have e17 : gi (si N 6027 11 0) 6027 17 = ρ.1.2.2.2.2.2 := (g6 _ _ _ _ (by decide)).trans n17
    obtain ⟨nr, e5⟩ := nrA pr
    by_cases z : ρ.1.2.2.2.2.1 = 0
    · obtain ⟨mu, hd⟩ := lk z
      refine ⟨fun _ => ?_, fun q => absurd (by rw [e16, z]; decide) q⟩
      generalize eB : si N 6027 11 0 = B at nr e5 e16 ⊢
      have mB : MR B := by rw [← eB]; exact mr_w mN rfl
      have b11 : gi B 6027 11 = 0 := by rw [← eB, g6s]
      have bv : ∀ i, i < 7 → gi B 6671 i = ρ.2.2 i := fun i hi => by rw [← eB, gi_ne (by decide)]; exact mu.2 i hi
      have key := lp 7 (P := fun i => X mM_rule 66 [(0, .ref 6027), (1, .int (nI v)), (2, .int (nI i))] [] (rwm B 6543 i (gi B 6671)) (mC mM_rule, mS mM_rule) (QI K)) (fun i hi ih => ?_) ?_
      · rw [rwm_0] at key; exact key
      · have mr := mr_w mB (gr_rwm B 6543 i (gi B 6671))
        refine vM_rule_66 rfl (mr18 mr) (mr20 mr) ⟨fun _ => vin hi (by decide), fun q => absurd q (nge rfl (by decide) hi), fun _ => ⟨vin hi (by decide), ?_⟩⟩
        rw [ncl (by omega), nI_s, rwmR _ _ _ _ _ _ (by decide), rwm_s]; exact ih
      · have mr := mr_w mB (gr_rwm B 6543 7 (gi B 6671))
        have gv : ∀ i, i < 7 → gi (rwm B 6543 7 (gi B 6671)) 6543 i = ρ.2.2 i := fun i hi => by rw [gi_rwm, if_pos ⟨rfl, hi⟩]; exact bv i hi
        refine vM_rule_66 rfl (mr18 mr) (mr20 mr) ⟨fun q => absurd (nself rfl) q, fun _ => h3 _ ?_ ?_ ?_ z ?_ gv, fun q => absurd (nself rfl) q⟩
        · refine ⟨nr.1, nr.2.1, fun a ha => ?_, fun k hk => ?_⟩
          · funext k
            rw [rwmR _ _ _ _ _ _ (fun e => ha (by omega)), nr.2.2.1 a ha]
          · rw [rwmR _ _ _ _ _ _ (by decide), nr.2.2.2 k hk]
        · unfold HD
          rw [gv 4 (by decide)]; exact hd
        · rw [rwmR _ _ _ _ _ _ (by decide), b11]
        · rw [rwmR _ _ _ _ _ _ (by decide), e16]; exact z
    · have nl : ¬ ρ.1.2.2.2.2.1 ≤ 0 := rN.2.2.2.2.2.2.2.2.2.resolve_left z
      refine ⟨fun q => absurd (by rw [← e16]; exact q) nl, fun _ => ?_⟩
      rw [e17]
      exact h1 _ nr e5 (g6s _ _ _) z e16 e17
  have key : ∀ n v N ρ, v + n = 400 → PR A N → RD N T t ρ.1 → (ρ.1.2.2.2.2.1 = 0 → MUq N ρ ∧ hdS ρ) → (ρ.1.2.2.2.2.1 = 0 → ¬ ρ.1.2.2.1 = 0 → v < ρ.1.2.1) → qpS T t (n + 1) ρ v = F → X mM_rule 20 [(0, .ref 6027), (1, .int (nI v))] [] N (mC mM_rule, mS mM_rule) (QI K) := by
    intro n
    induction n with
    | zero =>
      intro v N ρ hv pl rN lk pos e
      have n14 := rN.2.2.2.1
      have n16 := rN.2.2.2.2.2.1
      have ex : ¬ ρ.1.2.2.2.2.1 = 0 ∨ ρ.1.2.2.1 = 0 := by
        by_cases f : ρ.1.2.2.2.2.1 = 0
        · right
          by_cases q : ρ.1.2.2.1 = 0
          · exact q
          · exfalso
            have p := pos f q
            have b2 := rN.2.2.2.2.2.2.2.2.1
            omega
        · exact Or.inl f
      refine vM_rule_20 rfl ⟨fun _ => bout N ρ v pl rN lk ((qpS_stop T t ex).symm.trans e), fun q => ?_⟩
      rw [n14, n16] at q
      exact absurd ex (fun y => y.elim (fun y => y q.1) q.2)
    | succ n ih =>
      intro v N ρ hv pl rN lk pos e
      have n14 := rN.2.2.2.1
      have n16 := rN.2.2.2.2.2.1
      refine vM_rule_20 rfl ⟨fun q => ?_, fun q => ?_⟩
      · rw [n14, n16] at q
        have ex : ¬ ρ.1.2.2.2.2.1 = 0 ∨ ρ.1.2.2.1 = 0 := q.imp id (fun q => q.2)
        exact bout N ρ v pl rN lk ((qpS_stop T t ex).symm.trans e)
      · rw [n14, n16] at q
        obtain ⟨mu, hd⟩ := lk q.1
        have e' : qpS T t (n + 1) (qlS T t ρ) (v + 1) = F := (qpS_go T t (fun y => y.elim (fun y => y q.1) q.2)).symm.trans e
        refine nM_qlS rN q.1 mu (fun O pO rO mO => vM_rule_38 ?_)
        rw [nI_s]
        refine ih (v + 1) O (qlS T t ρ) (by omega) (pr_tr pl pO) rO (fun y => ⟨mO y, ql_hd hd y⟩) (fun y1 y2 => ?_) e'
        have g := ql_go y1
        have := pos q.1 q.2
        omega
  exact key 400 0 N ρ0 (by omega) (pr_pf pf) rN' (fun _ => ⟨mu0, hd0⟩) pos0 eF
end EQB3
end MG51
section MG52
/-! ===== the class reads a rule as the lines tell it ===== -/
section EQC
variable {M : Mm} {T : Nat → Int32} {t : Nat}
/-- what a row's telling leaves of the tokens, and what it tells -/
def qtS (T : Nat → Int32) (t i : Nat) (s : Tst) : Tst := if i = 0 then tkD T t (adv T t s) else if i = 1 then tkN 9 (adv T t s) else if i = 2 then s else if i = 3 then tk1 T t 3 (adv T t s) else if i = 4 then tkO T t (adv T t s) else if i = 5 then tk1 T t 4 (adv T t s) else tk1 T t 5 (adv T t s)
def qtv (T : Nat → Int32) (t i : Nat) (s : Tst) : Int32 := if i = 0 then tkDv T t (adv T t s) else if i = 1 then tkNv 9 (adv T t s) else if i = 2 then 1 else if i = 3 then tk1v T t 3 (adv T t s) else if i = 4 then tkOv T t (adv T t s) else if i = 5 then (if tk1v T t 4 (adv T t s) ≤ 1 then tk1v T t 4 (adv T t s) else -4) else tk1v T t 5 (adv T t s)
theorem qt0 {s : Tst} : qtS T t 0 s = tkD T t (adv T t s) := by unfold qtS; rw [if_pos rfl]
theorem qv0 {s : Tst} : qtv T t 0 s = tkDv T t (adv T t s) := by unfold qtv; rw [if_pos rfl]
theorem qt1 {s : Tst} : qtS T t 1 s = tkN 9 (adv T t s) := by unfold qtS; rw [if_neg (by decide), if_pos rfl]
theorem qv1 {s : Tst} : qtv T t 1 s = tkNv 9 (adv T t s) := by unfold qtv; rw [if_neg (by decide), if_pos rfl]
theorem qt2 {s : Tst} : qtS T t 2 s = s := by unfold qtS; rw [if_neg (by decide), if_neg (by decide), if_pos rfl]
theorem qv2 {s : Tst} : qtv T t 2 s = 1 := by unfold qtv; rw [if_neg (by decide), if_neg (by decide), if_pos rfl]
theorem qt3 {s : Tst} : qtS T t 3 s = tk1 T t 3 (adv T t s) := by unfold qtS; rw [if_neg (by decide), if_neg (by decide), if_neg (by decide), if_pos rfl]
theorem qv3 {s : Tst} : qtv T t 3 s = tk1v T t 3 (adv T t s) := by unfold qtv; rw [if_neg (by decide), if_neg (by decide), if_neg (by decide), if_pos rfl]
theorem qt4 {s : Tst} : qtS T t 4 s = tkO T t (adv T t s) := by unfold qtS; rw [if_neg (by decide), if_neg (by decide), if_neg (by decide), if_neg (by decide), if_pos rfl]
theorem qv4 {s : Tst} : qtv T t 4 s = tkOv T t (adv T t s) := by unfold qtv; rw [if_neg (by decide), if_neg (by decide), if_neg (by decide), if_neg (by decide), if_pos rfl]
theorem qt5 {s : Tst} : qtS T t 5 s = tk1 T t 4 (adv T t s) := by unfold qtS; rw [if_neg (by decide), if_neg (by decide), if_neg (by decide), if_neg (by decide), if_neg (by decide), if_pos rfl]
theorem qv5 {s : Tst} : qtv T t 5 s = (if tk1v T t 4 (adv T t s) ≤ 1 then tk1v T t 4 (adv T t s) else -4) := by unfold qtv; rw [if_neg (by decide), if_neg (by decide), if_neg (by decide), if_neg (by decide), if_neg (by decide), if_pos rfl]
theorem qt6 {s : Tst} : qtS T t 6 s = tk1 T t 5 (adv T t s) := by unfold qtS; rw [if_neg (by decide), if_neg (by decide), if_neg (by decide), if_neg (by decide), if_neg (by decide), if_neg (by decide)]
theorem qv6 {s : Tst} : qtv T t 6 s = tk1v T t 5 (adv T t s) := by unfold qtv; rw [if_neg (by decide), if_neg (by decide), if_neg (by decide), if_neg (by decide), if_neg (by decide), if_neg (by decide)]
theorem or_sw {p q r : Prop} : (p ∨ q ∨ r) → (q ∨ p ∨ r) := fun h => h.elim (fun x => Or.inr (Or.inl x)) (fun h => h.elim Or.inl (fun x => Or.inr (Or.inr x)))
theorem eRr_tell {r i : Nat} {s : Tst} {K : Mm → Prop} (hk : r % 64 = 3) (hi : i < 7) (g0 : gr M 324 0 = some 199) (td : TD M T t s) (h : ∀ N, PX r M N → TD N T t (qtS T t i s) → (∀ j, gi N r j = if j = i then qtv T t i s else gi M r j) → K N) : CV mRr_tell [.ref 324, .ref r, .int (nI i)] M K := by
  have x1 : r ≠ 199 := by omega
  have x2 : r ≠ 70 := by omega
  have x3 : r ≠ 145 := by omega
  have fin : ∀ N v, PT M N → TD N T t (qtS T t i s) → v = qtv T t i s → K (si N r i v) := by
    intro N v pN tN e
    refine h _ (px_tr (px_pt pN) px_si) (td_si x1 x2 x3 tN) (fun j => ?_)
    rw [gxs, e, pN.2.2 r x1]
  have ii : i = 0 ∨ i = 1 ∨ i = 2 ∨ i = 3 ∨ i = 4 ∨ i = 5 ∨ i = 6 := by omega
  rcases ii with rfl | rfl | rfl | rfl | rfl | rfl | rfl
  · refine call_of rfl (Nat.le_of_ble_eq_true rfl) rfl (vRr_tell_0 rfl hk g0 ⟨fun _ => nTo_takeDoctors td (fun N pN tN => vRr_tell_48 hk (fin N _ pN (by rw [qt0]; exact tN) qv0.symm)), fun q => absurd q (by decide), fun q => absurd q (by decide), fun q => absurd q (by decide), fun q => absurd q (by decide), fun q => absurd q (by decide), fun q => absurd rfl q.1⟩)
  · refine call_of rfl (Nat.le_of_ble_eq_true rfl) rfl (vRr_tell_0 rfl hk g0 ⟨fun q => absurd q (by decide), fun _ => nTo_takeNumber td (fun N pN tN => vRr_tell_64 hk (fin N _ pN (by rw [qt1]; exact tN) qv1.symm)), fun q => absurd q (by decide), fun q => absurd q (by decide), fun q => absurd q (by decide), fun q => absurd q (by decide), fun q => absurd rfl q.2.1⟩)
  · refine call_of rfl (Nat.le_of_ble_eq_true rfl) rfl (vRr_tell_0 rfl hk g0 ⟨fun q => absurd q (by decide), fun q => absurd q (by decide), fun _ => fin M _ (pt_rf M) (by rw [qt2]; exact td) qv2.symm, fun q => absurd q (by decide), fun q => absurd q (by decide), fun q => absurd q (by decide), fun q => absurd rfl q.2.2.1⟩)
  · refine call_of rfl (Nat.le_of_ble_eq_true rfl) rfl (vRr_tell_0 rfl hk g0 ⟨fun q => absurd q (by decide), fun q => absurd q (by decide), fun q => absurd q (by decide), fun _ => nTo_takeOneOf (j := 3) td (by decide) (fun N pN tN => vRr_tell_88 hk (fin N _ pN (by rw [qt3]; exact tN) qv3.symm)), fun q => absurd q (by decide), fun q => absurd q (by decide), fun q => absurd rfl q.2.2.2.1⟩)
  · refine call_of rfl (Nat.le_of_ble_eq_true rfl) rfl (vRr_tell_0 rfl hk g0 ⟨fun q => absurd q (by decide), fun q => absurd q (by decide), fun q => absurd q (by decide), fun q => absurd q (by decide), fun _ => nTo_takeDoctor td (fun N pN tN => vRr_tell_102 hk (fin N _ pN (by rw [qt4]; exact tN) qv4.symm)), fun q => absurd q (by decide), fun q => absurd rfl q.2.2.2.2.1⟩)
  · refine call_of rfl (Nat.le_of_ble_eq_true rfl) rfl (vRr_tell_0 rfl hk g0 ⟨fun q => absurd q (by decide), fun q => absurd q (by decide), fun q => absurd q (by decide), fun q => absurd q (by decide), fun q => absurd q (by decide), fun _ => nTo_takeOneOf (j := 4) td (by decide) (fun N pN tN => vRr_tell_118 hk hk ?_), fun q => absurd rfl q.2.2.2.2.2⟩)
    refine h _ (px_tr (px_pt pN) (px_tr px_si px_si)) (by rw [qt5]; exact td_si x1 x2 x3 (td_si x1 x2 x3 tN)) (fun j => ?_)
    rw [qv5]
    have e5 : gi (si N r 5 (tk1v T t 4 (adv T t s))) r 5 = tk1v T t 4 (adv T t s) := by rw [gxs, if_pos rfl]
    rw [e5, gxs]
    by_cases q : j = 5
    · rw [if_pos q, if_pos q]
    · rw [if_neg q, if_neg q, gxs, if_neg q, pN.2.2 r x1]
  · refine call_of rfl (Nat.le_of_ble_eq_true rfl) rfl (vRr_tell_0 rfl hk g0 ⟨fun q => absurd q (by decide), fun q => absurd q (by decide), fun q => absurd q (by decide), fun q => absurd q (by decide), fun q => absurd q (by decide), fun q => absurd q (by decide), fun _ => nTo_takeOneOf (j := 5) td (by decide) (fun N pN tN => vRr_tell_155 hk (fin N _ pN (by rw [qt6]; exact tN) qv6.symm))⟩)
/-- a rule's line's name, on both sides -/
theorem lr_rel {c : Tst} {s : Rst} (hs : s.2.1 ≤ 400) (h : RL c s) (f : c.2.2.2.2.1 = 0) :
    ((if c.1 = 2 then amo T t 2 c else -1) = -1 ∧ row (lnk T t s) = -4) ∨
    (∃ i, i < 7 ∧ (if c.1 = 2 then amo T t 2 c else -1) = nI i ∧ row (lnk T t s) = nI i ∧ ([12, 11, 13, 14, 15, 16, 17] : List Int32)[i]? = some (lnk T t s)) := by
  obtain ⟨e1, e2, ks, -⟩ := h.2.2 f
  by_cases k2 : c.1 = 2
  · have s1 : s.2.2.1 = 1 := (ks2 ks).mp k2
    have el : lnk T t s = nmF (tkl T t s.1 (s.2.1 - s.1)) := by unfold lnk; rw [if_pos s1, nmv_d T t _ _ hs]
    have ea : amo T t 2 c = fnd (tkl T t s.1 (s.2.1 - s.1)) NL2 0 := by rw [am2, rl_tok h f]
    rw [if_pos k2, el, ea]
    rcases frq2 (tkl T t s.1 (s.2.1 - s.1)) with ⟨e, n⟩ | ⟨i, hi, e, cc⟩
    · refine Or.inl ⟨e, ?_⟩
      unfold row
      rw [if_neg (n 12 (by decide)), if_neg (n 11 (by decide)), if_neg (n 13 (by decide)), if_neg (n 14 (by decide)), if_neg (n 15 (by decide)), if_neg (n 16 (by decide)), if_neg (n 17 (by decide))]
    · refine Or.inr ⟨i, hi, e, ?_, cc⟩
      generalize nmF (tkl T t s.1 (s.2.1 - s.1)) = k at cc
      match i, hi, cc with
      | 0, _, cc => rw [← Option.some.inj cc]; decide
      | 1, _, cc => rw [← Option.some.inj cc]; decide
      | 2, _, cc => rw [← Option.some.inj cc]; decide
      | 3, _, cc => rw [← Option.some.inj cc]; decide
      | 4, _, cc => rw [← Option.some.inj cc]; decide
      | 5, _, cc => rw [← Option.some.inj cc]; decide
      | 6, _, cc => rw [← Option.some.inj cc]; decide
  · have s1 : ¬ s.2.2.1 = 1 := fun z => k2 ((ks2 ks).mpr z)
    have el : lnk T t s = -4 := by unfold lnk; rw [if_neg s1]
    rw [if_neg k2, el]
    exact Or.inl ⟨rfl, by decide⟩
theorem ru2_f {tl : Nat → Int32} {s : Rst} (h : ¬ (ru1 T t tl s).2.2.2.2.1 = 0) : ru2 T t tl s = ru1 T t tl s := by
  unfold ru2
  generalize ru1 T t tl s = s1 at h ⊢
  by_cases q1 : lnk T t s = 12
  · rw [if_pos q1]; exact rms_f h
  rw [if_neg q1]
  by_cases q2 : lnk T t s = 11
  · rw [if_pos q2]; exact rnf h
  rw [if_neg q2]
  by_cases q3 : lnk T t s = 13
  · rw [if_pos q3]
  rw [if_neg q3]
  by_cases q4 : lnk T t s = 14
  · rw [if_pos q4]; exact oos_f h
  rw [if_neg q4]
  by_cases q5 : lnk T t s = 15
  · rw [if_pos q5]; exact rds_f h
  rw [if_neg q5]
  by_cases q6 : lnk T t s = 16
  · rw [if_pos q6]; exact oos_f h
  · rw [if_neg q6]; exact oos_f h
/-- what a row tells is the same -/
theorem rl_tell {c : Tst} {s : Rst} {tl : Nat → Int32} {i : Nat} (tc : TC M T t) (ht : t ≤ 400) (hs : s.2.1 ≤ 400) (hi : i < 7) (h : RL c s) (f : c.2.2.2.2.1 = 0) (er : row (lnk T t s) = nI i) (ek : ([12, 11, 13, 14, 15, 16, 17] : List Int32)[i]? = some (lnk T t s)) (t0 : tl i = 0) :
    NXT T t (qtS T t i c) (ru2 T t tl s) ∧ ((qtS T t i c).2.2.2.2.1 = 0 → qtv T t i c = ruv T t tl s) := by
  have e1 : ru1 T t tl s = nxs T t s := by
    unfold ru1
    rw [er, ncl (by omega), t0, if_pos rfl, if_neg (nI4 (by omega)), wts_t (by decide), wts_t (by decide)]
  have z : RL (adv T t c) (nxs T t s) := rl_adv tc h f
  have z4 : (nxs T t s).2.1 ≤ 400 := nxs_400 ht hs
  match i, hi, ek with
  | 0, _, ek =>
    have k : lnk T t s = 12 := (Option.some.inj ek).symm
    have a1 : ru2 T t tl s = rms T t (nxs T t s) := by unfold ru2; rw [if_pos k, e1]
    have a2 : ruv T t tl s = rmv T t (nxs T t s) := by unfold ruv; rw [if_pos k, e1]
    rw [a1, a2, qt0, qv0]
    obtain ⟨g1, g2⟩ := rl_main (T := T) (t := t) z
    exact ⟨⟨_, g1, rms_d⟩, fun y => (g2 y).1⟩
  | 1, _, ek =>
    have k : lnk T t s = 11 := (Option.some.inj ek).symm
    have a1 : ru2 T t tl s = nxs T t (isn 0 9 (nxs T t s)) := by unfold ru2; rw [if_neg (by rw [k]; decide), if_pos k, e1]
    have a2 : ruv T t tl s = (nxs T t s).2.2.2.1 := by unfold ruv; rw [if_neg (by rw [k]; decide), if_pos k, e1]
    rw [a1, a2, qt1, qv1]
    obtain ⟨g1, g2⟩ := rl_num (g := 9) (by decide) z
    exact ⟨⟨_, g1, rfl⟩, fun y => (g2 y).1⟩
  | 2, _, ek =>
    have k : lnk T t s = 13 := (Option.some.inj ek).symm
    have a1 : ru2 T t tl s = nxs T t s := by unfold ru2; rw [if_neg (by rw [k]; decide), if_neg (by rw [k]; decide), if_pos k, e1]
    have a2 : ruv T t tl s = 1 := by unfold ruv; rw [if_neg (by rw [k]; decide), if_neg (by rw [k]; decide), if_pos k]
    rw [a1, a2, qt2, qv2]
    exact ⟨⟨s, h, rfl⟩, fun _ => rfl⟩
  | 3, _, ek =>
    have k : lnk T t s = 14 := (Option.some.inj ek).symm
    have a1 : ru2 T t tl s = oos T t 20 18 19 (nxs T t s) := by unfold ru2; rw [if_neg (by rw [k]; decide), if_neg (by rw [k]; decide), if_neg (by rw [k]; decide), if_pos k, e1]
    have a2 : ruv T t tl s = (if nmk T t (nxs T t s) = 20 then 0 else if nmk T t (nxs T t s) = 18 then 1 else 2) := by unfold ruv; rw [if_neg (by rw [k]; decide), if_neg (by rw [k]; decide), if_neg (by rw [k]; decide), if_pos k, e1]
    rw [a1, a2, qt3, qv3]
    obtain ⟨g1, g2⟩ := rl_one (j := 3) (x := 20) (y := 18) (z := 19) z4 z (am3 T t) frq3
    refine ⟨⟨_, g1, oos_d⟩, fun y => ?_⟩
    obtain ⟨⟨m, hm, ev, em⟩, -⟩ := g2 y
    rw [ev]
    match m, hm, em with
    | 0, _, em => rw [← Option.some.inj em]; decide
    | 1, _, em => rw [← Option.some.inj em]; decide
    | 2, _, em => rw [← Option.some.inj em]; decide
  | 4, _, ek =>
    have k : lnk T t s = 15 := (Option.some.inj ek).symm
    have a1 : ru2 T t tl s = rds T t (nxs T t s) := by unfold ru2; rw [if_neg (by rw [k]; decide), if_neg (by rw [k]; decide), if_neg (by rw [k]; decide), if_neg (by rw [k]; decide), if_pos k, e1]
    have a2 : ruv T t tl s = rdv T t (nxs T t s) := by unfold ruv; rw [if_neg (by rw [k]; decide), if_neg (by rw [k]; decide), if_neg (by rw [k]; decide), if_neg (by rw [k]; decide), if_pos k, e1]
    rw [a1, a2, qt4, qv4]
    obtain ⟨g1, g2⟩ := rl_doc (T := T) (t := t) z4 z
    exact ⟨⟨_, g1, rds_d⟩, fun y => (g2 y).1⟩
  | 5, _, ek =>
    have k : lnk T t s = 16 := (Option.some.inj ek).symm
    have a1 : ru2 T t tl s = oos T t 22 23 24 (nxs T t s) := by unfold ru2; rw [if_neg (by rw [k]; decide), if_neg (by rw [k]; decide), if_neg (by rw [k]; decide), if_neg (by rw [k]; decide), if_neg (by rw [k]; decide), if_pos k, e1]
    have a2 : ruv T t tl s = (if nmk T t (nxs T t s) = 22 then 1 else if nmk T t (nxs T t s) = 23 then 0 else -4) := by unfold ruv; rw [if_neg (by rw [k]; decide), if_neg (by rw [k]; decide), if_neg (by rw [k]; decide), if_neg (by rw [k]; decide), if_neg (by rw [k]; decide), if_pos k, e1]
    have ec : ∀ r : Rst, ooc T t 22 23 24 r = ooc T t 23 22 24 r := fun r => by
      unfold ooc
      congr 1
      by_cases q : nmk T t r = 22 ∨ nmk T t r = 23 ∨ nmk T t r = 24
      · rw [if_pos q, if_pos (or_sw q)]
      · rw [if_neg q, if_neg (fun y => q (or_sw y))]
    rw [a1, a2, qt5, qv5]
    obtain ⟨g1, g2⟩ := rl_one (j := 4) (x := 23) (y := 22) (z := 24) z4 z (am4 T t) frq4
    refine ⟨⟨_, g1, by rw [oos_d, ec]⟩, fun y => ?_⟩
    obtain ⟨⟨m, hm, ev, em⟩, -⟩ := g2 y
    rw [ev]
    match m, hm, em with
    | 0, _, em => rw [← Option.some.inj em]; decide
    | 1, _, em => rw [← Option.some.inj em]; decide
    | 2, _, em => rw [← Option.some.inj em]; decide
  | 6, _, ek =>
    have k : lnk T t s = 17 := (Option.some.inj ek).symm
    have a1 : ru2 T t tl s = oos T t 20 18 21 (nxs T t s) := by unfold ru2; rw [if_neg (by rw [k]; decide), if_neg (by rw [k]; decide), if_neg (by rw [k]; decide), if_neg (by rw [k]; decide), if_neg (by rw [k]; decide), if_neg (by rw [k]; decide), e1]
    have a2 : ruv T t tl s = (if nmk T t (nxs T t s) = 20 then 0 else if nmk T t (nxs T t s) = 18 then 1 else 2) := by unfold ruv; rw [if_neg (by rw [k]; decide), if_neg (by rw [k]; decide), if_neg (by rw [k]; decide), if_neg (by rw [k]; decide), if_neg (by rw [k]; decide), if_neg (by rw [k]; decide), e1]
    rw [a1, a2, qt6, qv6]
    obtain ⟨g1, g2⟩ := rl_one (j := 5) (x := 20) (y := 18) (z := 21) z4 z (am5 T t) frq5
    refine ⟨⟨_, g1, oos_d⟩, fun y => ?_⟩
    obtain ⟨⟨m, hm, ev, em⟩, -⟩ := g2 y
    rw [ev]
    match m, hm, em with
    | 0, _, em => rw [← Option.some.inj em]; decide
    | 1, _, em => rw [← Option.some.inj em]; decide
    | 2, _, em => rw [← Option.some.inj em]; decide
/-- the class's draft of a rule -/
def CUq (M : Mm) (r : Nat) (ρ : QSt) (u : Int32) : Prop := (∀ i, i < 7 → gi M r i = ρ.2.2 i) ∧ ∀ i, i < 7 → (bt u i = true ↔ ¬ ρ.2.1 i = 0)
theorem eRr_readInto {r : Nat} {x0 v0 p0 : Int32} {K : Int32 → Mm → Prop} (hk : r % 64 = 3) (g0 : gr M 324 0 = some 199) (tc : TC M T t)
    (h1 : ∀ N, PX r M N → RN N r → ¬ (qpS T t 401 (qS0 T t x0 v0 p0) 0).1.1.2.2.2.2.1 = 0 → gi N 199 5 = (qpS T t 401 (qS0 T t x0 v0 p0) 0).1.1.2.2.2.2.1 → gi N 199 6 = (qpS T t 401 (qS0 T t x0 v0 p0) 0).1.1.2.2.2.2.2 → K (-1) N)
    (h3 : ∀ N, PX r M N → RN N r → (qpS T t 401 (qS0 T t x0 v0 p0) 0).1.1.2.2.2.2.1 = 0 → gi N 199 5 = 0 → (∀ i, i < 7 → gi N r i = (qpS T t 401 (qS0 T t x0 v0 p0) 0).1.2.2 i) → (qpS T t 401 (qS0 T t x0 v0 p0) 0).2 ≤ 400 → K (nI (qpS T t 401 (qS0 T t x0 v0 p0) 0).2) N) : CI mRr_readInto [.ref 324, .ref r] M K := by
  have ht := tc.2.2.2.1
  have x1 : r ≠ 199 := by omega
  have x2 : r ≠ 70 := by omega
  have x3 : r ≠ 145 := by omega
  have pA : PX r M (si (si (si (si (si (si (si M r 0 31) r 1 2) r 2 0) r 3 0) r 4 (-4)) r 5 (-4)) r 6 1) := px_tr px_si (px_tr px_si (px_tr px_si (px_tr px_si (px_tr px_si (px_tr px_si px_si)))))
  have vA : ∀ i, i < 7 → gi (si (si (si (si (si (si (si M r 0 31) r 1 2) r 2 0) r 3 0) r 4 (-4)) r 5 (-4)) r 6 1) r i = dv i := by
    intro i hi
    simp only [gxs]
    match i, hi with
    | 0, _ => rfl
    | 1, _ => rfl
    | 2, _ => rfl
    | 3, _ => rfl
    | 4, _ => rfl
    | 5, _ => rfl
    | 6, _ => rfl
  refine call_of rfl (Nat.le_of_ble_eq_true rfl) rfl (vRr_readInto_0 hk (call_of rfl (Nat.le_of_ble_eq_true rfl) rfl (vRu_clear_0 hk (vRr_readInto_4 rfl g0 ?_))))
  generalize si (si (si (si (si (si (si M r 0 31) r 1 2) r 2 0) r 3 0) r 4 (-4)) r 5 (-4)) r 6 1 = A at pA vA ⊢
  have tA : TC A T t := tc_gi pA.1 (pA.2.2 70 (by decide) (Ne.symm x2)) (pA.2.2 145 (by decide) (Ne.symm x3)) tc
  refine nTo_begin tA rfl (fun B pB tB => vRr_readInto_11 rfl (by rw [pB.1, pA.1]; exact g0) (nTo_advance tB (fun C pC tC => ?_)))
  have pMC : PX r M C := px_tr pA (px_pt (pt_tr pB pC))
  have vC : ∀ i, i < 7 → gi C r i = dv i := fun i hi => by rw [pC.2.2 r x1, pB.2.2 r x1]; exact vA i hi
  have rC : RN C r := by unfold RN; rw [vC 2 (by decide)]; exact Or.inl rfl
  have rp : ∀ {N O : Mm}, PT N O → RN N r → RN O r := fun p a => by unfold RN; rw [p.2.2 r x1]; exact a
  have cC : CUq C r (qS0 T t x0 v0 p0) 0 := ⟨vC, fun i hi => by rw [b_0]; exact ⟨fun z => absurd z (by decide), fun z => absurd rfl z⟩⟩
  have rlC : RL (adv T t (0, 0, 0, gi A 199 4, 0, 0)) (qS0 T t x0 v0 p0).1 := rl_adv0 tc rfl rfl rfl
  have pos0 : (qS0 T t x0 v0 p0).1.2.2.2.2.1 = 0 → ¬ (qS0 T t x0 v0 p0).1.2.2.1 = 0 → 0 < (qS0 T t x0 v0 p0).1.2.1 := fun f n => by
    have := (go_nxs (T := T) (t := t) (s := (0, 0, x0, v0, 0, p0))).2 f
    exact this.2 n
  generalize qS0 T t x0 v0 p0 = ρ0 at h1 h3 cC rlC pos0
  generalize eF : qpS T t 401 ρ0 0 = F at h1 h3
  have bout : ∀ N s u ρ v, PX r M N → TD N T t s → RN N r → RL s ρ.1 → (s.2.2.2.2.1 = 0 → CUq N r ρ u) → v ≤ 400 → (ρ, v) = F → K (if gi N 199 5 = 0 then nI v else (-1)) N := by
    intro N s u ρ v pN tN rN rl lk hv e
    subst e
    have n5 := tN.2.2.2.2.2.1
    have n6 := tN.2.2.2.2.2.2.1
    by_cases z : s.2.2.2.2.1 = 0
    · have zr : ρ.1.2.2.2.2.1 = 0 := rl.1.symm.trans z
      rw [n5, if_pos z]
      exact h3 N pN rN zr (n5.trans z) (lk z).1 hv
    · have zr : ¬ ρ.1.2.2.2.2.1 = 0 := fun y => z (rl.1.trans y)
      rw [n5, if_neg z]
      exact h1 N pN rN zr (n5.trans rl.1) (n6.trans (rl.2.1 z))
  have key : ∀ n v N s u ρ, v + n = 400 → PX r M N → TD N T t s → RN N r → RL s ρ.1 → (s.2.2.2.2.1 = 0 → CUq N r ρ u) → (ρ.1.2.2.2.2.1 = 0 → ¬ ρ.1.2.2.1 = 0 → v < ρ.1.2.1) → qpS T t (n + 1) ρ v = F → X mRr_readInto 22 [(0, .ref 324), (1, .ref r), (2, .int u), (3, .int (nI v))] [] N (mC mRr_readInto, mS mRr_readInto) (QI K) := by
    intro n
    induction n with
    | zero =>
      intro v N s u ρ hv pN tN rN rl lk pos e
      have gN : gr N 324 0 = some 199 := by rw [pN.1]; exact g0
      have ev : v = 400 := by omega
      have l : (400 : Int32) ≤ nI v := by rw [ev]; exact Int32.le_refl _
      have ex : ¬ ρ.1.2.2.2.2.1 = 0 ∨ ρ.1.2.2.1 = 0 := by
        by_cases f : ρ.1.2.2.2.2.1 = 0
        · right
          by_cases q : ρ.1.2.2.1 = 0
          · exact q
          · exfalso
            have p := pos f q
            have fs : s.2.2.2.2.1 = 0 := rl.1.trans f
            have b2 := tN.2.2.2.2.2.2.2.2
            rw [(rl.2.2 fs).2.1] at b2
            omega
        · exact Or.inl f
      exact vRr_readInto_22 rfl gN ⟨fun _ => bout N s u ρ v pN tN rN rl lk (by omega) ((qpS_stop T t ex).symm.trans e), fun q => absurd l q.1, fun q => absurd l q.1⟩
    | succ n ih =>
      intro v N s u ρ hv pN tN rN rl lk pos e
      have gN : gr N 324 0 = some 199 := by rw [pN.1]; exact g0
      have n5 := tN.2.2.2.2.2.1
      have n1 := tN.2.1
      have stop : (¬ ρ.1.2.2.2.2.1 = 0 ∨ ρ.1.2.2.1 = 0) → (ρ, v) = F := fun ex => (qpS_stop T t ex).symm.trans e
      have b74 : s.2.2.2.2.1 = 0 → ¬ ρ.1.2.2.1 = 0 → X mRr_readInto 74 [(0, .ref 324), (1, .ref r), (2, .int u), (3, .int (nI v))] [.int (if s.1 = 2 then amo T t 2 s else -1)] N (mC mRr_readInto, mS mRr_readInto) (QI K) := by
        intro z ns
        have zr : ρ.1.2.2.2.2.1 = 0 := rl.1.symm.trans z
        have cl := lk z
        have b2 := tN.2.2.2.2.2.2.2.2
        have hs4 : ρ.1.2.1 ≤ 400 := by rw [← (rl.2.2 z).2.1]; exact b2
        have e' : qpS T t (n + 1) (qlS T t ρ) (v + 1) = F := (qpS_go T t (fun y => y.elim (fun y => y zr) ns)).symm.trans e
        have b128 : ∀ O x u', PX r M O → TD O T t x → RN O r → RL (tkC T t x) (qlS T t ρ).1 → ((qlS T t ρ).1.2.2.2.2.1 = 0 → CUq O r (qlS T t ρ) u') → X mRr_readInto 128 [(0, .ref 324), (1, .ref r), (2, .int u'), (3, .int (nI v))] [] O (mC mRr_readInto, mS mRr_readInto) (QI K) := by
          intro O x u' pO tO rO rl' clO
          refine vRr_readInto_128 rfl (by rw [pO.1]; exact g0) (nTo_closeLine tO (fun P pP tP => vRr_readInto_135 ?_))
          rw [nI_s]
          refine ih (v + 1) P _ u' (qlS T t ρ) (by omega) (px_tr pO (px_pt pP)) tP (rp pP rO) rl' (fun y => ?_) (fun y1 y2 => ?_) e'
          · obtain ⟨c1, c2⟩ := clO (rl'.1.symm.trans y)
            exact ⟨fun i hi => by rw [pP.2.2 r x1]; exact c1 i hi, c2⟩
          · have g := ql_go y1
            have := pos zr ns
            omega
        have tf : ∀ {x : Tst}, ¬ x.2.2.2.2.1 = 0 → tkC T t x = x := fun hx => by unfold tkC; rw [if_neg hx]
        rcases lr_rel (T := T) (t := t) hs4 rl z with ⟨ek, er⟩ | ⟨i, hi, ek, er, ec⟩
        · rw [ek]
          have rf := rl_fail (k := 2) rl z (by decide)
          have fx : ¬ (tfl 2 s).2.2.2.2.1 = 0 := tfl_ne (by decide)
          refine vRr_readInto_74 rfl gN ⟨fun q => absurd q (by decide), fun _ => nTo_fail tN (fun O pO tO => vRr_readInto_89 (b128 O _ u (px_tr pN (px_pt pO)) tO (rp pO rN) ?_ (fun y => absurd er (ql_row y).1)))⟩
          rw [tf fx, ql_1a er]; exact rf
        · rw [ek]
          have nr : ¬ row (lnk T t ρ.1) = -4 := by rw [er]; exact nI4 (by omega)
          have ci : (row (lnk T t ρ.1)).toNatClampNeg = i := by rw [er]; exact ncl (by omega)
          have p0 : (0 : Int32) ≤ nI i := nI_pos' (by omega)
          refine vRr_readInto_74 rfl gN ⟨fun _ => sC_holds (vRr_readInto_99 rfl gN ⟨fun q => ?_, fun q => ?_⟩), fun q => absurd p0 q⟩
          · have nb : ¬ bt u i = true := fun y => by
              rw [if_pos ((bitu _ (by omega)).mpr y)] at q
              exact absurd q (by decide)
            have t0 : ρ.2.1 i = 0 := by
              by_cases y : ρ.2.1 i = 0
              · exact y
              · exact absurd ((cl.2 i hi).mpr y) nb
            obtain ⟨nx, nv⟩ := rl_tell (tl := ρ.2.1) tc ht hs4 hi rl z er ec t0
            refine eRr_tell hk hi gN tN (fun O pO tO gO => b128 O _ _ (px_tr pN pO) tO ?_ ?_ (fun y => ?_))
            · unfold RN
              rw [gO 2]
              by_cases q2 : 2 = i
              · rw [if_pos q2, ← q2, qv2]; exact Or.inr rfl
              · rw [if_neg q2]; exact rN
            · rw [ql_1 nr]
              obtain ⟨y, g1, g2⟩ := nx
              unfold ru3
              rw [g2]
              exact rl_close tc g1
            · obtain ⟨-, y3⟩ := ql_row y
              have yx : (qtS T t i s).2.2.2.2.1 = 0 := by
                by_cases yy : (qtS T t i s).2.2.2.2.1 = 0
                · exact yy
                · exfalso
                  unfold ru3 at y3
                  exact (nxt_f nx yy).2 (eln_ok y3).2
              rw [ql_1c nr y3, ci]
              have ev := nv yx
              generalize ru3 T t ρ.2.1 ρ.1 = s3
              unfold CUq
              dsimp only
              refine ⟨fun j hj => ?_, fun j hj => ?_⟩
              · rw [gO j]
                unfold up1
                by_cases q2 : j = i
                · rw [if_pos q2, if_pos q2]; exact ev
                · rw [if_neg q2, if_neg q2]; exact cl.1 j hj
              · rw [b_or, b_one i (by omega) j (by omega), Bool.or_eq_true, decide_eq_true_eq]
                unfold up1
                by_cases q2 : j = i
                · rw [if_pos q2]
                  exact ⟨fun _ => by decide, fun _ => Or.inr q2⟩
                · rw [if_neg q2]
                  exact ⟨fun y => (cl.2 j hj).mp (y.resolve_right q2), fun y => Or.inl ((cl.2 j hj).mpr y)⟩
          · have bb : bt u i = true := by
              by_cases y : bt u i = true
              · exact y
              · rw [if_neg (fun x => y ((bitu _ (by omega)).mp x))] at q
                exact absurd rfl q
            have t1 : ¬ ρ.2.1 i = 0 := (cl.2 i hi).mp bb
            have rf := rl_fail (k := 4) rl z (by decide)
            have fx : ¬ (tfl 4 s).2.2.2.2.1 = 0 := tfl_ne (by decide)
            have fy : ¬ (wts 0 4 ρ.1).2.2.2.2.1 = 0 := wts02 (by decide)
            have e1 : ru1 T t ρ.2.1 ρ.1 = wts 0 4 ρ.1 := by
              unfold ru1
              rw [ci, if_neg t1, if_neg nr, wts_t (g := 1) (by decide), nxs_f fy]
            have e3 : ru3 T t ρ.2.1 ρ.1 = wts 0 4 ρ.1 := by
              have e2 : ru2 T t ρ.2.1 ρ.1 = wts 0 4 ρ.1 := by rw [ru2_f (by rw [e1]; exact fy), e1]
              unfold ru3
              rw [e2, eln_f fy]
            refine nTo_fail tN (fun O pO tO => vRr_readInto_110 (b128 O _ u (px_tr pN (px_pt pO)) tO (rp pO rN) ?_ (fun y => ?_)))
            · rw [tf fx, ql_1 nr, e3]; exact rf
            · exfalso
              have := (ql_row y).2
              rw [e3] at this
              exact fy this
      have kend : s.2.2.2.2.1 = 0 → (s.1 = 1 ↔ ρ.1.2.2.1 = 0) := fun f => ks1 (rl.2.2 f).2.2.1
      have nv : ¬ (400 : Int32) ≤ nI v := by rw [show (400 : Int32) = nI 400 from rfl, nle (by omega) (by decide)]; omega
      refine vRr_readInto_22 rfl gN ⟨fun q => ?_, fun q => ?_, fun q => sTo_among (j := 2) tN (by decide) (vRr_readInto_70 ?_)⟩
      · refine bout N s u ρ v pN tN rN rl lk (by omega) (stop ?_)
        rw [n5, n1] at q
        rcases q with q | q | q
        · exact absurd q nv
        · exact Or.inl (fun y => q.2 (rl.1.trans y))
        · exact Or.inr ((kend q.2.1).mp q.2.2)
      · rw [n5, n1] at q
        have := b74 q.2.1 (fun y => q.2.2.1 ((kend q.2.1).mpr y))
        rw [if_neg q.2.2.2] at this
        exact this
      · rw [n5, n1] at q
        have := b74 q.2.1 (fun y => q.2.2.1 ((kend q.2.1).mpr y))
        rw [if_pos q.2.2.2] at this
        exact this
  exact key 400 0 C _ 0 ρ0 (by omega) pMC tC rC rlC (fun _ => cC) pos0 eF
end EQC
end MG52
section MG53
/-! ===== told rows: what may stand in them ===== -/
/-- a row: a law has no doctor and a day; another word has a doctor; marks are marks; an answer is one -/
def RT (g : Nat → Int32) : Prop := (g 0 = 5 → g 1 = -4 ∧ ∃ n, n < 1000 ∧ g 7 = nI n) ∧ (¬ g 0 = 5 → ∃ d, d < 8 ∧ g 1 = nI d) ∧ (∃ m, m < 64 ∧ g 3 = nI m) ∧ (∃ m, m < 64 ∧ g 4 = nI m) ∧ ((g 0 = 0 ∨ g 0 = 5) → (g 5 = 0 ∨ g 5 = 1)) ∧ (¬ (g 0 = 0 ∨ g 0 = 5) → g 4 = 0)
def okT (σ : LSt) : Prop := ∀ w, w < σ.2.1 → RT (σ.2.2.1 w)
section EQJ
variable {T : Nat → Int32} {t : Nat} {k : Int32} {r : Rst}
theorem mks_r {no : Int32} (h : (mks T t no r).2.2.2.2.1 = 0) : (∃ m, m < 64 ∧ mkv T t r = nI m) ∧ r.2.2.2.2.1 = 0 := by
  unfold mks at h
  obtain ⟨-, b, -⟩ := wts_ok (by decide) (nxs_ok h)
  obtain ⟨c, d, -⟩ := wts_ok (by decide) b
  unfold mk1 at d
  obtain ⟨-, e, -⟩ := wts_ok (by decide) d
  refine ⟨?_, e⟩
  have n4 : ¬ mkv T t r = -4 := fun z => by rw [if_pos z] at c; exact c rfl
  unfold mkv at n4 ⊢
  by_cases q : r.2.2.1 = 1
  · rw [if_pos q] at n4 ⊢
    rcases lt_eq (T := T) (t := t) (fi := 112) (ma := 6) (Or.inl rfl) (r.2.1 - r.1) r.1 0 (by decide) with ⟨-, z⟩ | ⟨c, hc, -, z⟩
    · exact absurd z n4
    · exact ⟨c, hc, z⟩
  · rw [if_neg q]; exact ⟨0, by decide, rfl⟩
theorem rw6_all (h : (rw6 T t k r).2.2.2.2.1 = 0) : (rw5 T t k r).2.2.2.2.1 = 0 ∧ (rw4 T t k r).2.2.2.2.1 = 0 ∧ (rw3 T t k r).2.2.2.2.1 = 0 ∧ (rw2 T t k r).2.2.2.2.1 = 0 := by
  have h5 : (rw5 T t k r).2.2.2.2.1 = 0 := by
    by_cases q : (rw5 T t k r).2.2.2.2.1 = 0
    · exact q
    · rw [rw6_f q] at h; exact h
  have h4 : (rw4 T t k r).2.2.2.2.1 = 0 := by
    by_cases q : (rw4 T t k r).2.2.2.2.1 = 0
    · exact q
    · rw [rw5_f q] at h5; exact h5
  have h3 : (rw3 T t k r).2.2.2.2.1 = 0 := by
    by_cases q : (rw3 T t k r).2.2.2.2.1 = 0
    · exact q
    · rw [rw4_f q] at h4; exact h4
  have h2 : (rw2 T t k r).2.2.2.2.1 = 0 := by
    by_cases q : (rw2 T t k r).2.2.2.2.1 = 0
    · exact q
    · rw [rw3_f q] at h3; exact h3
  exact ⟨h5, h4, h3, h2⟩
theorem rwr_ok {b : Int32} (h : (rw6 T t k r).2.2.2.2.1 = 0) : RT (rwr T t k r b) := by
  obtain ⟨h5, h4, h3, h2⟩ := rw6_all h
  have e0 : rwr T t k r b 0 = k := rfl
  have e1 : rwr T t k r b 1 = ra2 T t k r := rfl
  have e3 : rwr T t k r b 3 = ra3 T t k r := rfl
  have e4 : rwr T t k r b 4 = ra4 T t k r := rfl
  have e5 : rwr T t k r b 5 = ra5 T t k r := rfl
  have e7 : rwr T t k r b 7 = ra1 k r := rfl
  unfold RT
  rw [e0, e1, e3, e4, e5, e7]
  refine ⟨fun q => ⟨?_, ?_⟩, fun q => ?_, ?_, ?_, fun q => ?_, fun q => ?_⟩
  · unfold ra2; rw [if_pos q]
  · unfold rw2 rw1 at h2
    rw [if_pos q, if_pos q] at h2
    obtain ⟨y1, y2, -⟩ := isn_ok (nxs_ok h2)
    obtain ⟨i, hi, e⟩ := rngL (c := 999) (n := 999) rfl (by decide) y1 y2
    unfold ra1
    rw [if_pos q]
    exact ⟨i, hi, e⟩
  · unfold rw2 at h2
    rw [if_neg q] at h2
    obtain ⟨-, x, y, -⟩ := rds_ok h2
    obtain ⟨j, hj, e⟩ := rngL (c := 7) (n := 7) rfl (by decide) x y
    unfold ra2
    rw [if_neg q]
    exact ⟨j, hj, e⟩
  · unfold ra3
    by_cases q : kWLL k
    · rw [if_pos q]
      unfold rw3 at h3
      rw [if_pos q] at h3
      exact (mks_r h3).1
    · rw [if_neg q]; exact ⟨0, by decide, rfl⟩
  · unfold ra4
    by_cases q : kWL k
    · rw [if_pos q]
      unfold rw4 at h4
      rw [if_pos q] at h4
      exact (mks_r h4).1
    · rw [if_neg q]; exact ⟨0, by decide, rfl⟩
  · unfold ra5
    rw [if_pos q]
    by_cases z : nmk T t (rw4 T t k r) = 22
    · rw [if_pos z]; exact Or.inr rfl
    · rw [if_neg z]; exact Or.inl rfl
  · unfold ra4; rw [if_neg q]
theorem lnS_okT {σ : LSt} (ok : okT σ) (f : (lnS T t σ).1.2.2.2.2.1 = 0) : okT (lnS T t σ) := by
  rw [lnS_1] at f
  have f4 := f
  have f3 : (ln3 T t σ.2.1 σ.2.2.2.2.1 σ.1).2.2.2.2.1 = 0 := by unfold ln4 at f4; exact (eln_ok f4).2
  unfold lnS
  rw [if_neg (fun z => z f4)]
  generalize ln4 T t σ.2.1 σ.2.2.2.2.1 σ.1 = s4
  by_cases k10 : lnk T t σ.1 = 10
  · rw [if_pos k10]; unfold okT; dsimp only; exact ok
  · rw [if_neg k10]
    by_cases k11 : lnk T t σ.1 = 11
    · rw [if_pos k11]; unfold okT; dsimp only; exact ok
    · rw [if_neg k11]
      unfold ln3 at f3
      rw [if_neg k10, if_neg k11] at f3
      unfold okT
      dsimp only
      intro w hw
      unfold upr
      by_cases e : w = σ.2.1
      · rw [if_pos e]; exact rwr_ok f3
      · rw [if_neg e]; exact ok w (by omega)
theorem lpS_z {σ : LSt} {l : Nat} : lpS T t 0 σ l = (σ, l) := rfl
theorem lpS_fz {σ : LSt} {l : Nat} (z : ¬ σ.1.2.2.2.2.1 = 0) (n : Nat) : lpS T t n σ l = (σ, l) := by
  cases n with
  | zero => exact lpS_z
  | succ n => exact lpS_stop T t (Or.inl z)
theorem lpS_okT (n : Nat) : ∀ (σ : LSt) l, okT σ → (lpS T t n σ l).1.1.2.2.2.2.1 = 0 → okT (lpS T t n σ l).1 := by
  induction n with
  | zero =>
    intro σ l ok _
    rw [lpS_z]; exact ok
  | succ n ih =>
    intro σ l ok f
    by_cases h : ¬ σ.1.2.2.2.2.1 = 0 ∨ σ.1.2.2.1 = 0
    · rw [lpS_stop T t h]; exact ok
    · rw [lpS_go T t h] at f ⊢
      have key := fun z => lnS_okT (T := T) (t := t) ok z
      generalize lnS T t σ = σ' at f key ⊢
      by_cases z : σ'.1.2.2.2.2.1 = 0
      · exact ih σ' (l + 1) (key z) f
      · exfalso
        rw [lpS_fz z n] at f
        exact z f
theorem okT0 {x v p : Int32} : okT (lS0 T t x v p) := fun w hw => absurd (show w < 0 from hw) (by omega)
end EQJ
end MG53
section MG54
/-! ===== told rows: marks with and without are apart ===== -/
def okD (σ : LSt) : Prop := ∀ w, w < σ.2.1 → (σ.2.2.1 w 3 &&& σ.2.2.1 w 4) = 0
section ES0
variable {T : Nat → Int32} {t : Nat} {k : Int32} {r : Rst}
theorem mks_dj {no : Int32} (h : (mks T t no r).2.2.2.2.1 = 0) : (mkv T t r &&& no) = 0 := by
  unfold mks at h
  obtain ⟨a, -, -⟩ := wts_ok (by decide) (nxs_ok h)
  by_cases q : (mkv T t r &&& no) = 0
  · exact q
  · rw [if_neg q] at a; exact absurd rfl a
theorem rwr_d {b : Int32} (h : (rw6 T t k r).2.2.2.2.1 = 0) : (rwr T t k r b 3 &&& rwr T t k r b 4) = 0 := by
  obtain ⟨h5, h4, h3, h2⟩ := rw6_all h
  have e3 : rwr T t k r b 3 = ra3 T t k r := rfl
  have e4 : rwr T t k r b 4 = ra4 T t k r := rfl
  rw [e3, e4]
  by_cases q : kWL k
  · have e : ra4 T t k r = mkv T t (rw3 T t k r) := by unfold ra4; rw [if_pos q]
    unfold rw4 at h4
    rw [if_pos q] at h4
    have := mks_dj h4
    rw [e, Int32.and_comm]; exact this
  · have e : ra4 T t k r = 0 := by unfold ra4; rw [if_neg q]
    rw [e, Int32.and_zero]
theorem lnS_okD {σ : LSt} (ok : okD σ) (f : (lnS T t σ).1.2.2.2.2.1 = 0) : okD (lnS T t σ) := by
  rw [lnS_1] at f
  have f4 := f
  have f3 : (ln3 T t σ.2.1 σ.2.2.2.2.1 σ.1).2.2.2.2.1 = 0 := by unfold ln4 at f4; exact (eln_ok f4).2
  unfold lnS
  rw [if_neg (fun z => z f4)]
  generalize ln4 T t σ.2.1 σ.2.2.2.2.1 σ.1 = s4
  by_cases k10 : lnk T t σ.1 = 10
  · rw [if_pos k10]; unfold okD; dsimp only; exact ok
  · rw [if_neg k10]
    by_cases k11 : lnk T t σ.1 = 11
    · rw [if_pos k11]; unfold okD; dsimp only; exact ok
    · rw [if_neg k11]
      unfold ln3 at f3
      rw [if_neg k10, if_neg k11] at f3
      unfold okD
      dsimp only
      intro w hw
      unfold upr
      by_cases e : w = σ.2.1
      · rw [if_pos e]; exact rwr_d f3
      · rw [if_neg e]; exact ok w (by omega)
theorem lpS_okD (n : Nat) : ∀ (σ : LSt) l, okD σ → (lpS T t n σ l).1.1.2.2.2.2.1 = 0 → okD (lpS T t n σ l).1 := by
  induction n with
  | zero =>
    intro σ l ok _
    rw [lpS_z]; exact ok
  | succ n ih =>
    intro σ l ok f
    by_cases h : ¬ σ.1.2.2.2.2.1 = 0 ∨ σ.1.2.2.1 = 0
    · rw [lpS_stop T t h]; exact ok
    · rw [lpS_go T t h] at f ⊢
      have key := fun z => lnS_okD (T := T) (t := t) ok z
      generalize lnS T t σ = σ' at f key ⊢
      by_cases z : σ'.1.2.2.2.2.1 = 0
      · exact ih σ' (l + 1) (key z) f
      · exfalso
        rw [lpS_fz z n] at f
        exact z f
theorem okD0 {x v p : Int32} : okD (lS0 T t x v p) := fun w hw => absurd (show w < 0 from hw) (by omega)
end ES0
end MG54
section MG55
/-! ===== a rule's words: which of three ===== -/
def T3 (x : Int32) : Prop := x = 0 ∨ x = 1 ∨ x = 2
theorem t3_if (p q : Prop) [Decidable p] [Decidable q] : T3 (if p then 0 else if q then 1 else 2) := by
  by_cases a : p
  · rw [if_pos a]; exact Or.inl rfl
  · rw [if_neg a]
    by_cases b : q
    · rw [if_pos b]; exact Or.inr (Or.inl rfl)
    · rw [if_neg b]; exact Or.inr (Or.inr rfl)
/-- an answer, or none -/
def T5 (x : Int32) : Prop := x = 1 ∨ x = 0 ∨ x = -4
theorem t5_if (p q : Prop) [Decidable p] [Decidable q] : T5 (if p then 1 else if q then 0 else -4) := by
  by_cases a : p
  · rw [if_pos a]; exact Or.inl rfl
  · rw [if_neg a]
    by_cases b : q
    · rw [if_pos b]; exact Or.inr (Or.inl rfl)
    · rw [if_neg b]; exact Or.inr (Or.inr rfl)
/-- what becomes of two words, and which laws: one of three; silence: an answer, or none -/
def okQ (ρ : QSt) : Prop := T3 (ρ.2.2 3) ∧ T3 (ρ.2.2 6) ∧ T5 (ρ.2.2 5)
section ES2
variable {T : Nat → Int32} {t : Nat}
theorem up1_ne {f : Nat → Int32} {i k : Nat} {v : Int32} (h : k ≠ i) : up1 f i v k = f k := by unfold up1; rw [if_neg h]
theorem up1_at {f : Nat → Int32} {i : Nat} {v : Int32} : up1 f i v i = v := by unfold up1; rw [if_pos rfl]
theorem okQ_2 {ρ : QSt} {x : Rst} (h : okQ ρ) : okQ (x, ρ.2) := h
theorem okQ_3 {x : Rst} {y f : Nat → Int32} (h : T3 (f 3) ∧ T3 (f 6) ∧ T5 (f 5)) : okQ (x, y, f) := h
theorem ruv_5 {tl : Nat → Int32} {s : Rst} (k : lnk T t s = 16) : T5 (ruv T t tl s) := by
  unfold ruv
  generalize ru1 T t tl s = x
  rw [k, if_neg (by decide), if_neg (by decide), if_neg (by decide), if_neg (by decide), if_neg (by decide), if_pos rfl]
  exact t5_if _ _
theorem ruv_3 {tl : Nat → Int32} {s : Rst} (k : lnk T t s = 14 ∨ lnk T t s = 17) : T3 (ruv T t tl s) := by
  unfold ruv
  generalize ru1 T t tl s = x
  rcases k with k | k
  · rw [k, if_neg (by decide), if_neg (by decide), if_neg (by decide), if_pos rfl]
    exact t3_if _ _
  · rw [k, if_neg (by decide), if_neg (by decide), if_neg (by decide), if_neg (by decide), if_neg (by decide), if_neg (by decide)]
    exact t3_if _ _
theorem qlS_ok {ρ : QSt} (h : okQ ρ) : okQ (qlS T t ρ) := by
  by_cases a : row (lnk T t ρ.1) = -4
  · rw [ql_1a a]; exact okQ_2 h
  · by_cases b : (ru3 T t ρ.2.1 ρ.1).2.2.2.2.1 = 0
    · rw [ql_1c a b]
      have v3 : (lnk T t ρ.1 = 14 ∨ lnk T t ρ.1 = 17) → T3 (ruv T t ρ.2.1 ρ.1) := ruv_3
      have v5 : lnk T t ρ.1 = 16 → T5 (ruv T t ρ.2.1 ρ.1) := ruv_5
      generalize ruv T t ρ.2.1 ρ.1 = v at v3 v5
      generalize ru3 T t ρ.2.1 ρ.1 = x
      have rc := row_c (lnk T t ρ.1)
      generalize lnk T t ρ.1 = k at a v3 v5 rc
      refine okQ_3 ?_
      have n : ∀ i, i ≠ 3 → i ≠ 6 → i ≠ 5 → T3 (up1 ρ.2.2 i v 3) ∧ T3 (up1 ρ.2.2 i v 6) ∧ T5 (up1 ρ.2.2 i v 5) := fun i h3 h6 h5 => by rw [up1_ne (Ne.symm h3), up1_ne (Ne.symm h6), up1_ne (Ne.symm h5)]; exact h
      rcases rc with e | ⟨k, e⟩ | ⟨k, e⟩ | ⟨k, e⟩ | ⟨k, e⟩ | ⟨k, e⟩ | ⟨k, e⟩ | ⟨k, e⟩
      · exact absurd e a
      · rw [e, ncl (by decide)]; exact n 0 (by decide) (by decide) (by decide)
      · rw [e, ncl (by decide)]; exact n 1 (by decide) (by decide) (by decide)
      · rw [e, ncl (by decide)]; exact n 2 (by decide) (by decide) (by decide)
      · rw [e, ncl (by decide), up1_at, up1_ne (by decide), up1_ne (by decide)]
        exact ⟨v3 (Or.inl k), h.2.1, h.2.2⟩
      · rw [e, ncl (by decide)]; exact n 4 (by decide) (by decide) (by decide)
      · rw [e, ncl (by decide), up1_at, up1_ne (by decide), up1_ne (by decide)]
        exact ⟨h.1, h.2.1, v5 k⟩
      · rw [e, ncl (by decide), up1_at, up1_ne (by decide), up1_ne (by decide)]
        exact ⟨h.1, v3 (Or.inr k), h.2.2⟩
    · rw [ql_1b a b]; exact okQ_2 h
theorem qpS_ok (n : Nat) : ∀ (ρ : QSt) l, okQ ρ → okQ (qpS T t n ρ l).1 := by
  induction n with
  | zero =>
    intro ρ l h
    have e : qpS T t 0 ρ l = (ρ, l) := rfl
    rw [e]; exact h
  | succ n ih =>
    intro ρ l h
    by_cases c : ¬ ρ.1.2.2.2.2.1 = 0 ∨ ρ.1.2.2.1 = 0
    · rw [qpS_stop T t c]; exact h
    · rw [qpS_go T t c]
      have k := qlS_ok (T := T) (t := t) h
      generalize qlS T t ρ = ρ' at k ⊢
      exact ih ρ' _ k
theorem okQ0 {x v p : Int32} : okQ (qS0 T t x v p) := by
  unfold qS0
  exact okQ_3 ⟨Or.inl rfl, Or.inr (Or.inl rfl), Or.inr (Or.inr rfl)⟩
end ES2
/-- both rules of the reference -/
def RV (M : Mm) : Prop := (T3 (gi M 6543 3) ∧ T3 (gi M 6543 6) ∧ T5 (gi M 6543 5)) ∧ T3 (gi M 6607 3) ∧ T3 (gi M 6607 6) ∧ T5 (gi M 6607 5)
theorem rv_eq {M N : Mm} (h1 : gi N 6543 = gi M 6543) (h2 : gi N 6607 = gi M 6607) (r : RV M) : RV N := by unfold RV; rw [h1, h2]; exact r
end MG55
section MG56
/-! ===== a library of any words is settled: nothing but its own rows changes ===== -/
def ST (r : Nat) (M N : Mm) : Prop := gr N = gr M ∧ gl N = gl M ∧ gi N r 1 = gi M r 1 ∧ (∀ w, w < 24 → ∀ i, i < 9 → gi N (r + 776 + 64 * w) i = gi M (r + 776 + 64 * w) i) ∧ (∀ a, ¬ (r ≤ a ∧ a < r + 2304) → gi N a = gi M a) ∧ gi N (r + 140) = gi M (r + 140)
theorem st_tr {r : Nat} {M N O : Mm} (f : ST r M N) (g : ST r N O) : ST r M O := ⟨g.1.trans f.1, g.2.1.trans f.2.1, g.2.2.1.trans f.2.2.1, fun w hw i hi => (g.2.2.2.1 w hw i hi).trans (f.2.2.2.1 w hw i hi), fun a h => (g.2.2.2.2.1 a h).trans (f.2.2.2.2.1 a h), g.2.2.2.2.2.trans f.2.2.2.2.2⟩
/-- a row of the library's own -/
def ox (r x j : Nat) : Prop := (r ≤ x ∧ x < r + 2304) ∧ ¬ (x = r ∧ j = 1) ∧ x ≠ r + 140 ∧ (x < r + 776 ∨ 9 ≤ j)
theorem st_si {r x j : Nat} {M : Mm} {v : Int32} (h : ox r x j) : ST r M (si M x j v) := by
  obtain ⟨h1, h2, h3, h4⟩ := h
  refine ⟨rfl, rfl, ?_, fun w hw i hi => ?_, fun a ha => gi_ne (fun e => ha (by omega)), gi_ne (Ne.symm h3)⟩
  · rw [gi_si, if_neg (fun e => h2 (by omega))]
  · rw [gi_si, if_neg (fun e => by omega)]
theorem st_fl {r x n : Nat} {M : Mm} {v : Int32} (h : r < x ∧ x < r + 776) (h2 : x ≠ r + 140) : ST r M (fl M x n v) := by
  refine ⟨rfl, rfl, ?_, fun w hw i hi => ?_, fun a ha => ?_, ?_⟩
  · rw [flR _ _ _ _ _ _ (by omega)]
  · rw [flR _ _ _ _ _ _ (by omega)]
  · funext k; rw [flR _ _ _ _ _ _ (by omega)]
  · funext k; rw [flR _ _ _ _ _ _ (Ne.symm h2)]
theorem ld_st {r D : Nat} {M N : Mm} (f : ST r M N) (l : LD M r D) : LD N r D := by
  obtain ⟨k1, k2, k3, k4⟩ := l
  refine ⟨lr_gr k1 f.1, f.2.2.1.trans k2, k3, fun w hw => ?_⟩
  have e : ∀ i, i < 9 → gi N (r + 776 + 64 * w) i = gi M (r + 776 + 64 * w) i := f.2.2.2.1 w (by omega)
  unfold WK
  rw [e 1 (by decide), e 2 (by decide), e 3 (by decide), e 6 (by decide)]
  exact k4 w hw
section CS1
variable {M : Mm} {r D : Nat}
theorem ld_le (l : LD M r D) {i : Nat} (hi : i < D) : ¬ gi M r 1 ≤ nI i := by have := l.2.2.1; rw [l.2.1]; exact nge rfl (by omega) hi
theorem ld_se (l : LD M r D) : gi M r 1 ≤ nI D := by rw [l.2.1]; exact Int32.le_refl _
theorem ld_gw (l : LD M r D) {i : Nat} (hi : i < 24) : gr M (r + 81) (nI i).toNatClampNeg = some (r + 776 + 64 * i) := by rw [ncl (by omega)]; exact l.1.2.2 i hi
theorem ld_v (l : LD M r D) {i : Nat} (hi : i < D) : vp_in (nI i) 24 := by have := l.2.2.1; exact vin (by omega) (by decide)
theorem wkk (l : LD M r D) (w : Nat) : (r + 776 + 64 * w) % 64 = 9 := by have := l.1.1; omega
def sav (M : Mm) (r : Nat) (w : Int32) (c : Nat) : Int32 := if ((ushr (gi M (r + 205) c) w) &&& 1) = 1 then 1 else if ((ushr (gi M (r + 269) c) w) &&& 1) = 1 then 0 else -4
theorem sLi_saying {w : Int32} {c : Nat} {K : Int32 → Mm → Prop} (hl : LR M r) (hc : c < 64) (h : K (sav M r w c) M) : CI mLi_saying [.ref r, .int w, .int (nI c)] M K := by
  have cc : (nI c).toNatClampNeg = c := ncl (by omega)
  unfold sav at h
  refine call_of rfl (Nat.le_of_ble_eq_true rfl) rfl (vLi_saying_0 hl.1 (lr3 hl) (lr4 hl) ⟨vin hc (by decide), fun _ => vin hc (by decide), fun q => ?_, fun q => ?_, fun q => ?_⟩)
  · rw [cc] at q
    rw [if_neg q.1, if_neg q.2] at h; exact h
  · rw [cc] at q
    rw [if_neg q.1, if_pos q.2] at h; exact h
  · rw [cc] at q
    rw [if_pos q] at h; exact h
theorem lS_weightOf {w : Nat} {K : Int32 → Mm → Prop} (l : LD M r D) (hw : w < D) (h : ∀ v, K v M) : CI mLi_weightOf [.ref r, .int (nI w)] M K := by
  have hl := l.1
  have hD := l.2.2.1
  have b65 : ∀ v, v < D → X mLi_weightOf 65 [(0, .ref r), (2, .int (nI v))] [] M (mC mLi_weightOf, mS mLi_weightOf) (QI K) := by
    intro v hv
    exact vLi_weightOf_65 hl.1 (lr0 hl) ⟨ld_v l hv, r + 776 + 64 * v, ld_gw l (by omega), sJi_bitCount (fun x _ => vLi_weightOf_77 hl.1 (lr0 hl) ⟨ld_v l hv, r + 776 + 64 * v, ld_gw l (by omega), sJi_bitCount (fun y _ => vLi_weightOf_89 (h _))⟩)⟩
  have b25 : X mLi_weightOf 25 [(0, .ref r), (1, .int (nI w))] [] M (mC mLi_weightOf, mS mLi_weightOf) (QI K) := by
    refine vLi_weightOf_25 ?_
    refine lp D (P := fun i => ∀ v, v < D → X mLi_weightOf 29 [(0, .ref r), (2, .int (nI v)), (3, .int (nI i))] [] M (mC mLi_weightOf, mS mLi_weightOf) (QI K)) (fun i hi ih v hv => ?_) (fun v hv => ?_) w hw
    · obtain ⟨-, -, -, hf⟩ := l.2.2.2 v hv
      refine vLi_weightOf_29 hl.1 (lr0 hl) ⟨fun q => absurd q (ld_le l hi), fun _ => ⟨ld_v l hv, r + 776 + 64 * v, ld_gw l (by omega), fun _ => b65 v hv, fun q => ⟨ld_v l hv, r + 776 + 64 * v, ld_gw l (by omega), ?_⟩⟩⟩
      obtain ⟨f, hf, ef⟩ := hf.resolve_left q
      rw [ef, nI_s]
      exact ih f hf
    · exact vLi_weightOf_29 hl.1 (lr0 hl) ⟨fun _ => b65 v hv, fun q => absurd (ld_se l) q⟩
  exact call_of rfl (Nat.le_of_ble_eq_true rfl) rfl (vLi_weightOf_0 hl.1 (lr0 hl) ⟨ld_v l hw, r + 776 + 64 * w, ld_gw l (by omega), fun _ => b25, fun _ => sC_holds (vLi_weightOf_20 ⟨fun _ => b25, fun _ => h _⟩)⟩)
end CS1
end MG56
section MG57
/-! ===== the class's settling, exactly: words sorted, followed, rings ===== -/
theorem bt_or1 (x : Int32) {i v : Nat} (hi : i < 32) (hv : v < 32) : bt (x ||| ((1 : Int32) <<< (nI i &&& 31))) v = true ↔ bt x v = true ∨ v = i := by
  rw [b_or, b_one i hi v hv, Bool.or_eq_true, decide_eq_true_eq]
theorem bt_orp (x : Int32) {p : Prop} [Decidable p] {i v : Nat} (hi : i < 32) (hv : v < 32) : bt (x ||| (if p then ((1 : Int32) <<< (nI i &&& 31)) else 0)) v = true ↔ bt x v = true ∨ (p ∧ v = i) := by
  by_cases q : p
  · rw [if_pos q, bt_or1 x hi hv]
    exact ⟨fun h => h.imp id (fun e => ⟨q, e⟩), fun h => h.imp id (fun e => e.2)⟩
  · rw [if_neg q, or_032]
    exact ⟨Or.inl, fun h => h.elim id (fun e => absurd e.1 q)⟩
/-- words sorted by doctor, book, law and note: those less than n -/
def SW (N : Mm) (r : Nat) (g : Nat → Nat → Int32) (n : Nat) : Prop :=
  (∀ d, d < 8 → ∀ v, v < 32 → (bt (gi N (r + 460) d) v = true ↔ v < n ∧ g v 1 = nI d)) ∧
  (∀ b, b < 8 → ∀ v, v < 32 → (bt (gi N (r + 524) b) v = true ↔ v < n ∧ g v 2 = nI b)) ∧
  (∀ v, v < 32 → (bt (gi N r 10) v = true ↔ v < n ∧ g v 0 = 5)) ∧
  (∀ v, v < 32 → (bt (gi N r 11) v = true ↔ v < n ∧ g v 0 = 3))
/-- what a word follows, of rows -/
def fosg (g : Nat → Nat → Int32) (w : Nat) : Nat → Int32
  | 0 => 0
  | v + 1 => fosg g w v ||| (if g v 1 = g w 1 ∧ ¬ g v 0 = 3 then ((1 : Int32) <<< (nI v &&& 31)) else 0)
def fowg (g : Nat → Nat → Int32) (w : Nat) : Int32 := if g w 0 = 4 then fosg g w w else if g w 6 = -4 then 0 else (1 : Int32) <<< (g w 6 &&& 31)
theorem fosg_e (M : Mm) (w : Nat) : ∀ v, fos M w v = fosg (wd M) w v
  | 0 => rfl
  | v + 1 => by rw [fos, fosg, fosg_e M w v]
theorem fowg_e (M : Mm) (w : Nat) : fow M w = fowg (wd M) w := by unfold fow fowg; rw [fosg_e]
theorem fosg_cg {g g' : Nat → Nat → Int32} {w : Nat} : ∀ v, (∀ u, u < v → g u 0 = g' u 0 ∧ g u 1 = g' u 1) → g w 1 = g' w 1 → fosg g w v = fosg g' w v
  | 0, _, _ => rfl
  | v + 1, h, e => by
    rw [fosg, fosg, fosg_cg v (fun u hu => h u (by omega)) e, (h v (by omega)).1, (h v (by omega)).2, e]
theorem fowg_cg {g g' : Nat → Nat → Int32} {n w : Nat} (hw : w < n) (h : ∀ u, u < n → ∀ i, i < 7 → g u i = g' u i) : fowg g w = fowg g' w := by
  unfold fowg
  rw [fosg_cg w (fun u hu => ⟨h u (by omega) 0 (by decide), h u (by omega) 1 (by decide)⟩) (h w hw 1 (by decide)), h w hw 0 (by decide), h w hw 6 (by decide)]
theorem fosg_b (g : Nat → Nat → Int32) (w : Nat) : ∀ n, n ≤ 32 → ∀ v, v < 32 → (bt (fosg g w n) v = true ↔ v < n ∧ g v 1 = g w 1 ∧ ¬ g v 0 = 3)
  | 0, _, v, _ => by rw [fosg, b_0]; simp
  | n + 1, h, v, hv => by
    rw [fosg, bt_orp _ (show n < 32 by omega) hv, fosg_b g w n (by omega) v hv]
    constructor
    · rintro (q | ⟨q, rfl⟩)
      · exact ⟨by omega, q.2⟩
      · exact ⟨by omega, q⟩
    · rintro ⟨q1, q2⟩
      by_cases e : v = n
      · subst e; exact Or.inr ⟨q2, rfl⟩
      · exact Or.inl ⟨by omega, q2⟩
/-- rows that following may be asked of -/
def RF (g : Nat → Nat → Int32) (w : Nat) : Prop := (g w 6 = -4 ∨ ∃ f, f < 24 ∧ g w 6 = nI f) ∧ (g w 0 = 4 → g w 6 = -4 ∧ ∃ d, d < 8 ∧ g w 1 = nI d)
/-- the steps' field stays -/
def KT (r : Nat) (M N : Mm) : Prop := ∀ w, w < 24 → gi N (r + 776 + 64 * w) 10 = gi M (r + 776 + 64 * w) 10
theorem kt_si {r x j : Nat} {M N : Mm} {v : Int32} (h : x < r + 776) (k : KT r M N) : KT r M (si N x j v) := fun w hw => by rw [giR _ _ _ _ _ _ (by omega)]; exact k w hw
theorem kt_fl {r x n : Nat} {M N : Mm} {v : Int32} (h : x < r + 776) (k : KT r M N) : KT r M (fl N x n v) := fun w hw => by rw [flR _ _ _ _ _ _ (by omega)]; exact k w hw
section EQK
variable {M : Mm} {r D : Nat}
theorem eS_sortWords {K : Mm → Prop} (l : LD M r D) (h : ∀ N, ST r M N → SW N r (fun w i => gi M (r + 776 + 64 * w) i) D → (∀ w, w < 24 → gi N (r + 776 + 64 * w) 10 = gi M (r + 776 + 64 * w) 10) → K N) : CV mLi_sortWords [.ref r] M K := by
  have hl := l.1
  have hD := l.2.2.1
  generalize eg : (fun w i => gi M (r + 776 + 64 * w) i) = g at h
  have ge : ∀ w i, g w i = gi M (r + 776 + 64 * w) i := fun w i => by rw [← eg]
  refine call_of rfl (Nat.le_of_ble_eq_true rfl) rfl (vLi_sortWords_0 hl.1 (lr7 hl) (sJr_fill (lrk hl 460 13 rfl (by decide)) ak_13 (by decide) (vLi_sortWords_8 hl.1 (lr8 hl) (sJr_fill (lrk hl 524 13 rfl (by decide)) ak_13 (by decide) (vLi_sortWords_16 hl.1 ?_)))))
  have s0 : ST r M (si (si (fl (fl M (r + 460) 8 0) (r + 524) 8 0) r 10 0) r 11 0) := st_tr (st_fl (by omega) (by omega)) (st_tr (st_fl (by omega) (by omega)) (st_tr (st_si ⟨by omega, by omega, by omega, by omega⟩) (st_si ⟨by omega, by omega, by omega, by omega⟩)))
  have w0 : SW (si (si (fl (fl M (r + 460) 8 0) (r + 524) 8 0) r 10 0) r 11 0) r g 0 := by
    refine ⟨fun d hd v hv => ?_, fun b hb v hv => ?_, fun v hv => ?_, fun v hv => ?_⟩
    · rw [giR _ _ _ _ _ _ (by omega), giR _ _ _ _ _ _ (by omega), flR _ _ _ _ _ _ (by omega), gi_fl, if_pos ⟨rfl, hd⟩, b_0]; simp
    · rw [giR _ _ _ _ _ _ (by omega), giR _ _ _ _ _ _ (by omega), gi_fl, if_pos ⟨rfl, hb⟩, b_0]; simp
    · rw [gxs, if_neg (by decide), gxs, if_pos rfl, b_0]; simp
    · rw [gxs, if_pos rfl, b_0]; simp
  refine lp D (P := fun i => ∀ N, ST r M N → KT r M N → SW N r g i → X mLi_sortWords 28 [(0, .ref r), (1, .int (nI i))] [] N (mC mLi_sortWords, mS mLi_sortWords) (QV K)) (fun i hi ih N sN kN wN => ?_) (fun N sN kN wN => ?_) _ s0 (kt_si (by omega) (kt_si (by omega) (kt_fl (by omega) (kt_fl (by omega) (fun _ _ => rfl))))) w0
  · have lN := ld_st sN l
    have hN := lN.1
    have hi32 : i < 32 := by omega
    obtain ⟨⟨b, hb, eb⟩, hd, -, -⟩ := lN.2.2.2 i hi
    have rw_ : ∀ O, ST r M O → ∀ j, j < 9 → gi O (r + 776 + 64 * i) j = g i j := fun O sO j hj => by rw [sO.2.2.2.1 i (by omega) j hj, ge]
    have gb : g i 2 = nI b := by rw [← rw_ N sN 2 (by decide)]; exact eb
    have nx : ∀ (p : Nat → Prop) (x : Prop) (v : Nat), ((v < i ∧ p v) ∨ (v = i ∧ x)) → (x ↔ p i) → (v < i + 1 ∧ p v) := by
      intro p x v q e
      rcases q with q | ⟨rfl, q⟩
      · exact ⟨by omega, q.2⟩
      · exact ⟨by omega, e.mp q⟩
    have b80 : ∀ O, ST r M O → KT r M O → (∀ d, d < 8 → ∀ v, v < 32 → (bt (gi O (r + 460) d) v = true ↔ v < i + 1 ∧ g v 1 = nI d)) → (∀ b, b < 8 → ∀ v, v < 32 → (bt (gi O (r + 524) b) v = true ↔ v < i + 1 ∧ g v 2 = nI b)) → gi O r 10 = gi N r 10 → gi O r 11 = gi N r 11 → X mLi_sortWords 80 [(0, .ref r), (1, .int (nI i)), (2, .ref (r + 776 + 64 * i))] [] O (mC mLi_sortWords, mS mLi_sortWords) (QV K) := by
      intro O sO kO w1 w2 e10 e11
      refine vLi_sortWords_80 hl.1 (wkk l i) ?_
      have r0 := rw_ O sO 0 (by decide)
      have r0' : ∀ v, gi (si O r 10 v) (r + 776 + 64 * i) 0 = g i 0 := fun v => by rw [giR _ _ _ _ _ _ (by omega)]; exact r0
      have r11 : ∀ v, gi (si O r 10 v) r 11 = gi O r 11 := fun v => by rw [gxs, if_neg (by decide)]
      rw [nI_s, r0', r0, r11, e10, e11]
      refine ih _ (st_tr sO (st_tr (st_si ⟨by omega, by omega, by omega, by omega⟩) (st_si ⟨by omega, by omega, by omega, by omega⟩))) (kt_si (by omega) (kt_si (by omega) kO)) ⟨fun d hd v hv => ?_, fun b hb v hv => ?_, fun v hv => ?_, fun v hv => ?_⟩
      · rw [giR _ _ _ _ _ _ (by omega), giR _ _ _ _ _ _ (by omega)]; exact w1 d hd v hv
      · rw [giR _ _ _ _ _ _ (by omega), giR _ _ _ _ _ _ (by omega)]; exact w2 b hb v hv
      · rw [gxs, if_neg (by decide), gxs, if_pos rfl, bt_orp _ hi32 hv, wN.2.2.1 v hv]
        constructor
        · rintro (q | ⟨q, rfl⟩)
          · exact ⟨by omega, q.2⟩
          · exact ⟨by omega, q⟩
        · rintro ⟨q1, q2⟩
          by_cases e : v = i
          · subst e; exact Or.inr ⟨q2, rfl⟩
          · exact Or.inl ⟨by omega, q2⟩
      · rw [gxs, if_pos rfl, bt_orp _ hi32 hv, wN.2.2.2 v hv]
        constructor
        · rintro (q | ⟨q, rfl⟩)
          · exact ⟨by omega, q.2⟩
          · exact ⟨by omega, q⟩
        · rintro ⟨q1, q2⟩
          by_cases e : v = i
          · subst e; exact Or.inr ⟨q2, rfl⟩
          · exact Or.inl ⟨by omega, q2⟩
    refine vLi_sortWords_28 hl.1 (lr0 hN) (lr8 hN) (lr7 hN) ⟨fun q => absurd q (ld_le lN hi), fun _ => ⟨ld_v lN hi, r + 776 + 64 * i, ld_gw lN (by omega), ?_⟩⟩
    have vb : vp_in (gi N (r + 776 + 64 * i) 2) 8 := by rw [eb]; exact vin hb (by decide)
    refine ⟨vb, vb, ?_⟩
    have cb : (gi N (r + 776 + 64 * i) 2).toNatClampNeg = b := by rw [eb]; exact ncl (by omega)
    rw [cb]
    generalize eA : si N (r + 524) b (gi N (r + 524) b ||| ((1 : Int32) <<< (nI i &&& 31))) = A
    have sA : ST r M A := by rw [← eA]; exact st_tr sN (st_si ⟨by omega, by omega, by omega, by omega⟩)
    have kA : KT r M A := by rw [← eA]; exact kt_si (by omega) kN
    have a1 := rw_ A sA 1 (by decide)
    have n1 := rw_ N sN 1 (by decide)
    have aA : ∀ d, gi A (r + 460) d = gi N (r + 460) d := fun d => by rw [← eA, giR _ _ _ _ _ _ (by omega)]
    have aR : ∀ k, gi A r k = gi N r k := fun k => by rw [← eA, giR _ _ _ _ _ _ (by omega)]
    have w2A : ∀ b, b < 8 → ∀ v, v < 32 → (bt (gi A (r + 524) b) v = true ↔ v < i + 1 ∧ g v 2 = nI b) := by
      intro b' hb' v hv
      rw [← eA, gxs]
      by_cases e : b' = b
      · subst e
        rw [if_pos rfl, bt_or1 _ hi32 hv, wN.2.1 b' hb' v hv]
        constructor
        · rintro (q | rfl)
          · exact ⟨by omega, q.2⟩
          · exact ⟨by omega, gb⟩
        · rintro ⟨q1, q2⟩
          by_cases e : v = i
          · exact Or.inr e
          · exact Or.inl ⟨by omega, q2⟩
      · rw [if_neg e, wN.2.1 b' hb' v hv]
        constructor
        · rintro ⟨q1, q2⟩; exact ⟨by omega, q2⟩
        · rintro ⟨q1, q2⟩
          by_cases ev : v = i
          · subst ev
            rw [gb, ninj (by omega) (by omega)] at q2
            exact absurd q2.symm e
          · exact ⟨by omega, q2⟩
    rw [a1]
    have hd' : g i 1 < 0 ∨ ∃ d, d < 8 ∧ g i 1 = nI d := by rw [← n1]; exact hd
    have vd : ¬ g i 1 < 0 → vp_in (g i 1) 8 := fun q => by
      obtain ⟨d, hd, ed⟩ := hd'.resolve_left q
      rw [ed]; exact vin hd (by decide)
    refine ⟨vd, fun q => b80 A sA kA (fun d hd v hv => ?_) w2A (aR 10) (aR 11), fun q => ⟨vd q, ?_⟩⟩
    · rw [aA, wN.1 d hd v hv]
      constructor
      · rintro ⟨q1, q2⟩; exact ⟨by omega, q2⟩
      · rintro ⟨q1, q2⟩
        by_cases ev : v = i
        · subst ev
          rw [q2] at q
          exact absurd q (n0 d (by omega))
        · exact ⟨by omega, q2⟩
    · obtain ⟨d0, hd0, ed0⟩ := hd'.resolve_left q
      have cd : (g i 1).toNatClampNeg = d0 := by rw [ed0]; exact ncl (by omega)
      rw [cd, aA]
      refine b80 _ (st_tr sA (st_si ⟨by omega, by omega, by omega, by omega⟩)) (kt_si (by omega) kA) (fun d hd v hv => ?_) (fun b hb v hv => ?_) ?_ ?_
      · rw [gxs]
        by_cases e : d = d0
        · subst e
          rw [if_pos rfl, bt_or1 _ hi32 hv, wN.1 d hd v hv]
          constructor
          · rintro (q | rfl)
            · exact ⟨by omega, q.2⟩
            · exact ⟨by omega, ed0⟩
          · rintro ⟨q1, q2⟩
            by_cases e : v = i
            · exact Or.inr e
            · exact Or.inl ⟨by omega, q2⟩
        · rw [if_neg e, aA, wN.1 d hd v hv]
          constructor
          · rintro ⟨q1, q2⟩; exact ⟨by omega, q2⟩
          · rintro ⟨q1, q2⟩
            by_cases ev : v = i
            · subst ev
              rw [ed0, ninj (by omega) (by omega)] at q2
              exact absurd q2.symm e
            · exact ⟨by omega, q2⟩
      · rw [giR _ _ _ _ _ _ (by omega)]; exact w2A b hb v hv
      · rw [giR _ _ _ _ _ _ (by omega)]; exact aR 10
      · rw [giR _ _ _ _ _ _ (by omega)]; exact aR 11
  · have lN := ld_st sN l
    exact vLi_sortWords_28 hl.1 (lr0 lN.1) (lr8 lN.1) (lr7 lN.1) ⟨fun _ => h N sN wN kN, fun q => absurd (ld_se lN) q⟩
/-- what a like follows, as the class reckons it -/
theorem like_e {g : Nat → Nat → Int32} {n w : Nat} {od nt : Int32} {d : Nat} (hn : n ≤ 24) (hw : w < n) (h1 : ∀ v, v < 32 → (bt od v = true ↔ v < n ∧ g v 1 = nI d)) (h2 : ∀ v, v < 32 → (bt nt v = true ↔ v < n ∧ g v 0 = 3)) (ed : g w 1 = nI d) : ((od &&& (((1 : Int32) <<< (nI w &&& 31)) - 1)) &&& (nt ^^^ (-1))) = fosg g w w := by
  refine b_ext (fun v hv => ?_)
  have e1 : bt (nt ^^^ (-1)) v = !bt nt v := by
    have e : bt (-1) v = true := by
      have : ∀ v, v < 32 → bt (-1) v = true := by decide +kernel
      exact this v hv
    have : bt (nt ^^^ (-1)) v = (bt nt v ^^ bt (-1) v) := by unfold bt; rw [Int32.toBitVec_xor, BitVec.getLsbD_xor]
    rw [this, e, Bool.xor_true]
  have e2 : bt (((1 : Int32) <<< (nI w &&& 31)) - 1) v = decide (v < w) := mask_b w (by omega) v hv
  rw [Bool.eq_iff_iff, fosg_b g w w (by omega) v hv, b_and, b_and, e1, e2, Bool.and_eq_true, Bool.and_eq_true, decide_eq_true_eq, h1 v hv, Bool.not_eq_true', ed]
  constructor
  · rintro ⟨⟨⟨q1, q2⟩, q3⟩, q4⟩
    refine ⟨q3, q2, fun z => ?_⟩
    rw [(h2 v hv).mpr ⟨q1, z⟩] at q4
    exact absurd q4 (by decide)
  · rintro ⟨q1, q2, q3⟩
    refine ⟨⟨⟨by omega, q2⟩, q1⟩, ?_⟩
    by_cases z : bt nt v = true
    · exact absurd ((h2 v hv).mp z).2 q3
    · exact Bool.not_eq_true _ ▸ z
end EQK
end MG57
section MG58
/-! ===== the class's settling, exactly: followed, rings ===== -/
section EQL
variable {M : Mm} {r D : Nat}
/-- all but two rows of the library stay -/
def F2 (r : Nat) (M N : Mm) : Prop := gr N = gr M ∧ gl N = gl M ∧ ∀ a, a ≠ r + 651 → a ≠ r + 715 → gi N a = gi M a
theorem f2_rf (r : Nat) (M : Mm) : F2 r M M := ⟨rfl, rfl, fun _ _ _ => rfl⟩
theorem f2_si {r j : Nat} {M N : Mm} {a : Nat} {v : Int32} (h : a = r + 651 ∨ a = r + 715) (f : F2 r M N) : F2 r M (si N a j v) := by
  refine ⟨f.1, f.2.1, fun b n1 n2 => ?_⟩
  rw [gi_ne (by omega)]; exact f.2.2 b n1 n2
theorem f2_st {r : Nat} {M N : Mm} (f : F2 r M N) : ST r M N := by
  obtain ⟨f1, f2, f3⟩ := f
  refine ⟨f1, f2, by rw [f3 r (by omega) (by omega)], fun w hw i hi => by rw [f3 _ (by omega) (by omega)], fun a ha => f3 a (by omega) (by omega), f3 _ (by omega) (by omega)⟩
theorem eS_findFollowed {K : Mm → Prop} {g : Nat → Nat → Int32} (l : LD M r D) (sw : SW M r g D) (eg : ∀ w, w < D → ∀ i, i < 7 → gi M (r + 776 + 64 * w) i = g w i) (rf : ∀ w, w < D → RF g w) (h : ∀ N, F2 r M N → (∀ w, w < D → gi N (r + 651) w = fowg g w ∧ gi N (r + 715) w = fowg g w) → K N) : CV mLi_findFollowed [.ref r] M K := by
  have hl := l.1
  have hD := l.2.2.1
  refine call_of rfl (Nat.le_of_ble_eq_true rfl) rfl (vLi_findFollowed_0 ?_)
  refine lp D (P := fun i => ∀ N, F2 r M N → (∀ w, w < i → gi N (r + 651) w = fowg g w ∧ gi N (r + 715) w = fowg g w) → X mLi_findFollowed 2 [(0, .ref r), (1, .int (nI i))] [] N (mC mLi_findFollowed, mS mLi_findFollowed) (QV K)) (fun i hi ih N fN wN => ?_) (fun N fN wN => ?_) _ (f2_rf r M) (fun w hw => absurd hw (by omega))
  · have sN := f2_st fN
    have lN := ld_st sN l
    have hN := lN.1
    have ci : (nI i).toNatClampNeg = i := ncl (by omega)
    have rw_ : ∀ O, F2 r M O → ∀ j, j < 7 → gi O (r + 776 + 64 * i) j = g i j := fun O fO j hj => by rw [fO.2.2 _ (by omega) (by omega)]; exact eg i hi j hj
    obtain ⟨r6, r4⟩ := rf i hi
    have b89 : ∀ O, F2 r M O → (∀ w, w < i → gi O (r + 651) w = fowg g w ∧ gi O (r + 715) w = fowg g w) → gi O (r + 651) i = fowg g i → X mLi_findFollowed 89 [(0, .ref r), (1, .int (nI i))] [] O (mC mLi_findFollowed, mS mLi_findFollowed) (QV K) := by
      intro O fO wO e
      have lO := ld_st (f2_st fO) l
      refine vLi_findFollowed_89 hl.1 (lr15 lO.1) (lr14 lO.1) ⟨ld_v lO hi, ld_v lO hi, ?_⟩
      rw [nI_s, ci, e]
      refine ih _ (f2_si (Or.inr rfl) fO) (fun w hw => ?_)
      rw [giR _ _ _ _ _ _ (show r + 651 ≠ r + 715 by omega), gxs]
      by_cases z : w = i
      · rw [if_pos z, z]; exact ⟨e, rfl⟩
      · rw [if_neg z]; exact wO w (by omega)
    have f1 : F2 r M (si N (r + 651) i 0) := f2_si (Or.inl rfl) fN
    have w1 : ∀ v w, w < i → gi (si N (r + 651) i v) (r + 651) w = fowg g w ∧ gi (si N (r + 651) i v) (r + 715) w = fowg g w := fun v w hw => by
      rw [gxs, if_neg (by omega), giR _ _ _ _ _ _ (show r + 715 ≠ r + 651 by omega)]; exact wN w hw
    have x0 := rw_ _ f1 0 (by decide)
    have x1 := rw_ _ f1 1 (by decide)
    have x6 := rw_ _ f1 6 (by decide)
    refine vLi_findFollowed_2 hl.1 (lr0 hN) (lr14 hN) (lr7 hN) ⟨fun q => absurd q (ld_le lN hi), fun _ => ⟨ld_v lN hi, r + 776 + 64 * i, ld_gw lN (by omega), ld_v lN hi, ?_⟩⟩
    rw [ci, x0, x1, x6]
    refine ⟨fun q => ?_, fun q => ?_, fun q => ⟨ld_v lN hi, ?_⟩, fun q => ⟨ld_v lN hi, ?_⟩⟩
    · obtain ⟨-, d, hd, ed⟩ := r4 q.2.1
      rw [ed]; exact vin hd (by decide)
    · refine b89 _ f1 (w1 0) ?_
      rw [gxs, if_pos rfl]
      unfold fowg
      have n4 : ¬ g i 0 = 4 := by
        rcases q with q | q
        · exact q.2
        · intro z
          obtain ⟨-, d, hd, ed⟩ := r4 z
          rw [ed] at q
          exact n0 d (by omega) q.2.2
      have e6 : g i 6 = -4 := by
        rcases r6 with z | ⟨f, hf, ef⟩
        · exact z
        · exfalso
          have : g i 6 < 0 := q.elim (fun q => q.1) (fun q => q.1)
          rw [ef] at this
          exact n0 f (by omega) this
      rw [if_neg n4, if_pos e6]
    · obtain ⟨e6, d, hd, ed⟩ := r4 q.2.1
      have cd : (g i 1).toNatClampNeg = d := by rw [ed]; exact ncl (by omega)
      have o1 : gi (si N (r + 651) i 0) (r + 460) d = gi M (r + 460) d := by rw [f1.2.2 _ (by omega) (by omega)]
      have o2 : gi (si N (r + 651) i 0) r 11 = gi M r 11 := by rw [f1.2.2 _ (by omega) (by omega)]
      rw [cd, o1, o2, like_e (g := g) (n := D) hD hi (sw.1 d hd) sw.2.2.2 ed, si_si]
      refine b89 _ (f2_si (Or.inl rfl) fN) (w1 _) ?_
      rw [gxs, if_pos rfl]
      unfold fowg
      rw [if_pos q.2.1]
    · rw [si_si]
      refine b89 _ (f2_si (Or.inl rfl) fN) (w1 _) ?_
      rw [gxs, if_pos rfl]
      have n6 : ¬ g i 6 = -4 := fun z => by rw [z] at q; exact q (by decide)
      have n4 : ¬ g i 0 = 4 := fun z => n6 (r4 z).1
      unfold fowg
      rw [if_neg n4, if_neg n6]
  · have lN := ld_st (f2_st fN) l
    exact vLi_findFollowed_2 hl.1 (lr0 lN.1) (lr14 lN.1) (lr7 lN.1) ⟨fun _ => h N fN wN, fun q => absurd (ld_se lN) q⟩
/-- what the rings may change -/
def F3 (r : Nat) (M N : Mm) : Prop := gr N = gr M ∧ gl N = gl M ∧ (∀ a, a ≠ r → a ≠ r + 715 → gi N a = gi M a) ∧ ∀ k, k ≠ 12 → k ≠ 13 → gi N r k = gi M r k
theorem f3_rf (r : Nat) (M : Mm) : F3 r M M := ⟨rfl, rfl, fun _ _ _ => rfl, fun _ _ _ => rfl⟩
theorem f3_15 {r j : Nat} {M N : Mm} {v : Int32} (f : F3 r M N) : F3 r M (si N (r + 715) j v) := by
  refine ⟨f.1, f.2.1, fun b n1 n2 => ?_, fun k n1 n2 => ?_⟩
  · rw [gi_ne (by omega)]; exact f.2.2.1 b n1 n2
  · rw [giR _ _ _ _ _ _ (by omega)]; exact f.2.2.2 k n1 n2
theorem f3_12 {r j : Nat} {M N : Mm} {v : Int32} (h : j = 12 ∨ j = 13) (f : F3 r M N) : F3 r M (si N r j v) := by
  refine ⟨f.1, f.2.1, fun b n1 n2 => ?_, fun k n1 n2 => ?_⟩
  · rw [gi_ne n1]; exact f.2.2.1 b n1 n2
  · rw [gxs, if_neg (by omega)]; exact f.2.2.2 k n1 n2
theorem f3_st {r : Nat} {M N : Mm} (f : F3 r M N) : ST r M N := by
  obtain ⟨f1, f2, f3, f4⟩ := f
  refine ⟨f1, f2, f4 1 (by decide) (by decide), fun w hw i hi => by rw [f3 _ (by omega) (by omega)], fun a ha => f3 a (by omega) (by omega), f3 _ (by omega) (by omega)⟩
theorem eS_findRings {K : Mm → Prop} {R : Nat → Int32} (l : LD M r D) (hR : ∀ w, w < D → gi M (r + 715) w = R w) (h : ∀ N, F3 r M N → (∀ w, w < D → gi N (r + 715) w = wlr R D w) → gi N r 12 = rg (wlr R D) D → gi N r 13 = ug (wlr R D) (rg (wlr R D) D) D → K N) : CV mLi_findRings [.ref r] M K := by
  have hl := l.1
  have hD := l.2.2.1
  refine call_of rfl (Nat.le_of_ble_eq_true rfl) rfl (vLi_findRings_0 ?_)
  have k3 : ∀ N, F3 r M N → (∀ w, w < D → gi N (r + 715) w = wlr R D w) → gi N r 12 = rg (wlr R D) D → gi N r 13 = rg (wlr R D) D → X mLi_findRings 110 [(0, .ref r), (1, .int 0)] [] N (mC mLi_findRings, mS mLi_findRings) (QV K) := by
    intro N fN rN e12 e13
    refine lp D (P := fun i => ∀ N, F3 r M N → (∀ w, w < D → gi N (r + 715) w = wlr R D w) → gi N r 12 = rg (wlr R D) D → gi N r 13 = ug (wlr R D) (rg (wlr R D) D) i → X mLi_findRings 110 [(0, .ref r), (1, .int (nI i))] [] N (mC mLi_findRings, mS mLi_findRings) (QV K)) (fun i hi ih N fN rN e12 e13 => ?_) (fun N fN rN e12 e13 => ?_) N fN rN e12 e13
    · have lN := ld_st (f3_st fN) l
      have ci : (nI i).toNatClampNeg = i := ncl (by omega)
      have b144 : ∀ x, x = (if (wlr R D i &&& rg (wlr R D) D) = 0 then 0 else ((1 : Int32) <<< (nI i &&& 31))) → X mLi_findRings 144 [(0, .ref r), (1, .int (nI i))] [.int x, .int (gi N r 13), .ref r] N (mC mLi_findRings, mS mLi_findRings) (QV K) := by
        intro x ex
        refine vLi_findRings_144 hl.1 ?_
        rw [nI_s]
        refine ih _ (f3_12 (Or.inr rfl) fN) (fun w hw => by rw [giR _ _ _ _ _ _ (by omega)]; exact rN w hw) (by rw [gxs, if_neg (by decide)]; exact e12) ?_
        rw [gxs, if_pos rfl, e13, ex, ug]
      refine vLi_findRings_110 hl.1 (lr15 lN.1) ⟨fun _ => ld_v lN hi, fun q => absurd q (ld_le lN hi), fun q => b144 _ ?_, fun q => b144 _ ?_⟩
      · rw [ci, rN i hi, e12] at q
        rw [if_pos q.2]
      · rw [ci, rN i hi, e12] at q
        rw [if_neg q.2]
    · have lN := ld_st (f3_st fN) l
      exact vLi_findRings_110 hl.1 (lr15 lN.1) ⟨fun q => absurd (ld_se lN) q, fun _ => h N fN rN e12 e13, fun q => absurd (ld_se lN) q.1, fun q => absurd (ld_se lN) q.1⟩
  have k2 : ∀ N, F3 r M N → (∀ w, w < D → gi N (r + 715) w = wlr R D w) → gi N r 12 = 0 → X mLi_findRings 67 [(0, .ref r), (1, .int 0)] [] N (mC mLi_findRings, mS mLi_findRings) (QV K) := by
    intro N fN rN e12
    refine lp D (P := fun i => ∀ N, F3 r M N → (∀ w, w < D → gi N (r + 715) w = wlr R D w) → gi N r 12 = rg (wlr R D) i → X mLi_findRings 67 [(0, .ref r), (1, .int (nI i))] [] N (mC mLi_findRings, mS mLi_findRings) (QV K)) (fun i hi ih N fN rN e12 => ?_) (fun N fN rN e12 => ?_) N fN rN e12
    · have lN := ld_st (f3_st fN) l
      have ci : (nI i).toNatClampNeg = i := ncl (by omega)
      refine vLi_findRings_67 hl.1 (lr15 lN.1) ⟨fun _ => ld_v lN hi, fun q => absurd q (ld_le lN hi), fun _ => ?_⟩
      rw [nI_s, ci, rN i hi, e12]
      refine ih _ (f3_12 (Or.inl rfl) fN) (fun w hw => by rw [giR _ _ _ _ _ _ (by omega)]; exact rN w hw) ?_
      rw [gxs, if_pos rfl, rg]
    · have lN := ld_st (f3_st fN) l
      refine vLi_findRings_67 hl.1 (lr15 lN.1) ⟨fun q => absurd (ld_se lN) q, fun _ => ?_, fun q => absurd (ld_se lN) q⟩
      refine k3 _ (f3_12 (Or.inr rfl) fN) (fun w hw => by rw [giR _ _ _ _ _ _ (by omega)]; exact rN w hw) ?_ ?_
      · rw [gxs, if_neg (by decide)]; exact e12
      · rw [gxs, if_pos rfl]; exact e12
  refine lp D (P := fun m => ∀ N, F3 r M N → (∀ w, w < D → gi N (r + 715) w = wlr R m w) → X mLi_findRings 2 [(0, .ref r), (1, .int (nI m))] [] N (mC mLi_findRings, mS mLi_findRings) (QV K)) (fun m hm ih N fN rN => ?_) (fun N fN rN => ?_) _ (f3_rf r M) hR
  · have lN := ld_st (f3_st fN) l
    have cm : (nI m).toNatClampNeg = m := ncl (by omega)
    refine vLi_findRings_2 hl.1 ⟨fun q => absurd q (ld_le lN hm), fun _ => ?_⟩
    refine lp D (P := fun i => ∀ N, F3 r M N → (∀ w, w < D → gi N (r + 715) w = if w < i then wlr R (m + 1) w else wlr R m w) → X mLi_findRings 12 [(0, .ref r), (1, .int (nI m)), (2, .int (nI i))] [] N (mC mLi_findRings, mS mLi_findRings) (QV K)) (fun i hi ih2 N fN rN => ?_) (fun N fN rN => ?_) N fN (fun w hw => by rw [if_neg (Nat.not_lt_zero w)]; exact rN w hw)
    · have lN := ld_st (f3_st fN) l
      have ci : (nI i).toNatClampNeg = i := ncl (by omega)
      have ri : gi N (r + 715) i = wlr R m i := by rw [rN i hi, if_neg (by omega)]
      have rm : gi N (r + 715) m = wlr R m m := by
        rw [rN m hm]
        split
        · rw [wlr, wrf_m]
        · rfl
      have e1 : wlr R (m + 1) i = wlr R m i ||| (if ((wlr R m i >>> (nI m &&& 31)) &&& 1) = 1 then wlr R m m else 0) := by rw [wlr]; rfl
      refine vLi_findRings_12 hl.1 (lr15 lN.1) ⟨fun _ => ld_v lN hi, fun q => absurd q (ld_le lN hi), fun _ => sC_holds (vLi_findRings_30 hl.1 (lr15 lN.1) ⟨fun _ => ld_v lN hi, fun _ => ld_v lN hm, fun q => ?_, fun q => ⟨ld_v lN hi, ?_⟩⟩)⟩
      · rw [ci, ri] at q
        have nb : ¬ bt (wlr R m i) m = true := fun y => by
          rw [if_pos ((bitu _ (by omega)).mpr y)] at q
          exact absurd q (by decide)
        rw [nI_s]
        refine ih2 N fN (fun w hw => ?_)
        rw [rN w hw]
        by_cases z : w = i
        · rw [if_neg (by omega), if_pos (by omega), z, e1, if_neg (fun y => nb ((bit1 _ (by omega)).mp y)), or_032]
        · by_cases z2 : w < i
          · rw [if_pos z2, if_pos (by omega)]
          · rw [if_neg z2, if_neg (by omega)]
      · rw [ci, ri] at q
        have bb : bt (wlr R m i) m = true := by
          by_cases y : bt (wlr R m i) m = true
          · exact y
          · rw [if_neg (fun x => y ((bitu _ (by omega)).mp x))] at q
            exact absurd rfl q
        rw [nI_s, ci, cm, ri, rm]
        refine ih2 _ (f3_15 fN) (fun w hw => ?_)
        rw [gxs]
        by_cases z : w = i
        · rw [if_pos z, if_pos (by omega), z, e1, if_pos ((bit1 _ (by omega)).mpr bb)]
        · rw [if_neg z, rN w hw]
          by_cases z2 : w < i
          · rw [if_pos z2, if_pos (by omega)]
          · rw [if_neg z2, if_neg (by omega)]
    · have lN := ld_st (f3_st fN) l
      refine vLi_findRings_12 hl.1 (lr15 lN.1) ⟨fun q => absurd (ld_se lN) q, fun _ => ?_, fun q => absurd (ld_se lN) q⟩
      rw [nI_s]
      exact ih N fN (fun w hw => by rw [rN w hw, if_pos hw])
  · have lN := ld_st (f3_st fN) l
    refine vLi_findRings_2 hl.1 ⟨fun _ => k2 _ (f3_12 (Or.inl rfl) fN) (fun w hw => by rw [giR _ _ _ _ _ _ (by omega)]; exact rN w hw) ?_, fun q => absurd (ld_se lN) q⟩
    rw [gxs, if_pos rfl]
end EQL
end MG58
section MG59
/-! ===== words speak: pure, and the class ===== -/
def anyb (f : Nat → Bool) : Nat → Bool
  | 0 => false
  | n + 1 => anyb f n || f n
theorem anyb_t (f : Nat → Bool) : ∀ n, anyb f n = true ↔ ∃ v, v < n ∧ f v = true
  | 0 => by
    rw [anyb]
    exact ⟨fun h => absurd h (by decide), fun ⟨v, h, _⟩ => absurd h (by omega)⟩
  | n + 1 => by
    rw [anyb, Bool.or_eq_true, anyb_t f n]
    constructor
    · rintro (⟨v, h1, h2⟩ | h)
      · exact ⟨v, by omega, h2⟩
      · exact ⟨n, by omega, h⟩
    · rintro ⟨v, h1, h2⟩
      by_cases e : v = n
      · subst e; exact Or.inr h2
      · exact Or.inl ⟨v, by omega, h2⟩
def csw (g : Nat → Nat → Int32) (w c : Nat) : Bool := decide ((nI c &&& g w 3) = g w 3 ∧ (nI c &&& g w 4) = 0)
def lky (g : Nat → Nat → Int32) (Y : Nat → Nat → Bool) (w : Nat) : Bool := anyb (fun v => bt (fowg g w) v && Y v (g w 3).toNatClampNeg) w
def sayY (g : Nat → Nat → Int32) (Y Z : Nat → Nat → Bool) (w c : Nat) : Bool :=
  if g w 0 = 4 then csw g w c && (lky g Y w && !lky g Z w) else if g w 0 = 0 ∨ g w 0 = 5 then csw g w c && decide (g w 5 = 1) else if g w 0 = 2 then Z (g w 6).toNatClampNeg c else Y (g w 6).toNatClampNeg c
def sayN (g : Nat → Nat → Int32) (Y Z : Nat → Nat → Bool) (w c : Nat) : Bool :=
  if g w 0 = 4 then csw g w c && (lky g Z w && !lky g Y w) else if g w 0 = 0 ∨ g w 0 = 5 then csw g w c && decide (¬ g w 5 = 1) else if g w 0 = 2 then Y (g w 6).toNatClampNeg c else Z (g w 6).toNatClampNeg c
def upb (Y : Nat → Nat → Bool) (w : Nat) (f : Nat → Bool) (v : Nat) : Nat → Bool := if v = w then f else Y v
/-- a word's row, as it must stand for speaking: its sort, what it follows, its marks, its answer -/
def RS6 (g : Nat → Nat → Int32) (D w : Nat) : Prop := (((g w 0 = 0 ∨ g w 0 = 4 ∨ g w 0 = 5) ∧ g w 6 = -4) ∨ (¬ (g w 0 = 0 ∨ g w 0 = 4 ∨ g w 0 = 5) ∧ ∃ f, f < D ∧ f ≠ w ∧ g w 6 = nI f)) ∧ (∃ m, m < 64 ∧ g w 3 = nI m) ∧ ((g w 0 = 0 ∨ g w 0 = 5) → (g w 5 = 0 ∨ g w 5 = 1))
/-- what words say, as the class has it -/
def CY (N : Mm) (r : Nat) (Y Z : Nat → Nat → Bool) : Prop := ∀ c, c < 64 → ∀ v, v < 32 → bt (gi N (r + 205) c) v = Y v c ∧ bt (gi N (r + 269) c) v = Z v c
/-- what a word's speaking may change -/
def F4 (r w : Nat) (M N : Mm) : Prop := gr N = gr M ∧ gl N = gl M ∧ (∀ a, a ≠ r + 205 → a ≠ r + 269 → a ≠ r + 776 + 64 * w → gi N a = gi M a) ∧ ∀ k, k ≠ 10 → gi N (r + 776 + 64 * w) k = gi M (r + 776 + 64 * w) k
theorem f4_rf (r w : Nat) (M : Mm) : F4 r w M M := ⟨rfl, rfl, fun _ _ _ _ => rfl, fun _ _ => rfl⟩
theorem f4_st {r w : Nat} {M N : Mm} (f : F4 r w M N) (hw : w < 24) : ST r M N := by
  obtain ⟨f1, f2, f3, f4⟩ := f
  refine ⟨f1, f2, by rw [f3 r (by omega) (by omega) (by omega)], fun v hv i hi => ?_, fun a ha => f3 a (by omega) (by omega) (by omega), f3 _ (by omega) (by omega) (by omega)⟩
  by_cases e : v = w
  · subst e; exact f4 i (by omega)
  · rw [f3 _ (by omega) (by omega) (by omega)]
theorem f4_si {r w x j : Nat} {M N : Mm} {v : Int32} (h : x = r + 205 ∨ x = r + 269) (f : F4 r w M N) : F4 r w M (si N x j v) := by
  obtain ⟨f1, f2, f3, f4⟩ := f
  refine ⟨f1, f2, fun a n1 n2 n3 => ?_, fun k hk => ?_⟩
  · rw [gi_ne (by omega)]; exact f3 a n1 n2 n3
  · rw [giR _ _ _ _ _ _ (by omega)]; exact f4 k hk
/-- the steps of a word that speaks -/
def S10 (M N : Mm) (r : Nat) (g : Nat → Nat → Int32) (w : Nat) : Prop := (g w 6 = -4 → gi N (r + 776 + 64 * w) 10 = gi M (r + 776 + 64 * w) 10) ∧ ∀ f, f < 24 → g w 6 = nI f → gi N (r + 776 + 64 * w) 10 = gi M (r + 776 + 64 * f) 10 + 1
theorem s10_si {M N : Mm} {r : Nat} {g : Nat → Nat → Int32} {w x j : Nat} {v : Int32} (h : x < r + 776) (s : S10 M N r g w) : S10 M (si N x j v) r g w := by
  unfold S10
  rw [giR _ _ _ _ _ _ (by omega)]
  exact s
def vl2 (y z : Bool) : Int32 := if y = true then 1 else if z = true then 0 else -4
theorem fsv (y z : Bool) (h : ¬ (y = true ∧ z = true)) : (vl2 y z = 1 ↔ y = true) ∧ (vl2 y z = 0 ↔ z = true) ∧ (vl2 y z = -4 ↔ y = false ∧ z = false) ∧ (¬ vl2 y z = -4 → ((1 - vl2 y z = 1 ↔ z = true) ∧ (1 - vl2 y z = 0 ↔ y = true))) := by
  cases y <;> cases z
  · decide
  · decide
  · decide
  · exact absurd ⟨rfl, rfl⟩ h
theorem nz_b {x : Int32} : ¬ x = 0 ↔ ∃ v, v < 32 ∧ bt x v = true := by
  constructor
  · intro h
    by_cases e : ∃ v, v < 32 ∧ bt x v = true
    · exact e
    · exfalso
      refine h (b_ext (fun i hi => ?_))
      rw [b_0]
      by_cases z : bt x i = true
      · exact absurd ⟨i, hi, z⟩ e
      · exact Bool.not_eq_true _ ▸ z
  · rintro ⟨v, -, hv⟩ z
    rw [z, b_0] at hv
    exact absurd hv (by decide)
section EQM
variable {M : Mm} {r D : Nat}
theorem eS_speak {K : Mm → Prop} {g : Nat → Nat → Int32} {Y Z : Nat → Nat → Bool} {w : Nat} (l : LD M r D) (hw : w < D) (eg : ∀ i, i < 7 → gi M (r + 776 + 64 * w) i = g w i) (rs : RS6 g D w) (fo : gi M (r + 651) w = fowg g w) (cy : CY M r Y Z) (fb : ∀ v, v < 32 → bt (fowg g w) v = true → g w 0 = 4 → v < w) (y0 : ∀ c, Y w c = false ∧ Z w c = false) (xc : ∀ v c, ¬ (Y v c = true ∧ Z v c = true))
    (h : ∀ N, F4 r w M N → CY N r (upb Y w (sayY g Y Z w)) (upb Z w (sayN g Y Z w)) → S10 M N r g w → K N) : CV mLi_speak [.ref r, .int (nI w)] M K := by
  have hl := l.1
  have hD := l.2.2.1
  have hw24 : w < 24 := by omega
  have cw : (nI w).toNatClampNeg = w := ncl (by omega)
  obtain ⟨r6, ⟨m, hm, em⟩, r5⟩ := rs
  have vm : vp_in (gi M (r + 776 + 64 * w) 3) 64 := by rw [eg 3 (by decide), em]; exact vin hm (by decide)
  -- the cases, one after the other
  have b84 : ∀ N v, F4 r w M N → S10 M N r g w → CY N r Y Z → (g w 6 = -4 → ∀ c, c < 64 → (sayY g Y Z w c = true ↔ csw g w c = true ∧ v = 1) ∧ (sayN g Y Z w c = true ↔ csw g w c = true ∧ v = 0)) → X mLi_speak 84 [(0, .ref r), (1, .int (nI w)), (2, .ref (r + 776 + 64 * w)), (3, .int v), (4, .int 0)] [] N (mC mLi_speak, mS mLi_speak) (QV K) := by
    intro N v fN sN cN hv
    refine lp 64 (P := fun c => ∀ N, F4 r w M N → S10 M N r g w → (∀ c', c' < 64 → ∀ u, u < 32 → bt (gi N (r + 205) c') u = (if c' < c then upb Y w (sayY g Y Z w) u c' else Y u c') ∧ bt (gi N (r + 269) c') u = (if c' < c then upb Z w (sayN g Y Z w) u c' else Z u c')) → X mLi_speak 84 [(0, .ref r), (1, .int (nI w)), (2, .ref (r + 776 + 64 * w)), (3, .int v), (4, .int (nI c))] [] N (mC mLi_speak, mS mLi_speak) (QV K)) (fun c hc ih N fN sN bN => ?_) (fun N fN sN bN => ?_) N fN sN (fun c' hc' u hu => by rw [if_neg (Nat.not_lt_zero _), if_neg (Nat.not_lt_zero _)]; exact cN c' hc' u hu)
    · have lN := ld_st (f4_st fN hw24) l
      have cc : (nI c).toNatClampNeg = c := ncl (by omega)
      have row_ : ∀ k, k < 7 → gi N (r + 776 + 64 * w) k = g w k := fun k hk => by rw [fN.2.2.2 k (by omega)]; exact eg k hk
      have b115 : ∀ x, (x = 1 ↔ sayY g Y Z w c = true) → (x = 0 ↔ sayN g Y Z w c = true) → X mLi_speak 115 [(0, .ref r), (1, .int (nI w)), (2, .ref (r + 776 + 64 * w)), (3, .int v), (4, .int (nI c))] [.int x] N (mC mLi_speak, mS mLi_speak) (QV K) := by
        intro x ex1 ex0
        have vc := vin hc (show 64 < 2 ^ 31 by decide)
        refine vLi_speak_115 hl.1 (lr3 lN.1) (lr4 lN.1) ⟨vc, vc, vc, vc, ?_⟩
        have e2 : ∀ y, gi (si N (r + 205) c y) (r + 269) c = gi N (r + 269) c := fun y => giR _ _ _ _ _ _ (by omega)
        rw [nI_s, cc, e2]
        refine ih _ (f4_si (Or.inr rfl) (f4_si (Or.inl rfl) fN)) (s10_si (by omega) (s10_si (by omega) sN)) (fun c' hc' u hu => ?_)
        obtain ⟨b1, b2⟩ := bN c' hc' u hu
        rw [giR _ _ _ _ _ _ (show r + 205 ≠ r + 269 by omega), gxs, gxs, giR _ _ _ _ _ _ (show r + 269 ≠ r + 205 by omega)]
        by_cases e : c' = c
        · subst e
          rw [if_neg (Nat.lt_irrefl _)] at b1 b2
          rw [if_pos rfl, if_pos rfl, if_pos (Nat.lt_succ_self _), if_pos (Nat.lt_succ_self _)]
          unfold upb
          constructor
          · rw [Bool.eq_iff_iff, bt_orp _ (by omega) hu, b1]
            by_cases eu : u = w
            · subst eu
              rw [if_pos rfl, (y0 c').1, ex1]
              exact ⟨fun q => q.elim (fun q => absurd q (by decide)) (fun q => q.1), fun q => Or.inr ⟨q, rfl⟩⟩
            · rw [if_neg eu]
              exact ⟨fun q => q.elim id (fun q => absurd q.2 eu), Or.inl⟩
          · rw [Bool.eq_iff_iff, bt_orp _ (by omega) hu, b2]
            by_cases eu : u = w
            · subst eu
              rw [if_pos rfl, (y0 c').2, ex0]
              exact ⟨fun q => q.elim (fun q => absurd q (by decide)) (fun q => q.1), fun q => Or.inr ⟨q, rfl⟩⟩
            · rw [if_neg eu]
              exact ⟨fun q => q.elim id (fun q => absurd q.2 eu), Or.inl⟩
        · rw [if_neg e, if_neg e, b1, b2]
          by_cases lc : c' < c
          · rw [if_pos lc, if_pos lc, if_pos (by omega), if_pos (by omega)]; exact ⟨rfl, rfl⟩
          · rw [if_neg lc, if_neg lc, if_neg (by omega), if_neg (by omega)]; exact ⟨rfl, rfl⟩
      refine vLi_speak_84 (wkk l w) hl.1 ⟨fun q => absurd q (nge rfl (by decide) hc), fun q => ?_, fun q => ?_⟩
      · have e6 : g w 6 = -4 := by
          rw [row_ 6 (by decide)] at q
          rcases r6 with z | ⟨-, f, hf, -, ef⟩
          · exact z.2
          · exfalso
            rw [ef] at q
            exact n0 f (by omega) q.2
        obtain ⟨k1, k0⟩ := hv e6 c hc
        refine call_of rfl (Nat.le_of_ble_eq_true rfl) rfl (vLi_ownSaying_0 (wkk l w) ?_)
        rw [row_ 3 (by decide), row_ 4 (by decide)]
        refine ⟨fun p => b115 _ ?_ ?_, fun p => b115 _ ?_ ?_⟩
        · have nc : ¬ csw g w c = true := fun z => by
            have z' := of_decide_eq_true z
            rcases p with p | p
            · exact p z'.1
            · exact p.2 z'.2
          exact ⟨fun z => absurd z (by decide), fun z => absurd (k1.mp z).1 nc⟩
        · have nc : ¬ csw g w c = true := fun z => by
            have z' := of_decide_eq_true z
            rcases p with p | p
            · exact p z'.1
            · exact p.2 z'.2
          exact ⟨fun z => absurd z (by decide), fun z => absurd (k0.mp z).1 nc⟩
        · have yc : csw g w c = true := decide_eq_true p
          exact ⟨fun z => k1.mpr ⟨yc, z⟩, fun z => (k1.mp z).2⟩
        · have yc : csw g w c = true := decide_eq_true p
          exact ⟨fun z => k0.mpr ⟨yc, z⟩, fun z => (k0.mp z).2⟩
      · rw [row_ 6 (by decide)] at q
        obtain ⟨nk, f, hf, fw, ef⟩ : ¬ (g w 0 = 0 ∨ g w 0 = 4 ∨ g w 0 = 5) ∧ ∃ f, f < D ∧ f ≠ w ∧ g w 6 = nI f := by
          rcases r6 with z | z
          · exfalso; rw [z.2] at q; exact q.2 (by decide)
          · exact z
        have cf6 : (g w 6).toNatClampNeg = f := by rw [ef]; exact ncl (by omega)
        have k4 : ¬ g w 0 = 4 := fun z => nk (Or.inr (Or.inl z))
        have k05 : ¬ (g w 0 = 0 ∨ g w 0 = 5) := fun z => nk (z.elim Or.inl (fun z => Or.inr (Or.inr z)))
        have eY : sayY g Y Z w c = if g w 0 = 2 then Z f c else Y f c := by unfold sayY; rw [if_neg k4, if_neg k05, cf6]
        have eN : sayN g Y Z w c = if g w 0 = 2 then Y f c else Z f c := by unfold sayN; rw [if_neg k4, if_neg k05, cf6]
        obtain ⟨b1, b2⟩ := bN c hc f (by omega)
        rw [if_neg (Nat.lt_irrefl _)] at b1 b2
        have sv : sav N r (g w 6) c = if Y f c = true then 1 else if Z f c = true then 0 else -4 := by
          unfold sav
          rw [ef]
          by_cases y1 : Y f c = true
          · rw [if_pos y1, if_pos ((bitu _ (by omega)).mpr (b1.trans y1))]
          · rw [if_neg y1, if_neg (fun z => y1 (b1.symm.trans ((bitu _ (by omega)).mp z)))]
            by_cases y2 : Z f c = true
            · rw [if_pos y2, if_pos ((bitu _ (by omega)).mpr (b2.trans y2))]
            · rw [if_neg y2, if_neg (fun z => y2 (b2.symm.trans ((bitu _ (by omega)).mp z)))]
        refine call_of rfl (Nat.le_of_ble_eq_true rfl) rfl (vLi_followedSaying_0 (wkk l w) hl.1 ?_)
        rw [row_ 6 (by decide)]
        refine sLi_saying lN.1 hc (vLi_followedSaying_9 (wkk l w) ?_)
        rw [sv, row_ 0 (by decide)]
        have ex := xc f c
        obtain ⟨t1, t2, t3, t4⟩ := fsv (Y f c) (Z f c) ex
        have vd : (if Y f c = true then (1 : Int32) else if Z f c = true then 0 else -4) = vl2 (Y f c) (Z f c) := rfl
        rw [vd]
        refine ⟨fun p => vLi_speak_105 (b115 _ ?_ ?_), fun p => vLi_speak_105 (b115 _ ?_ ?_)⟩
        · rw [eY]
          by_cases k2 : g w 0 = 2
          · rw [if_pos k2]
            have e4 : vl2 (Y f c) (Z f c) = -4 := p.elim id (fun p => absurd k2 p.2)
            have := t3.mp e4
            rw [e4, this.2]; decide
          · rw [if_neg k2]; exact t1
        · rw [eN]
          by_cases k2 : g w 0 = 2
          · rw [if_pos k2]
            have e4 : vl2 (Y f c) (Z f c) = -4 := p.elim id (fun p => absurd k2 p.2)
            have := t3.mp e4
            rw [e4, this.1]; decide
          · rw [if_neg k2]; exact t2
        · rw [eY, if_pos p.2]; exact (t4 p.1).1
        · rw [eN, if_pos p.2]; exact (t4 p.1).2
    · have lN := ld_st (f4_st fN hw24) l
      exact vLi_speak_84 (wkk l w) hl.1 ⟨fun _ => h N fN (fun c hc u hu => by have := bN c hc u hu; rwa [if_pos hc, if_pos hc] at this) sN, fun q => absurd (nself rfl) q.1, fun q => absurd (nself rfl) q.1⟩
  have b56 : ∀ v, (g w 6 = -4 → ∀ c, c < 64 → (sayY g Y Z w c = true ↔ csw g w c = true ∧ v = 1) ∧ (sayN g Y Z w c = true ↔ csw g w c = true ∧ v = 0)) → X mLi_speak 56 [(0, .ref r), (1, .int (nI w)), (2, .ref (r + 776 + 64 * w)), (3, .int v)] [] M (mC mLi_speak, mS mLi_speak) (QV K) := by
    intro v hv
    refine vLi_speak_56 (wkk l w) hl.1 (lr0 hl) ⟨fun q => vLi_speak_81 (b84 M v (f4_rf r w M) ⟨fun _ => rfl, fun f hf ef => ?_⟩ cy hv), fun q => ?_⟩
    · exfalso
      rw [eg 6 (by decide), ef] at q
      exact n0 f (by omega) q
    rw [eg 6 (by decide)] at q ⊢
    obtain ⟨nk, f, hf, fw, ef⟩ : ¬ (g w 0 = 0 ∨ g w 0 = 4 ∨ g w 0 = 5) ∧ ∃ f, f < D ∧ f ≠ w ∧ g w 6 = nI f := by
      rcases r6 with z | z
      · exfalso; rw [z.2] at q; exact q (by decide)
      · exact z
    refine ⟨by rw [ef]; exact vin (show f < 24 by omega) (by decide), r + 776 + 64 * f, by rw [ef]; exact ld_gw l (by omega), vLi_speak_81 (b84 _ v ⟨rfl, rfl, fun a _ _ n => gi_ne n, fun k hk => by rw [gxs, if_neg hk]⟩ ⟨fun z => ?_, fun f' hf' ef' => ?_⟩ (fun c hc u hu => ?_) hv)⟩
    · exact absurd (ef.symm.trans z) (nI4 (by omega))
    · have : f = f' := (ninj (by omega) (by omega)).mp (ef.symm.trans ef')
      subst this
      rw [gxs, if_pos rfl]
    rw [giR _ _ _ _ _ _ (by omega), giR _ _ _ _ _ _ (by omega)]; exact cy c hc u hu
  have e0 := eg 0 (by decide)
  have e3 := eg 3 (by decide)
  have c3 : (g w 3).toNatClampNeg = m := by rw [em]; exact ncl (by omega)
  refine call_of rfl (Nat.le_of_ble_eq_true rfl) rfl (vLi_speak_0 hl.1 (lr0 hl) (lr3 hl) (lr14 hl) (lr4 hl) ⟨ld_v l hw, r + 776 + 64 * w, ld_gw l (by omega), fun _ => vm, fun _ => ld_v l hw, fun _ => vm, fun _ => ld_v l hw, fun q => b56 _ (fun e6 c hc => ?_), fun q => sC_agreed (vLi_speak_55 (b56 _ (fun e6 c hc => ?_)))⟩)
  · rw [e0] at q
    have k05 : g w 0 = 0 ∨ g w 0 = 5 := by
      rcases r6 with z | ⟨-, f, hf, -, ef⟩
      · rcases z.1 with z | z | z
        · exact Or.inl z
        · exact absurd z q
        · exact Or.inr z
      · exact absurd (ef.symm.trans e6) (nI4 (by omega))
    rw [eg 5 (by decide)]
    unfold sayY sayN
    rw [if_neg q, if_pos k05, if_neg q, if_pos k05, Bool.and_eq_true, Bool.and_eq_true, decide_eq_true_eq, decide_eq_true_eq]
    refine ⟨Iff.rfl, ⟨fun z => ⟨z.1, (r5 k05).resolve_right z.2⟩, fun z => ⟨z.1, fun y => ?_⟩⟩⟩
    rw [z.2] at y
    exact absurd y (by decide)
  · rw [e0] at q
    rw [e3, c3, cw, fo]
    have ly : ∀ (x : Int32) (Q : Nat → Nat → Bool), (∀ v, v < 32 → bt x v = Q v m) → (¬ (x &&& fowg g w) = 0 ↔ lky g Q w = true) := by
      intro x Q hx
      rw [nz_b]
      unfold lky
      rw [anyb_t, c3]
      constructor
      · rintro ⟨v, hv, e⟩
        rw [b_and, Bool.and_eq_true, hx v hv] at e
        exact ⟨v, fb v hv e.2 q, by rw [e.2, e.1]; rfl⟩
      · rintro ⟨v, hv, e⟩
        rw [Bool.and_eq_true] at e
        exact ⟨v, by omega, by rw [b_and, hx v (by omega), e.1, e.2]; rfl⟩
    have lY := ly (gi M (r + 205) m) Y (fun v hv => (cy m hm v hv).1)
    have lZ := ly (gi M (r + 269) m) Z (fun v hv => (cy m hm v hv).2)
    unfold sayY sayN
    rw [if_pos q, if_pos q]
    by_cases a : (gi M (r + 205) m &&& fowg g w) = 0
    · have y0 : lky g Y w = false := by
        by_cases z : lky g Y w = true
        · exact absurd a (lY.mpr z)
        · exact Bool.not_eq_true _ ▸ z
      by_cases b : (gi M (r + 269) m &&& fowg g w) = 0
      · have z0 : lky g Z w = false := by
          by_cases z : lky g Z w = true
          · exact absurd b (lZ.mpr z)
          · exact Bool.not_eq_true _ ▸ z
        rw [if_pos b, if_pos a, y0, z0]
        cases csw g w c <;> decide
      · rw [if_neg b, if_pos a, y0, lZ.mp b]
        cases csw g w c <;> decide
    · by_cases b : (gi M (r + 269) m &&& fowg g w) = 0
      · have z0 : lky g Z w = false := by
          by_cases z : lky g Z w = true
          · exact absurd b (lZ.mpr z)
          · exact Bool.not_eq_true _ ▸ z
        rw [if_pos b, if_neg a, z0, lY.mp a]
        cases csw g w c <;> decide
      · rw [if_neg b, if_neg a, lZ.mp b, lY.mp a]
        cases csw g w c <;> decide
end EQM
end MG59
