/-! ===== a rule as the lines tell it, on both sides ===== -/
section EQB
variable {M : Mm} {T : Nat → Int32} {t : Nat} {a : Tst} {r : Rst}
/-- one of three names -/
def ooc (T : Nat → Int32) (t : Nat) (x y z : Int32) (r : Rst) : Rst := wts (if nmk T t r = x ∨ nmk T t r = y ∨ nmk T t r = z then 1 else 0) 2 (nam r)
theorem oos_d {x y z : Int32} : oos T t x y z r = nxs T t (ooc T t x y z r) := rfl
theorem ooc_f {x y z : Int32} (h : ¬ r.2.2.2.2.1 = 0) : ooc T t x y z r = r := by unfold ooc; rw [nam_f h]; exact wts_f h
theorem oos_f {x y z : Int32} (h : ¬ r.2.2.2.2.1 = 0) : oos T t x y z r = r := by rw [oos_d, ooc_f h, nxs_f h]
theorem dmc_f (h : ¬ r.2.2.2.2.1 = 0) : dmc T t r = r := by unfold dmc; rw [nam_f h]; exact wts_f h
theorem rms_f (h : ¬ r.2.2.2.2.1 = 0) : rms T t r = r := by rw [rms_d, dmc_f h, nxs_f h]
theorem tk1_f {j : Nat} (h : ¬ a.2.2.2.2.1 = 0) : tk1 T t j a = a := by
  unfold tk1
  split
  · rfl
  · exact tfl_f h
theorem rl_one {j : Nat} {x y z : Int32} {NLj : List (List Int32)} (hr : r.2.1 ≤ 400) (h : RL a r) (am : ∀ s : Tst, amo T t j s = fnd (tkl T t s.2.1 (s.2.2.1 - s.2.1)) NLj 0) (fq : ∀ k, (fnd k NLj 0 = -1 ∧ ∀ c ∈ ([x, y, z] : List Int32), ¬ nmF k = c) ∨ ∃ i, i < 3 ∧ fnd k NLj 0 = nI i ∧ ([x, y, z] : List Int32)[i]? = some (nmF k)) :
    RL (tk1 T t j a) (ooc T t x y z r) ∧ ((tk1 T t j a).2.2.2.2.1 = 0 → (∃ i, i < 3 ∧ tk1v T t j a = nI i ∧ ([x, y, z] : List Int32)[i]? = some (nmk T t r)) ∧ tk1 T t j a = a ∧ ooc T t x y z r = r ∧ a.2.2.2.2.1 = 0) := by
  by_cases f : a.2.2.2.2.1 = 0
  · have fr : r.2.2.2.2.1 = 0 := h.1.symm.trans f
    rcases rl_nam h f with ⟨k2, en, s1⟩ | ⟨k2, hn, fn⟩
    · have ek : nmk T t r = nmF (tkl T t r.1 (r.2.1 - r.1)) := by unfold nmk; rw [en, if_pos fr, nmv_d T t _ _ hr]
      have ea : tk1n T t j a = fnd (tkl T t r.1 (r.2.1 - r.1)) NLj 0 := by unfold tk1n; rw [if_pos k2, am, rl_tok h f]
      rcases fq (tkl T t r.1 (r.2.1 - r.1)) with ⟨e, n⟩ | ⟨i, hi, e, c⟩
      · have e1 : tk1 T t j a = tfl 2 a := by unfold tk1; rw [ea, e, if_neg (by decide)]
        have nc : ¬ (nmk T t r = x ∨ nmk T t r = y ∨ nmk T t r = z) := by
          rw [ek]
          rintro (q | q | q)
          · exact n x (List.mem_cons_self ..) q
          · exact n y (List.mem_cons_of_mem _ (List.mem_cons_self ..)) q
          · exact n z (List.mem_cons_of_mem _ (List.mem_cons_of_mem _ (List.mem_cons_self ..))) q
        have e2 : ooc T t x y z r = wts 0 2 r := by unfold ooc; rw [if_neg nc, en]
        rw [e1, e2]
        exact ⟨rl_fail h f (by decide), fun q => absurd q (tfl_ne (by decide))⟩
      · have p0 : (0 : Int32) ≤ nI i := nI_pos' (by omega)
        have e1 : tk1 T t j a = a := by unfold tk1; rw [ea, e, if_pos p0]
        have ev : tk1v T t j a = nI i := by unfold tk1v; rw [ea, e, if_pos p0]
        rw [← ek] at c
        have cc : nmk T t r = x ∨ nmk T t r = y ∨ nmk T t r = z := by
          match i, hi, c with
          | 0, _, c => exact Or.inl (Option.some.inj c).symm
          | 1, _, c => exact Or.inr (Or.inl (Option.some.inj c).symm)
          | 2, _, c => exact Or.inr (Or.inr (Option.some.inj c).symm)
        have e2 : ooc T t x y z r = r := by unfold ooc; rw [if_pos cc, en]; exact wts_t (by decide)
        rw [e1, e2]
        exact ⟨h, fun _ => ⟨⟨i, hi, ev, c⟩, rfl, rfl, f⟩⟩
    · have e1 : tk1 T t j a = tfl 2 a := by unfold tk1 tk1n; rw [if_neg k2, if_neg (by decide)]
      have er : ooc T t x y z r = nam r := by unfold ooc; exact wts_f fn
      rw [e1, er]
      exact ⟨hn, fun q => absurd q (tfl_ne (by decide))⟩
  · have fr : ¬ r.2.2.2.2.1 = 0 := fun q => f (h.1.trans q)
    rw [tk1_f f, ooc_f fr]
    exact ⟨h, fun q => absurd q f⟩
end EQB
/-- state, rows told, rows -/
abbrev QSt : Type := Rst × (Nat → Int32) × (Nat → Int32)
section EQB2
variable (T : Nat → Int32) (t : Nat)
def qlS (ρ : QSt) : QSt :=
  if row (lnk T t ρ.1) = -4 then (wts 0 2 ρ.1, ρ.2)
  else if ¬ (ru3 T t ρ.2.1 ρ.1).2.2.2.2.1 = 0 then (ru3 T t ρ.2.1 ρ.1, ρ.2)
  else (ru3 T t ρ.2.1 ρ.1, up1 ρ.2.1 (row (lnk T t ρ.1)).toNatClampNeg 1, up1 ρ.2.2 (row (lnk T t ρ.1)).toNatClampNeg (ruv T t ρ.2.1 ρ.1))
def qpS : Nat → QSt → Nat → QSt × Nat
  | 0, ρ, l => (ρ, l)
  | n + 1, ρ, l => if ¬ ρ.1.2.2.2.2.1 = 0 ∨ ρ.1.2.2.1 = 0 then (ρ, l) else qpS n (qlS T t ρ) (l + 1)
theorem qpS_stop {n l : Nat} {ρ : QSt} (h : ¬ ρ.1.2.2.2.2.1 = 0 ∨ ρ.1.2.2.1 = 0) : qpS T t (n + 1) ρ l = (ρ, l) := by
  show (if ¬ ρ.1.2.2.2.2.1 = 0 ∨ ρ.1.2.2.1 = 0 then (ρ, l) else qpS T t n (qlS T t ρ) (l + 1)) = _
  exact if_pos h
theorem qpS_go {n l : Nat} {ρ : QSt} (h : ¬ (¬ ρ.1.2.2.2.2.1 = 0 ∨ ρ.1.2.2.1 = 0)) : qpS T t (n + 1) ρ l = qpS T t n (qlS T t ρ) (l + 1) := by
  show (if ¬ ρ.1.2.2.2.2.1 = 0 ∨ ρ.1.2.2.1 = 0 then (ρ, l) else qpS T t n (qlS T t ρ) (l + 1)) = _
  exact if_neg h
end EQB2
section EQB3
variable {M : Mm} {T : Nat → Int32} {t : Nat} {ρ : QSt}
theorem ql_1a (h : row (lnk T t ρ.1) = -4) : qlS T t ρ = (wts 0 2 ρ.1, ρ.2) := by unfold qlS; rw [if_pos h]
theorem ql_1b (h : ¬ row (lnk T t ρ.1) = -4) (f : ¬ (ru3 T t ρ.2.1 ρ.1).2.2.2.2.1 = 0) : qlS T t ρ = (ru3 T t ρ.2.1 ρ.1, ρ.2) := by unfold qlS; rw [if_neg h, if_pos f]
theorem ql_1c (h : ¬ row (lnk T t ρ.1) = -4) (f : (ru3 T t ρ.2.1 ρ.1).2.2.2.2.1 = 0) : qlS T t ρ = (ru3 T t ρ.2.1 ρ.1, up1 ρ.2.1 (row (lnk T t ρ.1)).toNatClampNeg 1, up1 ρ.2.2 (row (lnk T t ρ.1)).toNatClampNeg (ruv T t ρ.2.1 ρ.1)) := by unfold qlS; rw [if_neg h, if_neg (fun q => q f)]
theorem ql_1 (h : ¬ row (lnk T t ρ.1) = -4) : (qlS T t ρ).1 = ru3 T t ρ.2.1 ρ.1 := by
  by_cases f : (ru3 T t ρ.2.1 ρ.1).2.2.2.2.1 = 0
  · rw [ql_1c h f]
  · rw [ql_1b h f]
theorem wts02 {s : Rst} {k : Int32} (hk : ¬ k = 0) : ¬ (wts 0 k s).2.2.2.2.1 = 0 := by
  by_cases z : s.2.2.2.2.1 = 0
  · unfold wts; rw [if_pos ⟨rfl, z⟩]; exact hk
  · rw [wts_f z]; exact z
/-- a line without a fault tells a row -/
theorem ql_row (f : (qlS T t ρ).1.2.2.2.2.1 = 0) : ¬ row (lnk T t ρ.1) = -4 ∧ (ru3 T t ρ.2.1 ρ.1).2.2.2.2.1 = 0 := by
  by_cases h : row (lnk T t ρ.1) = -4
  · rw [ql_1a h] at f
    exact absurd f (wts02 (by decide))
  · rw [ql_1 h] at f
    exact ⟨h, f⟩
theorem ql_go (f : (qlS T t ρ).1.2.2.2.2.1 = 0) : ρ.1.2.1 < (qlS T t ρ).1.2.1 := by
  obtain ⟨h, z⟩ := ql_row f
  rw [ql_1 h]
  exact go_ru3 z
theorem row_lt (k : Int32) : (row k).toNatClampNeg < 7 := by
  rcases row_c k with q | ⟨-, q⟩ | ⟨-, q⟩ | ⟨-, q⟩ | ⟨-, q⟩ | ⟨-, q⟩ | ⟨-, q⟩ | ⟨-, q⟩ <;> rw [q] <;> decide
theorem ru1_cg {c c' : Nat → Int32} {s : Rst} (h : ∀ i, i < 7 → c i = c' i) : ru1 T t c s = ru1 T t c' s := by
  unfold ru1; rw [h _ (row_lt _)]
theorem ru3_cg {c c' : Nat → Int32} {s : Rst} (h : ∀ i, i < 7 → c i = c' i) : ru3 T t c s = ru3 T t c' s := by
  have e := ru1_cg (T := T) (t := t) (s := s) h
  unfold ru3 ru2; rw [e]
theorem ruv_cg {c c' : Nat → Int32} {s : Rst} (h : ∀ i, i < 7 → c i = c' i) : ruv T t c s = ruv T t c' s := by
  have e := ru1_cg (T := T) (t := t) (s := s) h
  unfold ruv; rw [e]
/-- the head that is told is a doctor or none -/
def hdS (ρ : QSt) : Prop := ρ.2.2 4 = -4 ∨ ∃ e, e < 8 ∧ ρ.2.2 4 = nI e
theorem ql_hd (hd : hdS ρ) (f : (qlS T t ρ).1.2.2.2.2.1 = 0) : hdS (qlS T t ρ) := by
  obtain ⟨h, z⟩ := ql_row f
  rw [ql_1c h z]
  unfold hdS
  dsimp only
  unfold up1
  by_cases q : 4 = (row (lnk T t ρ.1)).toNatClampNeg
  · rw [if_pos q]
    have k15 : lnk T t ρ.1 = 15 := by
      rcases row_c (lnk T t ρ.1) with e | ⟨-, e⟩ | ⟨-, e⟩ | ⟨-, e⟩ | ⟨-, e⟩ | ⟨k, e⟩ | ⟨-, e⟩ | ⟨-, e⟩
      · rw [e] at q; exact absurd q (by decide)
      · rw [e] at q; exact absurd q (by decide)
      · rw [e] at q; exact absurd q (by decide)
      · rw [e] at q; exact absurd q (by decide)
      · rw [e] at q; exact absurd q (by decide)
      · exact k
      · rw [e] at q; exact absurd q (by decide)
      · rw [e] at q; exact absurd q (by decide)
    have d1 : ruv T t ρ.2.1 ρ.1 = rdv T t (ru1 T t ρ.2.1 ρ.1) := by
      unfold ruv; rw [if_neg (by rw [k15]; decide), if_neg (by rw [k15]; decide), if_neg (by rw [k15]; decide), if_neg (by rw [k15]; decide), if_pos k15]
    have d2 : ru2 T t ρ.2.1 ρ.1 = rds T t (ru1 T t ρ.2.1 ρ.1) := by
      unfold ru2; rw [if_neg (by rw [k15]; decide), if_neg (by rw [k15]; decide), if_neg (by rw [k15]; decide), if_neg (by rw [k15]; decide), if_pos k15]
    rw [d1]
    unfold ru3 at z
    have z2 := (eln_ok z).2
    rw [d2] at z2
    obtain ⟨-, x, y, -⟩ := rds_ok z2
    obtain ⟨j, hj, e⟩ := rngL (c := 7) (n := 7) rfl (by decide) x y
    exact Or.inr ⟨j, hj, e⟩
  · rw [if_neg q]; exact hd
/-- the beginning of a rule -/
def qS0 (T : Nat → Int32) (t : Nat) (x v p : Int32) : QSt := (nxs T t (0, 0, x, v, 0, p), (fun _ => 0), dv)
/-- the reference's draft of a rule -/
def MUq (N : Mm) (ρ : QSt) : Prop := (∀ i, i < 7 → gi N 6745 i = ρ.2.1 i) ∧ ∀ i, i < 7 → gi N 6671 i = ρ.2.2 i
theorem nM_qlS {K : Mm → Prop} (rd : RD M T t ρ.1) (z0 : ρ.1.2.2.2.2.1 = 0) (mu : MUq M ρ) (h : ∀ N, PR M N → RD N T t (qlS T t ρ).1 → ((qlS T t ρ).1.2.2.2.2.1 = 0 → MUq N (qlS T t ρ)) → K N) : CV mM_readRule [.ref 6027] M K := by
  have c3 : ru3 T t (gi M 6745) ρ.1 = ru3 T t ρ.2.1 ρ.1 := ru3_cg mu.1
  have cv : ruv T t (gi M 6745) ρ.1 = ruv T t ρ.2.1 ρ.1 := ruv_cg mu.1
  refine nM_readRule rd z0 (fun N u pr rN nf q1 q2 => ?_) (fun N O P i ei hi pN pO pP rP z => ?_)
  · by_cases q : row (lnk T t ρ.1) = -4
    · have e := q1 q
      rw [if_pos q] at e
      have eq : (qlS T t ρ).1 = u := by rw [ql_1a q, e]
      exact h N pr (by rw [eq]; exact rN) (fun y => absurd (by rw [← eq]; exact y) nf)
    · have e := q2 q
      have eq : (qlS T t ρ).1 = u := by rw [ql_1 q, e, c3]
      exact h N pr (by rw [eq]; exact rN) (fun y => absurd (by rw [← eq]; exact y) nf)
  · rw [c3] at rP z
    rw [cv] at pP
    have q : ¬ row (lnk T t ρ.1) = -4 := by rw [ei]; exact nI4 (by omega)
    have ci : (row (lnk T t ρ.1)).toNatClampNeg = i := by rw [ei]; exact ncl (by omega)
    refine h P (pr_tr (pr_pf pN) (pr_tr (pr_si (Or.inr rfl)) (pr_tr (pr_pf pO) (pr_tr (pr_si (Or.inl rfl)) (pr_pf pP))))) (by rw [ql_1 q]; exact rP) (fun _ => ?_)
    rw [ql_1c q z, ci]
    generalize ruv T t ρ.2.1 ρ.1 = v at pP ⊢
    generalize ru3 T t ρ.2.1 ρ.1 = s3
    unfold MUq
    dsimp only
    refine ⟨fun j hj => ?_, fun j hj => ?_⟩
    · rw [pP.2.2.1 6745 (by decide), gi_ne (by decide), pO.2.2.1 6745 (by decide), gxs, pN.2.2.1 6745 (by decide)]
      unfold up1
      by_cases e : j = i
      · rw [if_pos e, if_pos e]
      · rw [if_neg e, if_neg e]; exact mu.1 j hj
    · rw [pP.2.2.1 6671 (by decide), gxs, pO.2.2.1 6671 (by decide), gi_ne (by decide), pN.2.2.1 6671 (by decide)]
      unfold up1
      by_cases e : j = i
      · rw [if_pos e, if_pos e]
      · rw [if_neg e, if_neg e]; exact mu.2 j hj
/-- the reference's rule, exactly -/
theorem eM_rule {K : Int32 → Mm → Prop} {x0 v0 p0 : Int32} (tp : TP M T t) (hx : gi M 6027 14 = x0) (hv : gi M 6027 15 = v0) (hp : gi M 6027 17 = p0)
    (h1 : ∀ N, NR M N → gi N 6543 = gi M 6543 → gi N 6027 11 = 0 → ¬ (qpS T t 401 (qS0 T t x0 v0 p0) 0).1.1.2.2.2.2.1 = 0 → gi N 6027 16 = (qpS T t 401 (qS0 T t x0 v0 p0) 0).1.1.2.2.2.2.1 → gi N 6027 17 = (qpS T t 401 (qS0 T t x0 v0 p0) 0).1.1.2.2.2.2.2 → K ((-10) - (qpS T t 401 (qS0 T t x0 v0 p0) 0).1.1.2.2.2.2.2) N)
    (h3 : ∀ N, NR M N → HD N → gi N 6027 11 = 0 → (qpS T t 401 (qS0 T t x0 v0 p0) 0).1.1.2.2.2.2.1 = 0 → gi N 6027 16 = 0 → (∀ i, i < 7 → gi N 6543 i = (qpS T t 401 (qS0 T t x0 v0 p0) 0).1.2.2 i) → K (nI (qpS T t 401 (qS0 T t x0 v0 p0) 0).2) N) : CI mM_rule [.ref 6027] M K := by
  have hm := tp.1
  have ht := tp.2.2.1
  refine call_of rfl (Nat.le_of_ble_eq_true rfl) rfl (vM_rule_0 rfl (sM_firstRule (mr_w hm rfl) (vM_rule_16 rfl ?_)))
  generalize eA : fu0 (si (si M 6027 16 0) 6027 12 0) = A
  have gA : ∀ a, ¬ (a = 6027 ∨ a = 6671 ∨ a = 6745) → gi A a = gi M a := by
    intro a ha
    funext k
    rw [← eA]; unfold fu0
    rw [rwmR _ _ _ _ _ _ (fun e => ha (by omega)), flR _ _ _ _ _ _ (fun e => ha (by omega)), giR _ _ _ _ _ _ (fun e => ha (by omega)), giR _ _ _ _ _ _ (fun e => ha (by omega))]
  have fA : ∀ k, k ≠ 12 → k ≠ 16 → gi A 6027 k = gi M 6027 k := by
    intro k c d
    rw [← eA]; unfold fu0
    rw [rwmR _ _ _ _ _ _ (by decide), flR _ _ _ _ _ _ (by decide), g6 _ _ _ _ c, g6 _ _ _ _ d]
  have fz : ∀ k, k = 12 ∨ k = 16 → gi A 6027 k = 0 := by
    intro k hk
    rw [← eA]; unfold fu0
    rw [rwmR _ _ _ _ _ _ (by decide), flR _ _ _ _ _ _ (by decide)]
    simp only [gi_si]
    rcases hk with rfl | rfl <;> simp
  have tA : ∀ i, i < 7 → gi A 6745 i = 0 := by
    intro i hi
    rw [← eA]; unfold fu0
    rw [rwmR _ _ _ _ _ _ (by decide), gi_fl, if_pos ⟨rfl, hi⟩]
  have dA : ∀ i, i < 7 → gi A 6671 i = dv i := by
    intro i hi
    rw [← eA]; unfold fu0
    rw [gi_rwm, if_pos ⟨rfl, hi⟩]
  have rA : gr A = gr M := by rw [← eA, gr_fu0]; rfl
  have lA : gl A = gl M := by rw [← eA]; rfl
  have tpA : TP A T t := ⟨mr_w hm rA, (fA 11 (by decide) (by decide)).trans tp.2.1, tp.2.2.1, (gA 6486 (by decide)).trans tp.2.2.2⟩
  have nrA : ∀ {N}, PR A N → NR M (si N 6027 11 0) ∧ gi (si N 6027 11 0) 6543 = gi M 6543 := by
    intro N pr
    refine ⟨⟨pr.1.trans rA, pr.2.1.trans lA, fun a ha => ?_, fun k hk => ?_⟩, ?_⟩
    · rw [gi_ne (fun e => ha (by omega)), pr.2.2.1 a (fun e => ha (by omega)), gA a (fun e => ha (by omega))]
    · rw [g6 _ _ _ _ (fun e => hk (by omega)), pr.2.2.2 k (fun e => hk (by omega)), fA k (fun e => hk (by omega)) (fun e => hk (by omega))]
    · rw [gi_ne (by decide), pr.2.2.1 _ (by decide), gA _ (by decide)]
  refine nM_next0 tpA (fz 12 (by decide)) (fz 16 (by decide)) (fun N pf rN => ?_)
  rw [fA 14 (by decide) (by decide), fA 15 (by decide) (by decide), fA 17 (by decide) (by decide), hx, hv, hp] at rN
  have mu0 : MUq N (qS0 T t x0 v0 p0) := ⟨fun i hi => by rw [pf.2.2.1 6745 (by decide)]; exact tA i hi, fun i hi => by rw [pf.2.2.1 6671 (by decide)]; exact dA i hi⟩
  have hd0 : hdS (qS0 T t x0 v0 p0) := Or.inl rfl
  have rN' : RD N T t (qS0 T t x0 v0 p0).1 := rN
  have pos0 : (qS0 T t x0 v0 p0).1.2.2.2.2.1 = 0 → ¬ (qS0 T t x0 v0 p0).1.2.2.1 = 0 → 0 < (qS0 T t x0 v0 p0).1.2.1 := fun f n => by
    have := (go_nxs (T := T) (t := t) (s := (0, 0, x0, v0, 0, p0))).2 f
    exact this.2 n
  clear rN
  generalize qS0 T t x0 v0 p0 = ρ0 at h1 h3 mu0 hd0 rN' pos0
  generalize eF : qpS T t 401 ρ0 0 = F at h1 h3
  have bout : ∀ N ρ v, PR A N → RD N T t ρ.1 → (ρ.1.2.2.2.2.1 = 0 → MUq N ρ ∧ hdS ρ) → (ρ, v) = F → ((gi (si N 6027 11 0) 6027 16) ≤ 0 → (X mM_rule 66 [(0, .ref 6027), (1, .int (nI v)), (2, .int 0)] [] (si N 6027 11 0) (mC mM_rule, mS mM_rule) (QI K))) ∧ (¬ (gi (si N 6027 11 0) 6027 16) ≤ 0 → (K ((-10) - (gi (si N 6027 11 0) 6027 17)) (si N 6027 11 0))) := by
    intro N ρ v pr rN lk e
    subst e
    have n16 := rN.2.2.2.2.2.1
    have n17 := rN.2.2.2.2.2.2.1
    have mN := rN.1.1
    have e16 : gi (si N 6027 11 0) 6027 16 = ρ.1.2.2.2.2.1 := (g6 _ _ _ _ (by decide)).trans n16
    have e17 : gi (si N 6027 11 0) 6027 17 = ρ.1.2.2.2.2.2 := (g6 _ _ _ _ (by decide)).trans n17
    obtain ⟨nr, e5⟩ := nrA pr
    by_cases z : ρ.1.2.2.2.2.1 = 0
    · obtain ⟨mu, hd⟩ := lk z
      refine ⟨fun _ => ?_, fun q => absurd (by rw [e16, z]; decide) q⟩
      generalize eB : si N 6027 11 0 = B at nr e5 e16 ⊢
      have mB : MR B := by rw [← eB]; exact mr_w mN rfl
      have b11 : gi B 6027 11 = 0 := by rw [← eB, g6s]
      have bv : ∀ i, i < 7 → gi B 6671 i = ρ.2.2 i := fun i hi => by rw [← eB, gi_ne (by decide)]; exact mu.2 i hi
      have key := lp 7 (P := fun i => X mM_rule 66 [(0, .ref 6027), (1, .int (nI v)), (2, .int (nI i))] [] (rwm B 6543 i (gi B 6671)) (mC mM_rule, mS mM_rule) (QI K)) (fun i hi ih => ?_) ?_
      · rw [rwm_0] at key; exact key
      · have mr := mr_w mB (gr_rwm B 6543 i (gi B 6671))
        refine vM_rule_66 rfl (mr18 mr) (mr20 mr) ⟨fun _ => vin hi (by decide), fun q => absurd q (nge rfl (by decide) hi), fun _ => ⟨vin hi (by decide), ?_⟩⟩
        rw [ncl (by omega), nI_s, rwmR _ _ _ _ _ _ (by decide), rwm_s]; exact ih
      · have mr := mr_w mB (gr_rwm B 6543 7 (gi B 6671))
        have gv : ∀ i, i < 7 → gi (rwm B 6543 7 (gi B 6671)) 6543 i = ρ.2.2 i := fun i hi => by rw [gi_rwm, if_pos ⟨rfl, hi⟩]; exact bv i hi
        refine vM_rule_66 rfl (mr18 mr) (mr20 mr) ⟨fun q => absurd (nself rfl) q, fun _ => h3 _ ?_ ?_ ?_ z ?_ gv, fun q => absurd (nself rfl) q⟩
        · refine ⟨nr.1, nr.2.1, fun a ha => ?_, fun k hk => ?_⟩
          · funext k
            rw [rwmR _ _ _ _ _ _ (fun e => ha (by omega)), nr.2.2.1 a ha]
          · rw [rwmR _ _ _ _ _ _ (by decide), nr.2.2.2 k hk]
        · unfold HD
          rw [gv 4 (by decide)]; exact hd
        · rw [rwmR _ _ _ _ _ _ (by decide), b11]
        · rw [rwmR _ _ _ _ _ _ (by decide), e16]; exact z
    · have nl : ¬ ρ.1.2.2.2.2.1 ≤ 0 := rN.2.2.2.2.2.2.2.2.2.resolve_left z
      refine ⟨fun q => absurd (by rw [← e16]; exact q) nl, fun _ => ?_⟩
      rw [e17]
      exact h1 _ nr e5 (g6s _ _ _) z e16 e17
  have key : ∀ n v N ρ, v + n = 400 → PR A N → RD N T t ρ.1 → (ρ.1.2.2.2.2.1 = 0 → MUq N ρ ∧ hdS ρ) → (ρ.1.2.2.2.2.1 = 0 → ¬ ρ.1.2.2.1 = 0 → v < ρ.1.2.1) → qpS T t (n + 1) ρ v = F → X mM_rule 20 [(0, .ref 6027), (1, .int (nI v))] [] N (mC mM_rule, mS mM_rule) (QI K) := by
    intro n
    induction n with
    | zero =>
      intro v N ρ hv pl rN lk pos e
      have n14 := rN.2.2.2.1
      have n16 := rN.2.2.2.2.2.1
      have ex : ¬ ρ.1.2.2.2.2.1 = 0 ∨ ρ.1.2.2.1 = 0 := by
        by_cases f : ρ.1.2.2.2.2.1 = 0
        · right
          by_cases q : ρ.1.2.2.1 = 0
          · exact q
          · exfalso
            have p := pos f q
            have b2 := rN.2.2.2.2.2.2.2.2.1
            omega
        · exact Or.inl f
      refine vM_rule_20 rfl ⟨fun _ => bout N ρ v pl rN lk ((qpS_stop T t ex).symm.trans e), fun q => ?_⟩
      rw [n14, n16] at q
      exact absurd ex (fun y => y.elim (fun y => y q.1) q.2)
    | succ n ih =>
      intro v N ρ hv pl rN lk pos e
      have n14 := rN.2.2.2.1
      have n16 := rN.2.2.2.2.2.1
      refine vM_rule_20 rfl ⟨fun q => ?_, fun q => ?_⟩
      · rw [n14, n16] at q
        have ex : ¬ ρ.1.2.2.2.2.1 = 0 ∨ ρ.1.2.2.1 = 0 := q.imp id (fun q => q.2)
        exact bout N ρ v pl rN lk ((qpS_stop T t ex).symm.trans e)
      · rw [n14, n16] at q
        obtain ⟨mu, hd⟩ := lk q.1
        have e' : qpS T t (n + 1) (qlS T t ρ) (v + 1) = F := (qpS_go T t (fun y => y.elim (fun y => y q.1) q.2)).symm.trans e
        refine nM_qlS rN q.1 mu (fun O pO rO mO => vM_rule_38 ?_)
        rw [nI_s]
        refine ih (v + 1) O (qlS T t ρ) (by omega) (pr_tr pl pO) rO (fun y => ⟨mO y, ql_hd hd y⟩) (fun y1 y2 => ?_) e'
        have g := ql_go y1
        have := pos q.1 q.2
        omega
  exact key 400 0 N ρ0 (by omega) (pr_pf pf) rN' (fun _ => ⟨mu0, hd0⟩) pos0 eF
end EQB3
