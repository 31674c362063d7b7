section MG50
/-! ===== the reference's library, as the lines tell it ===== -/
/-- the reference's draft stands as the lines tell it -/
def ML (N : Mm) (σ : LSt) : Prop := gi N 6027 3 = nI σ.2.1 ∧ (∀ w, w < σ.2.1 → ∀ i, i < 8 → gi N 6229 (10 * w + i) = σ.2.2.1 w i) ∧ (∀ w, w < σ.2.1 → kCN (σ.2.2.1 w 0) → gi N 6423 w = σ.2.2.2.2.2.2 w) ∧ (∀ b, b < 8 → gi N 6285 b = σ.2.2.2.1 b) ∧ gi N 6027 8 = σ.2.2.2.2.2.1 ∧ ∀ b, b < 8 → gi N 6360 b = σ.2.2.2.2.1 b
section EQ9
variable {M N : Mm} {T : Nat → Int32} {t : Nat}
theorem ml_eq {σ : LSt} (h : ∀ a, a = 6229 ∨ a = 6423 ∨ a = 6285 ∨ a = 6360 → gi N a = gi M a) (h3 : gi N 6027 3 = gi M 6027 3) (h8 : gi N 6027 8 = gi M 6027 8) (l : ML M σ) : ML N σ := by
  unfold ML
  rw [h 6229 (by decide), h 6423 (by decide), h 6285 (by decide), h 6360 (by decide), h3, h8]
  exact l
theorem ml_pf {σ : LSt} (f : PF M N) (l : ML M σ) : ML N σ := ml_eq (fun a ha => f.2.2.1 a (by omega)) (f.2.2.2 3 (by decide)) (f.2.2.2 8 (by decide)) l
theorem ml_lb {σ : LSt} (ok : okS σ) (l : ML M σ) : LB M σ.2.1 := by
  obtain ⟨l1, l2, l3, l4, l5, l6⟩ := l
  refine ⟨l1, ok.1, by rw [l5]; exact ok.2.1, fun w hw => ?_⟩
  have h0 := l2 w hw 0 (by decide)
  rw [Nat.add_zero] at h0
  unfold RK
  rw [l2 w hw 2 (by decide), h0, l2 w hw 6 (by decide)]
  exact ok.2.2 w hw
theorem bad_eq {σ : LSt} {w : Nat} (ok : okS σ) (l : ML M σ) (hw : w < σ.2.1) : bad M σ.2.1 w ↔ bdS σ w := by
  obtain ⟨l1, l2, l3, l4, l5, l6⟩ := l
  have hD := ok.1
  obtain ⟨-, k, hk, ek, h⟩ := ok.2.2 w hw
  unfold bad bdS
  rw [l2 w hw 6 (by decide)]
  rcases h with ⟨n, e⟩ | ⟨n, f, hf, e⟩
  · rw [e]
    exact ⟨fun z => absurd rfl z.1, fun z => absurd rfl z.1⟩
  · rw [e, ncl (by omega)]
    by_cases lf : f < σ.2.1
    · have h0 := l2 f lf 0 (by decide)
      rw [Nat.add_zero] at h0
      rw [h0]
    · have le : nI σ.2.1 ≤ nI f := by rw [nle (by omega) (by omega)]; omega
      exact ⟨fun z => ⟨z.1, Or.inl le⟩, fun z => ⟨z.1, Or.inl le⟩⟩
theorem nM_lnS {σ : LSt} {K : Mm → Prop} (rd : RD M T t σ.1) (ml : ML M σ) (ok : okS σ) (h : ∀ N, PL M N → RD N T t (lnS T t σ).1 → ((lnS T t σ).1.2.2.2.2.1 = 0 → ML N (lnS T t σ)) → K N) : CV mM_readLine [.ref 6027] M K := by
  have e4 : ln4 T t σ.2.1 (gi M 6360) σ.1 = (lnS T t σ).1 := by rw [lnS_1]; exact ln4_cg ml.2.2.2.2.2
  refine nM_readLine rd ml.1 ok.1 (fun N pl rN nf => ?_) (fun N O pN pO rO z k => ?_) (fun N O i pN pO rO z k hi ei => ?_) (fun N O pN pO rO z k1 k2 hp => ?_)
  · rw [e4] at rN nf
    exact h N pl rN (fun y => absurd y nf)
  · rw [e4] at rO z
    refine h O (pl_tr (pl_pf pN) (pl_tr (pl_si (by decide)) (pl_pf pO))) rO (fun _ => ml_pf pO ?_)
    have f4 : (ln4 T t σ.2.1 σ.2.2.2.2.1 σ.1).2.2.2.2.1 = 0 := by rw [← lnS_1]; exact z
    have eS : lnS T t σ = (ln4 T t σ.2.1 σ.2.2.2.2.1 σ.1, σ.2.1, σ.2.2.1, σ.2.2.2.1, σ.2.2.2.2.1, (ln2 T t σ.2.1 σ.1).2.2.2.1, σ.2.2.2.2.2.2) := by
      unfold lnS; rw [if_neg (fun q => q f4), if_pos k]
    rw [eS]
    generalize ln4 T t σ.2.1 σ.2.2.2.2.1 σ.1 = s4
    obtain ⟨l1, l2, l3, l4, l5, l6⟩ := ml_pf pN ml
    unfold ML
    dsimp only
    rw [gi_ne (show (6229 : Nat) ≠ 6027 by decide), gi_ne (show (6423 : Nat) ≠ 6027 by decide), gi_ne (show (6285 : Nat) ≠ 6027 by decide), gi_ne (show (6360 : Nat) ≠ 6027 by decide), g6 _ _ _ _ (by decide), g6s]
    exact ⟨l1, l2, l3, l4, rfl, l6⟩
  · rw [e4] at rO z
    refine h O (pl_tr (pl_pf pN) (pl_tr (pl_si (Or.inl (by decide))) (pl_tr (pl_si (Or.inl (by decide))) (pl_pf pO)))) rO (fun _ => ml_pf pO ?_)
    have f4 : (ln4 T t σ.2.1 σ.2.2.2.2.1 σ.1).2.2.2.2.1 = 0 := by rw [← lnS_1]; exact z
    have n10 : ¬ lnk T t σ.1 = 10 := by rw [k]; decide
    have eS : lnS T t σ = (ln4 T t σ.2.1 σ.2.2.2.2.1 σ.1, σ.2.1, σ.2.2.1, up1 σ.2.2.2.1 (ln2 T t σ.2.1 σ.1).2.2.2.1.toNatClampNeg (rc3 T t (σ.2.2.2.2.1 (ln2 T t σ.2.1 σ.1).2.2.2.1.toNatClampNeg) (ln2 T t σ.2.1 σ.1)).2.2.2.1, up1 σ.2.2.2.2.1 (ln2 T t σ.2.1 σ.1).2.2.2.1.toNatClampNeg 1, σ.2.2.2.2.2.1, σ.2.2.2.2.2.2) := by
      unfold lnS; rw [if_neg (fun q => q f4), if_neg n10, if_pos k]
    rw [eS]
    generalize ln4 T t σ.2.1 σ.2.2.2.2.1 σ.1 = s4
    have ci : (ln2 T t σ.2.1 σ.1).2.2.2.1.toNatClampNeg = i := by rw [ei]; exact ncl (by omega)
    rw [ci, ml.2.2.2.2.2 i hi]
    generalize (rc3 T t (σ.2.2.2.2.1 i) (ln2 T t σ.2.1 σ.1)).2.2.2.1 = v
    obtain ⟨l1, l2, l3, l4, l5, l6⟩ := ml_pf pN ml
    unfold ML
    dsimp only
    refine ⟨?_, fun w hw j hj => ?_, fun w hw kc => ?_, fun b hb => ?_, ?_, fun b hb => ?_⟩
    · rw [giR _ _ _ _ _ _ (by decide), giR _ _ _ _ _ _ (by decide)]; exact l1
    · rw [giR _ _ _ _ _ _ (by decide), giR _ _ _ _ _ _ (by decide)]; exact l2 w hw j hj
    · rw [giR _ _ _ _ _ _ (by decide), giR _ _ _ _ _ _ (by decide)]; exact l3 w hw kc
    · rw [gxs, giR _ _ _ _ _ _ (by decide)]
      unfold up1
      by_cases q : b = i
      · rw [if_pos q, if_pos q]
      · rw [if_neg q, if_neg q]; exact l4 b hb
    · rw [giR _ _ _ _ _ _ (by decide), giR _ _ _ _ _ _ (by decide)]; exact l5
    · rw [giR _ _ _ _ _ _ (by decide), gxs]
      unfold up1
      by_cases q : b = i
      · rw [if_pos q, if_pos q]
      · rw [if_neg q, if_neg q]; exact l6 b hb
  · rw [e4] at rO z
    refine h O (pl_tr (pl_pw pN) (pl_tr pl_r8 (pl_tr (pl_si (by decide)) (pl_pf pO)))) rO (fun _ => ml_pf pO ?_)
    have f4 : (ln4 T t σ.2.1 σ.2.2.2.2.1 σ.1).2.2.2.2.1 = 0 := by rw [← lnS_1]; exact z
    have eS : lnS T t σ = (ln4 T t σ.2.1 σ.2.2.2.2.1 σ.1, σ.2.1 + 1, upr σ.2.2.1 σ.2.1 (rwr T t (lnk T t σ.1) (ln2 T t σ.2.1 σ.1) σ.2.2.2.2.2.1), σ.2.2.2.1, σ.2.2.2.2.1, σ.2.2.2.2.2.1, up1 σ.2.2.2.2.2.2 σ.2.1 (nI (rw5 T t (lnk T t σ.1) (ln2 T t σ.2.1 σ.1)).1)) := by
      unfold lnS; rw [if_neg (fun q => q f4), if_neg k1, if_neg k2]
    rw [eS]
    generalize ln4 T t σ.2.1 σ.2.2.2.2.1 σ.1 = s4
    obtain ⟨l1, l2, l3, l4, l5, l6⟩ := ml
    obtain ⟨p1, p2, p3, p4, p5⟩ := pN
    have k0 : ∀ b, rwr T t (lnk T t σ.1) (ln2 T t σ.2.1 σ.1) b 0 = lnk T t σ.1 := fun b => rfl
    rw [l5]
    generalize eR : rwr T t (lnk T t σ.1) (ln2 T t σ.2.1 σ.1) σ.2.2.2.2.2.1 = rr
    have r0 : rr 0 = lnk T t σ.1 := by rw [← eR]; exact k0 _
    generalize nI (rw5 T t (lnk T t σ.1) (ln2 T t σ.2.1 σ.1)).1 = pl at *
    unfold ML
    dsimp only
    refine ⟨g6s _ _ _, fun w hw j hj => ?_, fun w hw kc => ?_, fun b hb => ?_, ?_, fun b hb => ?_⟩
    · rw [giR _ _ _ _ _ _ (by decide)]
      unfold upr
      by_cases q : w = σ.2.1
      · rw [if_pos q, q]; exact r8_at _ _ _ _ hj
      · rw [if_neg q, r8_lt _ _ _ _ (by omega), p3 6229 (by decide) (by decide)]
        exact l2 w (by omega) j hj
    · rw [giR _ _ _ _ _ _ (by decide), r8_ne _ _ _ _ (by decide)]
      unfold upr at kc
      unfold up1
      by_cases q : w = σ.2.1
      · rw [if_pos q] at kc ⊢
        rw [q]
        rw [r0] at kc
        exact hp kc
      · rw [if_neg q] at kc ⊢
        rw [p5 w q]
        exact l3 w (by omega) kc
    · rw [giR _ _ _ _ _ _ (by decide), r8_ne _ _ _ _ (by decide), p3 6285 (by decide) (by decide)]; exact l4 b hb
    · rw [g6 _ _ _ _ (by decide), r8_ne _ _ _ _ (by decide), p4 8 (by decide)]; exact l5
    · rw [giR _ _ _ _ _ _ (by decide), r8_ne _ _ _ _ (by decide), p3 6360 (by decide) (by decide)]; exact l6 b hb
/-- the reference's library, exactly -/
theorem eM_library {K : Int32 → Mm → Prop} {x0 v0 p0 : Int32} (tp : TP M T t) (hx : gi M 6027 14 = x0) (hv : gi M 6027 15 = v0) (hp : gi M 6027 17 = p0)
    (h1 : ∀ N, OS M N → gi N 6027 11 = 0 → ¬ (lpS T t 401 (lS0 T t x0 v0 p0) 0).1.1.2.2.2.2.1 = 0 → gi N 6027 16 = (lpS T t 401 (lS0 T t x0 v0 p0) 0).1.1.2.2.2.2.1 → gi N 6027 17 = (lpS T t 401 (lS0 T t x0 v0 p0) 0).1.1.2.2.2.2.2 → K ((-10) - (lpS T t 401 (lS0 T t x0 v0 p0) 0).1.1.2.2.2.2.2) N)
    (h2 : ∀ N w, OS M N → gi N 6027 11 = 0 → (lpS T t 401 (lS0 T t x0 v0 p0) 0).1.1.2.2.2.2.1 = 0 → w < (lpS T t 401 (lS0 T t x0 v0 p0) 0).1.2.1 → bdS (lpS T t 401 (lS0 T t x0 v0 p0) 0).1 w → (∀ v, v < w → ¬ bdS (lpS T t 401 (lS0 T t x0 v0 p0) 0).1 v) → gi N 6027 16 = 6 → gi N 6027 17 = (lpS T t 401 (lS0 T t x0 v0 p0) 0).1.2.2.2.2.2.2 w → K ((-10) - (lpS T t 401 (lS0 T t x0 v0 p0) 0).1.2.2.2.2.2.2 w) N)
    (h3 : ∀ N, NL M N → gi N 6027 11 = 0 → (lpS T t 401 (lS0 T t x0 v0 p0) 0).1.1.2.2.2.2.1 = 0 → (∀ w, w < (lpS T t 401 (lS0 T t x0 v0 p0) 0).1.2.1 → ¬ bdS (lpS T t 401 (lS0 T t x0 v0 p0) 0).1 w) → gi N 6027 16 = 0 → JW N (lpS T t 401 (lS0 T t x0 v0 p0) 0).1.2.1 → (lpS T t 401 (lS0 T t x0 v0 p0) 0).1.2.1 ≤ 24 → UM N (lpS T t 401 (lS0 T t x0 v0 p0) 0).1.2.1 → okS (lpS T t 401 (lS0 T t x0 v0 p0) 0).1 → (∀ w, w < (lpS T t 401 (lS0 T t x0 v0 p0) 0).1.2.1 → ∀ i, i < 8 → gi N 6101 (10 * w + i) = (lpS T t 401 (lS0 T t x0 v0 p0) 0).1.2.2.1 w i) → (∀ b, b < 8 → gi N 6157 b = (lpS T t 401 (lS0 T t x0 v0 p0) 0).1.2.2.2.1 b) → gi N 6027 9 = 255 → K (nI (lpS T t 401 (lS0 T t x0 v0 p0) 0).2) N) : CI mM_library [.ref 6027] M K := by
  have hm := tp.1
  have ht := tp.2.2.1
  refine call_of rfl (Nat.le_of_ble_eq_true rfl) rfl (vM_library_0 rfl (sM_firstLibrary (mr_w hm rfl) (vM_library_16 rfl ?_)))
  generalize eA : fb0 (si (si M 6027 16 0) 6027 12 0) = A
  have gA : ∀ a, ¬ (a = 6027 ∨ a = 6285 ∨ a = 6360) → gi A a = gi M a := by
    intro a ha
    funext k
    rw [← eA]; unfold fb0
    rw [flR _ _ _ _ _ _ (fun e => ha (by omega)), flR _ _ _ _ _ _ (fun e => ha (by omega)), giR _ _ _ _ _ _ (fun e => ha (by omega)), giR _ _ _ _ _ _ (fun e => ha (by omega)), giR _ _ _ _ _ _ (fun e => ha (by omega)), giR _ _ _ _ _ _ (fun e => ha (by omega))]
  have fA : ∀ k, k ≠ 8 → k ≠ 3 → k ≠ 12 → k ≠ 16 → gi A 6027 k = gi M 6027 k := by
    intro k a b c d
    rw [← eA]; unfold fb0
    rw [flR _ _ _ _ _ _ (by decide), flR _ _ _ _ _ _ (by decide), g6 _ _ _ _ a, g6 _ _ _ _ b, g6 _ _ _ _ c, g6 _ _ _ _ d]
  have fz : ∀ k, k = 8 ∨ k = 3 ∨ k = 12 ∨ k = 16 → gi A 6027 k = 0 := by
    intro k hk
    rw [← eA]; unfold fb0
    rw [flR _ _ _ _ _ _ (by decide), flR _ _ _ _ _ _ (by decide)]
    simp only [gi_si]
    rcases hk with rfl | rfl | rfl | rfl <;> simp
  have cA : ∀ b, b < 8 → gi A 6285 b = 2 ∧ gi A 6360 b = 0 := by
    intro b hb
    rw [← eA]; unfold fb0
    simp only [gi_fl, gi_si]
    constructor <;> simp [hb]
  have rA : gr A = gr M := by rw [← eA, gr_fb0]; rfl
  have lA : gl A = gl M := by rw [← eA]; rfl
  have tpA : TP A T t := ⟨mr_w hm rA, (fA 11 (by decide) (by decide) (by decide) (by decide)).trans tp.2.1, tp.2.2.1, (gA 6486 (by decide)).trans tp.2.2.2⟩
  have osA : ∀ {N}, PL A N → OS M N := by
    intro N pl
    refine ⟨pl.1.trans rA, fun a ha => (pl.2.2.1 a ha).trans (gA a (fun e => ha (by omega))), fun k hk => (pl.2.2.2 k (fun e => hk (by omega))).trans (fA k (fun e => hk (by omega)) (fun e => hk (by omega)) (fun e => hk (by omega)) (fun e => hk (by omega))), pl.2.1.trans lA⟩
  have os11 : ∀ {N}, PL A N → OS M (si N 6027 11 0) := by
    intro N pl
    have os := osA pl
    refine ⟨os.1, fun a ha => ?_, fun k hk => ?_, os.2.2.2⟩
    · rw [gi_ne (fun e => ha (by omega))]; exact os.2.1 a ha
    · rw [g6 _ _ _ _ (fun e => hk (by omega))]; exact os.2.2.1 k hk
  refine nM_next0 tpA (fz 12 (by decide)) (fz 16 (by decide)) (fun N pf rN => ?_)
  rw [fA 14 (by decide) (by decide) (by decide) (by decide), fA 15 (by decide) (by decide) (by decide) (by decide), fA 17 (by decide) (by decide) (by decide) (by decide), hx, hv, hp] at rN
  have ml0 : ML N (lS0 T t x0 v0 p0) := ml_pf pf ⟨fz 3 (by decide), fun w hw => absurd (show w < 0 from hw) (by omega), fun w hw => absurd (show w < 0 from hw) (by omega), fun b hb => (cA b hb).1, fz 8 (by decide), fun b hb => (cA b hb).2⟩
  have rN' : RD N T t (lS0 T t x0 v0 p0).1 := rN
  have okC : okS (lS0 T t x0 v0 p0) := okS0
  have pos0 : (lS0 T t x0 v0 p0).1.2.2.2.2.1 = 0 → ¬ (lS0 T t x0 v0 p0).1.2.2.1 = 0 → 0 < (lS0 T t x0 v0 p0).1.2.1 := fun f n => by
    have := (go_nxs (T := T) (t := t) (s := (0, 0, x0, v0, 0, p0))).2 f
    exact this.2 n
  clear rN
  generalize lS0 T t x0 v0 p0 = σ0 at h1 h2 h3 ml0 rN' okC pos0
  generalize eF : lpS T t 401 σ0 0 = F at h1 h2 h3
  have bout : ∀ N σ v, PL A N → RD N T t σ.1 → (σ.1.2.2.2.2.1 = 0 → ML N σ ∧ okS σ) → (σ, v) = F → CV mM_checks [.ref 6027] N (fun N => X mM_library 48 [(0, .ref 6027), (1, .int (nI v))] [] N (mC mM_library, mS mM_library) (QI K)) := by
    intro N σ v pl rN lk e
    subst e
    have n16 := rN.2.2.2.2.2.1
    have n17 := rN.2.2.2.2.2.2.1
    have mN := rN.1.1
    by_cases z : σ.1.2.2.2.2.1 = 0
    · obtain ⟨ml, ok⟩ := lk z
      have lb := ml_lb ok ml
      have hr : ∀ w, w < σ.2.1 → gi N 6229 (10 * w + 6) = -4 ∨ ∃ f, f < 24 ∧ gi N 6229 (10 * w + 6) = nI f := by
        intro w hw
        obtain ⟨-, k, hk, ek, h⟩ := lb.2.2.2 w hw
        exact h.imp (fun h => h.2) (fun h => h.2)
      refine nM_checks mN lb.1 lb.2.1 (fun _ => hr) (fun q => absurd (n16.trans z) q) (fun q nb => ?_) (fun q w hw b1 b2 => ?_)
      · have ez : gi (si N 6027 11 0) 6027 16 = 0 := by rw [g6 _ _ _ _ (by decide)]; exact q
        refine vM_library_48 rfl ⟨fun _ => ?_, fun y => absurd (by rw [ez]; decide) y⟩
        have os := osA pl
        have mB : MR (si N 6027 11 0) := mr_w mN rfl
        have lB : LB (si N 6027 11 0) σ.2.1 := by
          refine ⟨by rw [g6 _ _ _ _ (by decide)]; exact lb.1, lb.2.1, by rw [g6 _ _ _ _ (by decide)]; exact lb.2.2.1, fun w hw => rk_eq (fun i _ => by rw [giR _ _ _ _ _ _ (by decide)]) (lb.2.2.2 w hw)⟩
        have nB : ∀ w, w < σ.2.1 → ¬ bad (si N 6027 11 0) σ.2.1 w := by
          intro w hw b
          refine nb w hw ?_
          unfold bad at b ⊢
          rw [gi_ne (show (6229 : Nat) ≠ 6027 by decide)] at b
          exact b
        obtain ⟨k1, k2, k3⟩ := kb_jw mB lB nB
        have eg : gi (kbM (si N 6027 11 0) σ.2.1) = gi (ffM (kb2 (si N 6027 11 0)) σ.2.1) := (fs_fsM _ σ.2.1).2.1
        refine sM_keepLibrary mB lB.1 lB.2.1 k1 (vM_library_72 (h3 _ ⟨?_, fun a ha => ?_, fun k hk => ?_, fun a j ha => ?_⟩ ?_ z (fun w hw b => nb w hw ((bad_eq ok ml hw).mpr b)) ?_ k2 ok.1 k3 ok (fun w hw i hi => ?_) (fun b hb => ?_) ?_))
        · exact ((fs_fsM _ σ.2.1).2.2.1.trans ((gr_ffM _ _).trans (gr_kb2 _))).trans os.1
        · rw [eg, ffM_ne _ _ _ (fun e => ha (by omega)) (fun e => ha (by omega))]
          funext k
          rw [kb2_ne _ _ _ (fun e => ha (by omega)) (fun e => ha (by omega)) (fun e => ha (by omega)), giR _ _ _ _ _ _ (fun e => ha (by omega)), os.2.1 a (fun e => ha (by omega))]
        · rw [eg, ffM_f _ _ _ (fun e => hk (by omega)) (fun e => hk (by omega)), kb2_f _ _ (fun e => hk (by omega)) (fun e => hk (by omega)), g6 _ _ _ _ (fun e => hk (by omega)), os.2.2.1 k (fun e => hk (by omega))]
        · unfold kbM
          rw [(fs_fsM _ σ.2.1).2.2.2 a j ha, gl_ffM]
          show gl N a j = _
          rw [os.2.2.2]
        · rw [eg, ffM_f _ _ _ (by decide) (by decide), kb2_f _ _ (by decide) (by decide), g6s]
        · rw [eg, ffM_f _ _ _ (by decide) (by decide), kb2_f _ _ (by decide) (by decide)]; exact ez
        · have hD := ok.1
          rw [eg, ffM_ne _ _ _ (by decide) (by decide), kb2_t _ _ (by have : w < σ.2.1 := hw; omega), giR _ _ _ _ _ _ (by decide)]
          exact ml.2.1 w hw i hi
        · rw [eg, ffM_ne _ _ _ (by decide) (by decide), kb2_c _ _ hb, giR _ _ _ _ _ _ (by decide)]
          exact ml.2.2.2.1 b hb
        · rw [eg, ffM_f _ _ _ (by decide) (by decide)]; exact kb2_9 _
      · have bs := (bad_eq ok ml hw).mp b1
        have kc : kCN (σ.2.2.1 w 0) := by
          obtain ⟨-, k, hk, ek, h⟩ := ok.2.2 w hw
          rcases h with ⟨-, e⟩ | ⟨n, -⟩
          · exact absurd e bs.1
          · unfold kCN
            rw [ek, show (1 : Int32) = nI 1 from rfl, show (3 : Int32) = nI 3 from rfl, nlt (by omega) (by omega), nlt (by omega) (by omega)]
            omega
        have ew := ml.2.2.1 w hw kc
        rw [ew]
        generalize eB : si (si N 6027 16 6) 6027 17 (σ.2.2.2.2.2.2 w) = B
        have pB : PL A B := by rw [← eB]; exact pl_tr pl (pl_pf (pf_si (pf_si (pf_rf N) (by decide) (by decide)) (by decide) (by decide)))
        have b16 : gi B 6027 16 = 6 := by rw [← eB, g6 _ _ _ _ (by decide), g6s]
        have b17 : gi B 6027 17 = σ.2.2.2.2.2.2 w := by rw [← eB, g6s]
        have e16 : gi (si B 6027 11 0) 6027 16 = 6 := by rw [g6 _ _ _ _ (by decide)]; exact b16
        have e17 : gi (si B 6027 11 0) 6027 17 = σ.2.2.2.2.2.2 w := by rw [g6 _ _ _ _ (by decide)]; exact b17
        refine vM_library_48 rfl ⟨fun y => ?_, fun _ => ?_⟩
        · rw [e16] at y; exact absurd y (by decide)
        · rw [e17]
          exact h2 _ w (os11 pB) (g6s _ _ _) z hw bs (fun v hv b => b2 v hv ((bad_eq ok ml (Nat.lt_trans hv hw)).mpr b)) e16 e17
    · have nz : ¬ gi N 6027 16 = 0 := by rw [n16]; exact z
      have nl : ¬ gi N 6027 16 ≤ 0 := by rw [n16]; exact rN.2.2.2.2.2.2.2.2.2.resolve_left z
      have e16 : gi (si N 6027 11 0) 6027 16 = gi N 6027 16 := g6 _ _ _ _ (by decide)
      have e17 : gi (si N 6027 11 0) 6027 17 = σ.1.2.2.2.2.2 := by rw [g6 _ _ _ _ (by decide)]; exact n17
      refine call_of rfl (Nat.le_of_ble_eq_true rfl) rfl (vM_checks_0 (vM_checks_2 rfl (mr4 mN) (mr7 mN) ⟨fun q => absurd q.2 nz, fun _ => vM_library_48 rfl ⟨fun y => ?_, fun _ => ?_⟩, fun q => absurd q.2 nz⟩))
      · rw [e16] at y; exact absurd y nl
      · rw [e17]
        exact h1 _ (os11 pl) (g6s _ _ _) z (e16.trans n16) e17
  have key : ∀ n v N σ, v + n = 400 → PL A N → RD N T t σ.1 → (σ.1.2.2.2.2.1 = 0 → ML N σ ∧ okS σ) → (σ.1.2.2.2.2.1 = 0 → ¬ σ.1.2.2.1 = 0 → v < σ.1.2.1) → lpS T t (n + 1) σ v = F → X mM_library 20 [(0, .ref 6027), (1, .int (nI v))] [] N (mC mM_library, mS mM_library) (QI K) := by
    intro n
    induction n with
    | zero =>
      intro v N σ hv pl rN lk pos e
      have n14 := rN.2.2.2.1
      have n16 := rN.2.2.2.2.2.1
      have ex : ¬ σ.1.2.2.2.2.1 = 0 ∨ σ.1.2.2.1 = 0 := by
        by_cases f : σ.1.2.2.2.2.1 = 0
        · right
          by_cases q : σ.1.2.2.1 = 0
          · exact q
          · exfalso
            have p := pos f q
            have b2 := rN.2.2.2.2.2.2.2.2.1
            omega
        · exact Or.inl f
      refine vM_library_20 rfl ⟨fun _ => bout N σ v pl rN lk ((lpS_stop T t ex).symm.trans e), fun q => ?_⟩
      rw [n14, n16] at q
      exact absurd ex (fun y => y.elim (fun y => y q.1) q.2)
    | succ n ih =>
      intro v N σ hv pl rN lk pos e
      have n14 := rN.2.2.2.1
      have n16 := rN.2.2.2.2.2.1
      refine vM_library_20 rfl ⟨fun q => ?_, fun q => ?_⟩
      · rw [n14, n16] at q
        have ex : ¬ σ.1.2.2.2.2.1 = 0 ∨ σ.1.2.2.1 = 0 := q.imp id (fun q => q.2)
        exact bout N σ v pl rN lk ((lpS_stop T t ex).symm.trans e)
      · rw [n14, n16] at q
        obtain ⟨ml, ok⟩ := lk q.1
        have e' : lpS T t (n + 1) (lnS T t σ) (v + 1) = F := (lpS_go T t (fun y => y.elim (fun y => y q.1) q.2)).symm.trans e
        refine nM_lnS rN ml ok (fun O pO rO mO => vM_library_38 ?_)
        rw [nI_s]
        refine ih (v + 1) O (lnS T t σ) (by omega) (pl_tr pl pO) rO (fun y => ⟨mO y, (lnS_ok ok y).1⟩) (fun y1 y2 => ?_) e'
        have g := (lnS_ok ok y1).2
        have := pos q.1 q.2
        omega
  exact key 400 0 N σ0 (by omega) (pl_pf pf) rN' (fun _ => ⟨ml0, okC⟩) pos0 eF
end EQ9
end MG50
section MG51
/-! ===== a rule as the lines tell it, on both sides ===== -/
section EQB
variable {M : Mm} {T : Nat → Int32} {t : Nat} {a : Tst} {r : Rst}
/-- one of three names -/
def ooc (T : Nat → Int32) (t : Nat) (x y z : Int32) (r : Rst) : Rst := wts (if nmk T t r = x ∨ nmk T t r = y ∨ nmk T t r = z then 1 else 0) 2 (nam r)
theorem oos_d {x y z : Int32} : oos T t x y z r = nxs T t (ooc T t x y z r) := rfl
theorem ooc_f {x y z : Int32} (h : ¬ r.2.2.2.2.1 = 0) : ooc T t x y z r = r := by unfold ooc; rw [nam_f h]; exact wts_f h
theorem oos_f {x y z : Int32} (h : ¬ r.2.2.2.2.1 = 0) : oos T t x y z r = r := by rw [oos_d, ooc_f h, nxs_f h]
theorem dmc_f (h : ¬ r.2.2.2.2.1 = 0) : dmc T t r = r := by unfold dmc; rw [nam_f h]; exact wts_f h
theorem rms_f (h : ¬ r.2.2.2.2.1 = 0) : rms T t r = r := by rw [rms_d, dmc_f h, nxs_f h]
theorem tk1_f {j : Nat} (h : ¬ a.2.2.2.2.1 = 0) : tk1 T t j a = a := by
  unfold tk1
  split
  · rfl
  · exact tfl_f h
theorem rl_one {j : Nat} {x y z : Int32} {NLj : List (List Int32)} (hr : r.2.1 ≤ 400) (h : RL a r) (am : ∀ s : Tst, amo T t j s = fnd (tkl T t s.2.1 (s.2.2.1 - s.2.1)) NLj 0) (fq : ∀ k, (fnd k NLj 0 = -1 ∧ ∀ c ∈ ([x, y, z] : List Int32), ¬ nmF k = c) ∨ ∃ i, i < 3 ∧ fnd k NLj 0 = nI i ∧ ([x, y, z] : List Int32)[i]? = some (nmF k)) :
    RL (tk1 T t j a) (ooc T t x y z r) ∧ ((tk1 T t j a).2.2.2.2.1 = 0 → (∃ i, i < 3 ∧ tk1v T t j a = nI i ∧ ([x, y, z] : List Int32)[i]? = some (nmk T t r)) ∧ tk1 T t j a = a ∧ ooc T t x y z r = r ∧ a.2.2.2.2.1 = 0) := by
  by_cases f : a.2.2.2.2.1 = 0
  · have fr : r.2.2.2.2.1 = 0 := h.1.symm.trans f
    rcases rl_nam h f with ⟨k2, en, s1⟩ | ⟨k2, hn, fn⟩
    · have ek : nmk T t r = nmF (tkl T t r.1 (r.2.1 - r.1)) := by unfold nmk; rw [en, if_pos fr, nmv_d T t _ _ hr]
      have ea : tk1n T t j a = fnd (tkl T t r.1 (r.2.1 - r.1)) NLj 0 := by unfold tk1n; rw [if_pos k2, am, rl_tok h f]
      rcases fq (tkl T t r.1 (r.2.1 - r.1)) with ⟨e, n⟩ | ⟨i, hi, e, c⟩
      · have e1 : tk1 T t j a = tfl 2 a := by unfold tk1; rw [ea, e, if_neg (by decide)]
        have nc : ¬ (nmk T t r = x ∨ nmk T t r = y ∨ nmk T t r = z) := by
          rw [ek]
          rintro (q | q | q)
          · exact n x (List.mem_cons_self ..) q
          · exact n y (List.mem_cons_of_mem _ (List.mem_cons_self ..)) q
          · exact n z (List.mem_cons_of_mem _ (List.mem_cons_of_mem _ (List.mem_cons_self ..))) q
        have e2 : ooc T t x y z r = wts 0 2 r := by unfold ooc; rw [if_neg nc, en]
        rw [e1, e2]
        exact ⟨rl_fail h f (by decide), fun q => absurd q (tfl_ne (by decide))⟩
      · have p0 : (0 : Int32) ≤ nI i := nI_pos' (by omega)
        have e1 : tk1 T t j a = a := by unfold tk1; rw [ea, e, if_pos p0]
        have ev : tk1v T t j a = nI i := by unfold tk1v; rw [ea, e, if_pos p0]
        rw [← ek] at c
        have cc : nmk T t r = x ∨ nmk T t r = y ∨ nmk T t r = z := by
          match i, hi, c with
          | 0, _, c => exact Or.inl (Option.some.inj c).symm
          | 1, _, c => exact Or.inr (Or.inl (Option.some.inj c).symm)
          | 2, _, c => exact Or.inr (Or.inr (Option.some.inj c).symm)
        have e2 : ooc T t x y z r = r := by unfold ooc; rw [if_pos cc, en]; exact wts_t (by decide)
        rw [e1, e2]
        exact ⟨h, fun _ => ⟨⟨i, hi, ev, c⟩, rfl, rfl, f⟩⟩
    · have e1 : tk1 T t j a = tfl 2 a := by unfold tk1 tk1n; rw [if_neg k2, if_neg (by decide)]
      have er : ooc T t x y z r = nam r := by unfold ooc; exact wts_f fn
      rw [e1, er]
      exact ⟨hn, fun q => absurd q (tfl_ne (by decide))⟩
  · have fr : ¬ r.2.2.2.2.1 = 0 := fun q => f (h.1.trans q)
    rw [tk1_f f, ooc_f fr]
    exact ⟨h, fun q => absurd q f⟩
end EQB
/-- state, rows told, rows -/
abbrev QSt : Type := Rst × (Nat → Int32) × (Nat → Int32)
section EQB2
variable (T : Nat → Int32) (t : Nat)
def qlS (ρ : QSt) : QSt :=
  if row (lnk T t ρ.1) = -4 then (wts 0 2 ρ.1, ρ.2)
  else if ¬ (ru3 T t ρ.2.1 ρ.1).2.2.2.2.1 = 0 then (ru3 T t ρ.2.1 ρ.1, ρ.2)
  else (ru3 T t ρ.2.1 ρ.1, up1 ρ.2.1 (row (lnk T t ρ.1)).toNatClampNeg 1, up1 ρ.2.2 (row (lnk T t ρ.1)).toNatClampNeg (ruv T t ρ.2.1 ρ.1))
def qpS : Nat → QSt → Nat → QSt × Nat
  | 0, ρ, l => (ρ, l)
  | n + 1, ρ, l => if ¬ ρ.1.2.2.2.2.1 = 0 ∨ ρ.1.2.2.1 = 0 then (ρ, l) else qpS n (qlS T t ρ) (l + 1)
theorem qpS_stop {n l : Nat} {ρ : QSt} (h : ¬ ρ.1.2.2.2.2.1 = 0 ∨ ρ.1.2.2.1 = 0) : qpS T t (n + 1) ρ l = (ρ, l) := by
  show (if ¬ ρ.1.2.2.2.2.1 = 0 ∨ ρ.1.2.2.1 = 0 then (ρ, l) else qpS T t n (qlS T t ρ) (l + 1)) = _
  exact if_pos h
theorem qpS_go {n l : Nat} {ρ : QSt} (h : ¬ (¬ ρ.1.2.2.2.2.1 = 0 ∨ ρ.1.2.2.1 = 0)) : qpS T t (n + 1) ρ l = qpS T t n (qlS T t ρ) (l + 1) := by
  show (if ¬ ρ.1.2.2.2.2.1 = 0 ∨ ρ.1.2.2.1 = 0 then (ρ, l) else qpS T t n (qlS T t ρ) (l + 1)) = _
  exact if_neg h
end EQB2
section EQB3
variable {M : Mm} {T : Nat → Int32} {t : Nat} {ρ : QSt}
theorem ql_1a (h : row (lnk T t ρ.1) = -4) : qlS T t ρ = (wts 0 2 ρ.1, ρ.2) := by unfold qlS; rw [if_pos h]
theorem ql_1b (h : ¬ row (lnk T t ρ.1) = -4) (f : ¬ (ru3 T t ρ.2.1 ρ.1).2.2.2.2.1 = 0) : qlS T t ρ = (ru3 T t ρ.2.1 ρ.1, ρ.2) := by unfold qlS; rw [if_neg h, if_pos f]
theorem ql_1c (h : ¬ row (lnk T t ρ.1) = -4) (f : (ru3 T t ρ.2.1 ρ.1).2.2.2.2.1 = 0) : qlS T t ρ = (ru3 T t ρ.2.1 ρ.1, up1 ρ.2.1 (row (lnk T t ρ.1)).toNatClampNeg 1, up1 ρ.2.2 (row (lnk T t ρ.1)).toNatClampNeg (ruv T t ρ.2.1 ρ.1)) := by unfold qlS; rw [if_neg h, if_neg (fun q => q f)]
theorem ql_1 (h : ¬ row (lnk T t ρ.1) = -4) : (qlS T t ρ).1 = ru3 T t ρ.2.1 ρ.1 := by
  by_cases f : (ru3 T t ρ.2.1 ρ.1).2.2.2.2.1 = 0
  · rw [ql_1c h f]
  · rw [ql_1b h f]
theorem wts02 {s : Rst} {k : Int32} (hk : ¬ k = 0) : ¬ (wts 0 k s).2.2.2.2.1 = 0 := by
  by_cases z : s.2.2.2.2.1 = 0
  · unfold wts; rw [if_pos ⟨rfl, z⟩]; exact hk
  · rw [wts_f z]; exact z
/-- a line without a fault tells a row -/
theorem ql_row (f : (qlS T t ρ).1.2.2.2.2.1 = 0) : ¬ row (lnk T t ρ.1) = -4 ∧ (ru3 T t ρ.2.1 ρ.1).2.2.2.2.1 = 0 := by
  by_cases h : row (lnk T t ρ.1) = -4
  · rw [ql_1a h] at f
    exact absurd f (wts02 (by decide))
  · rw [ql_1 h] at f
    exact ⟨h, f⟩
theorem ql_go (f : (qlS T t ρ).1.2.2.2.2.1 = 0) : ρ.1.2.1 < (qlS T t ρ).1.2.1 := by
  obtain ⟨h, z⟩ := ql_row f
  rw [ql_1 h]
  exact go_ru3 z
theorem row_lt (k : Int32) : (row k).toNatClampNeg < 7 := by
  rcases row_c k with q | ⟨-, q⟩ | ⟨-, q⟩ | ⟨-, q⟩ | ⟨-, q⟩ | ⟨-, q⟩ | ⟨-, q⟩ | ⟨-, q⟩ <;> rw [q] <;> decide
theorem ru1_cg {c c' : Nat → Int32} {s : Rst} (h : ∀ i, i < 7 → c i = c' i) : ru1 T t c s = ru1 T t c' s := by
  unfold ru1; rw [h _ (row_lt _)]
theorem ru3_cg {c c' : Nat → Int32} {s : Rst} (h : ∀ i, i < 7 → c i = c' i) : ru3 T t c s = ru3 T t c' s := by
  have e := ru1_cg (T := T) (t := t) (s := s) h
  unfold ru3 ru2; rw [e]
theorem ruv_cg {c c' : Nat → Int32} {s : Rst} (h : ∀ i, i < 7 → c i = c' i) : ruv T t c s = ruv T t c' s := by
  have e := ru1_cg (T := T) (t := t) (s := s) h
  unfold ruv; rw [e]
/-- the head that is told is a doctor or none -/
def hdS (ρ : QSt) : Prop := ρ.2.2 4 = -4 ∨ ∃ e, e < 8 ∧ ρ.2.2 4 = nI e
theorem ql_hd (hd : hdS ρ) (f : (qlS T t ρ).1.2.2.2.2.1 = 0) : hdS (qlS T t ρ) := by
  obtain ⟨h, z⟩ := ql_row f
  rw [ql_1c h z]
  unfold hdS
  dsimp only
  unfold up1
  by_cases q : 4 = (row (lnk T t ρ.1)).toNatClampNeg
  · rw [if_pos q]
    have k15 : lnk T t ρ.1 = 15 := by
      rcases row_c (lnk T t ρ.1) with e | ⟨-, e⟩ | ⟨-, e⟩ | ⟨-, e⟩ | ⟨-, e⟩ | ⟨k, e⟩ | ⟨-, e⟩ | ⟨-, e⟩
      · rw [e] at q; exact absurd q (by decide)
      · rw [e] at q; exact absurd q (by decide)
      · rw [e] at q; exact absurd q (by decide)
      · rw [e] at q; exact absurd q (by decide)
      · rw [e] at q; exact absurd q (by decide)
      · exact k
      · rw [e] at q; exact absurd q (by decide)
      · rw [e] at q; exact absurd q (by decide)
    have d1 : ruv T t ρ.2.1 ρ.1 = rdv T t (ru1 T t ρ.2.1 ρ.1) := by
      unfold ruv; rw [if_neg (by rw [k15]; decide), if_neg (by rw [k15]; decide), if_neg (by rw [k15]; decide), if_neg (by rw [k15]; decide), if_pos k15]
    have d2 : ru2 T t ρ.2.1 ρ.1 = rds T t (ru1 T t ρ.2.1 ρ.1) := by
      unfold ru2; rw [if_neg (by rw [k15]; decide), if_neg (by rw [k15]; decide), if_neg (by rw [k15]; decide), if_neg (by rw [k15]; decide), if_pos k15]
    rw [d1]
    unfold ru3 at z
    have z2 := (eln_ok z).2
    rw [d2] at z2
    obtain ⟨-, x, y, -⟩ := rds_ok z2
    obtain ⟨j, hj, e⟩ := rngL (c := 7) (n := 7) rfl (by decide) x y
    exact Or.inr ⟨j, hj, e⟩
  · rw [if_neg q]; exact hd
/-- the beginning of a rule -/
def qS0 (T : Nat → Int32) (t : Nat) (x v p : Int32) : QSt := (nxs T t (0, 0, x, v, 0, p), (fun _ => 0), dv)
/-- the reference's draft of a rule -/
def MUq (N : Mm) (ρ : QSt) : Prop := (∀ i, i < 7 → gi N 6745 i = ρ.2.1 i) ∧ ∀ i, i < 7 → gi N 6671 i = ρ.2.2 i
theorem nM_qlS {K : Mm → Prop} (rd : RD M T t ρ.1) (z0 : ρ.1.2.2.2.2.1 = 0) (mu : MUq M ρ) (h : ∀ N, PR M N → RD N T t (qlS T t ρ).1 → ((qlS T t ρ).1.2.2.2.2.1 = 0 → MUq N (qlS T t ρ)) → K N) : CV mM_readRule [.ref 6027] M K := by
  have c3 : ru3 T t (gi M 6745) ρ.1 = ru3 T t ρ.2.1 ρ.1 := ru3_cg mu.1
  have cv : ruv T t (gi M 6745) ρ.1 = ruv T t ρ.2.1 ρ.1 := ruv_cg mu.1
  refine nM_readRule rd z0 (fun N u pr rN nf q1 q2 => ?_) (fun N O P i ei hi pN pO pP rP z => ?_)
  · by_cases q : row (lnk T t ρ.1) = -4
    · have e := q1 q
      rw [if_pos q] at e
      have eq : (qlS T t ρ).1 = u := by rw [ql_1a q, e]
      exact h N pr (by rw [eq]; exact rN) (fun y => absurd (by rw [← eq]; exact y) nf)
    · have e := q2 q
      have eq : (qlS T t ρ).1 = u := by rw [ql_1 q, e, c3]
      exact h N pr (by rw [eq]; exact rN) (fun y => absurd (by rw [← eq]; exact y) nf)
  · rw [c3] at rP z
    rw [cv] at pP
    have q : ¬ row (lnk T t ρ.1) = -4 := by rw [ei]; exact nI4 (by omega)
    have ci : (row (lnk T t ρ.1)).toNatClampNeg = i := by rw [ei]; exact ncl (by omega)
    refine h P (pr_tr (pr_pf pN) (pr_tr (pr_si (Or.inr rfl)) (pr_tr (pr_pf pO) (pr_tr (pr_si (Or.inl rfl)) (pr_pf pP))))) (by rw [ql_1 q]; exact rP) (fun _ => ?_)
    rw [ql_1c q z, ci]
    generalize ruv T t ρ.2.1 ρ.1 = v at pP ⊢
    generalize ru3 T t ρ.2.1 ρ.1 = s3
    unfold MUq
    dsimp only
    refine ⟨fun j hj => ?_, fun j hj => ?_⟩
    · rw [pP.2.2.1 6745 (by decide), gi_ne (by decide), pO.2.2.1 6745 (by decide), gxs, pN.2.2.1 6745 (by decide)]
      unfold up1
      by_cases e : j = i
      · rw [if_pos e, if_pos e]
      · rw [if_neg e, if_neg e]; exact mu.1 j hj
    · rw [pP.2.2.1 6671 (by decide), gxs, pO.2.2.1 6671 (by decide), gi_ne (by decide), pN.2.2.1 6671 (by decide)]
      unfold up1
      by_cases e : j = i
      · rw [if_pos e, if_pos e]
      · rw [if_neg e, if_neg e]; exact mu.2 j hj
/-- the reference's rule, exactly -/
theorem eM_rule {K : Int32 → Mm → Prop} {x0 v0 p0 : Int32} (tp : TP M T t) (hx : gi M 6027 14 = x0) (hv : gi M 6027 15 = v0) (hp : gi M 6027 17 = p0)
    (h1 : ∀ N, NR M N → gi N 6543 = gi M 6543 → gi N 6027 11 = 0 → ¬ (qpS T t 401 (qS0 T t x0 v0 p0) 0).1.1.2.2.2.2.1 = 0 → gi N 6027 16 = (qpS T t 401 (qS0 T t x0 v0 p0) 0).1.1.2.2.2.2.1 → gi N 6027 17 = (qpS T t 401 (qS0 T t x0 v0 p0) 0).1.1.2.2.2.2.2 → K ((-10) - (qpS T t 401 (qS0 T t x0 v0 p0) 0).1.1.2.2.2.2.2) N)
    (h3 : ∀ N, NR M N → HD N → gi N 6027 11 = 0 → (qpS T t 401 (qS0 T t x0 v0 p0) 0).1.1.2.2.2.2.1 = 0 → gi N 6027 16 = 0 → (∀ i, i < 7 → gi N 6543 i = (qpS T t 401 (qS0 T t x0 v0 p0) 0).1.2.2 i) → K (nI (qpS T t 401 (qS0 T t x0 v0 p0) 0).2) N) : CI mM_rule [.ref 6027] M K := by
  have hm := tp.1
  have ht := tp.2.2.1
  refine call_of rfl (Nat.le_of_ble_eq_true rfl) rfl (vM_rule_0 rfl (sM_firstRule (mr_w hm rfl) (vM_rule_16 rfl ?_)))
  generalize eA : fu0 (si (si M 6027 16 0) 6027 12 0) = A
  have gA : ∀ a, ¬ (a = 6027 ∨ a = 6671 ∨ a = 6745) → gi A a = gi M a := by
    intro a ha
    funext k
    rw [← eA]; unfold fu0
    rw [rwmR _ _ _ _ _ _ (fun e => ha (by omega)), flR _ _ _ _ _ _ (fun e => ha (by omega)), giR _ _ _ _ _ _ (fun e => ha (by omega)), giR _ _ _ _ _ _ (fun e => ha (by omega))]
  have fA : ∀ k, k ≠ 12 → k ≠ 16 → gi A 6027 k = gi M 6027 k := by
    intro k c d
    rw [← eA]; unfold fu0
    rw [rwmR _ _ _ _ _ _ (by decide), flR _ _ _ _ _ _ (by decide), g6 _ _ _ _ c, g6 _ _ _ _ d]
  have fz : ∀ k, k = 12 ∨ k = 16 → gi A 6027 k = 0 := by
    intro k hk
    rw [← eA]; unfold fu0
    rw [rwmR _ _ _ _ _ _ (by decide), flR _ _ _ _ _ _ (by decide)]
    simp only [gi_si]
    rcases hk with rfl | rfl <;> simp
  have tA : ∀ i, i < 7 → gi A 6745 i = 0 := by
    intro i hi
    rw [← eA]; unfold fu0
    rw [rwmR _ _ _ _ _ _ (by decide), gi_fl, if_pos ⟨rfl, hi⟩]
  have dA : ∀ i, i < 7 → gi A 6671 i = dv i := by
    intro i hi
    rw [← eA]; unfold fu0
    rw [gi_rwm, if_pos ⟨rfl, hi⟩]
  have rA : gr A = gr M := by rw [← eA, gr_fu0]; rfl
  have lA : gl A = gl M := by rw [← eA]; rfl
  have tpA : TP A T t := ⟨mr_w hm rA, (fA 11 (by decide) (by decide)).trans tp.2.1, tp.2.2.1, (gA 6486 (by decide)).trans tp.2.2.2⟩
  have nrA : ∀ {N}, PR A N → NR M (si N 6027 11 0) ∧ gi (si N 6027 11 0) 6543 = gi M 6543 := by
    intro N pr
    refine ⟨⟨pr.1.trans rA, pr.2.1.trans lA, fun a ha => ?_, fun k hk => ?_⟩, ?_⟩
    · rw [gi_ne (fun e => ha (by omega)), pr.2.2.1 a (fun e => ha (by omega)), gA a (fun e => ha (by omega))]
    · rw [g6 _ _ _ _ (fun e => hk (by omega)), pr.2.2.2 k (fun e => hk (by omega)), fA k (fun e => hk (by omega)) (fun e => hk (by omega))]
    · rw [gi_ne (by decide), pr.2.2.1 _ (by decide), gA _ (by decide)]
  refine nM_next0 tpA (fz 12 (by decide)) (fz 16 (by decide)) (fun N pf rN => ?_)
  rw [fA 14 (by decide) (by decide), fA 15 (by decide) (by decide), fA 17 (by decide) (by decide), hx, hv, hp] at rN
  have mu0 : MUq N (qS0 T t x0 v0 p0) := ⟨fun i hi => by rw [pf.2.2.1 6745 (by decide)]; exact tA i hi, fun i hi => by rw [pf.2.2.1 6671 (by decide)]; exact dA i hi⟩
  have hd0 : hdS (qS0 T t x0 v0 p0) := Or.inl rfl
  have rN' : RD N T t (qS0 T t x0 v0 p0).1 := rN
  have pos0 : (qS0 T t x0 v0 p0).1.2.2.2.2.1 = 0 → ¬ (qS0 T t x0 v0 p0).1.2.2.1 = 0 → 0 < (qS0 T t x0 v0 p0).1.2.1 := fun f n => by
    have := (go_nxs (T := T) (t := t) (s := (0, 0, x0, v0, 0, p0))).2 f
    exact this.2 n
  clear rN
  generalize qS0 T t x0 v0 p0 = ρ0 at h1 h3 mu0 hd0 rN' pos0
  generalize eF : qpS T t 401 ρ0 0 = F at h1 h3
  have bout : ∀ N ρ v, PR A N → RD N T t ρ.1 → (ρ.1.2.2.2.2.1 = 0 → MUq N ρ ∧ hdS ρ) → (ρ, v) = F → ((gi (si N 6027 11 0) 6027 16) ≤ 0 → (X mM_rule 66 [(0, .ref 6027), (1, .int (nI v)), (2, .int 0)] [] (si N 6027 11 0) (mC mM_rule, mS mM_rule) (QI K))) ∧ (¬ (gi (si N 6027 11 0) 6027 16) ≤ 0 → (K ((-10) - (gi (si N 6027 11 0) 6027 17)) (si N 6027 11 0))) := by
    intro N ρ v pr rN lk e
    subst e
    have n16 := rN.2.2.2.2.2.1
    have n17 := rN.2.2.2.2.2.2.1
    have mN := rN.1.1
    have e16 : gi (si N 6027 11 0) 6027 16 = ρ.1.2.2.2.2.1 := (g6 _ _ _ _ (by decide)).trans n16
    have e17 : gi (si N 6027 11 0) 6027 17 = ρ.1.2.2.2.2.2 := (g6 _ _ _ _ (by decide)).trans n17
    obtain ⟨nr, e5⟩ := nrA pr
    by_cases z : ρ.1.2.2.2.2.1 = 0
    · obtain ⟨mu, hd⟩ := lk z
      refine ⟨fun _ => ?_, fun q => absurd (by rw [e16, z]; decide) q⟩
      generalize eB : si N 6027 11 0 = B at nr e5 e16 ⊢
      have mB : MR B := by rw [← eB]; exact mr_w mN rfl
      have b11 : gi B 6027 11 = 0 := by rw [← eB, g6s]
      have bv : ∀ i, i < 7 → gi B 6671 i = ρ.2.2 i := fun i hi => by rw [← eB, gi_ne (by decide)]; exact mu.2 i hi
      have key := lp 7 (P := fun i => X mM_rule 66 [(0, .ref 6027), (1, .int (nI v)), (2, .int (nI i))] [] (rwm B 6543 i (gi B 6671)) (mC mM_rule, mS mM_rule) (QI K)) (fun i hi ih => ?_) ?_
      · rw [rwm_0] at key; exact key
      · have mr := mr_w mB (gr_rwm B 6543 i (gi B 6671))
        refine vM_rule_66 rfl (mr18 mr) (mr20 mr) ⟨fun _ => vin hi (by decide), fun q => absurd q (nge rfl (by decide) hi), fun _ => ⟨vin hi (by decide), ?_⟩⟩
        rw [ncl (by omega), nI_s, rwmR _ _ _ _ _ _ (by decide), rwm_s]; exact ih
      · have mr := mr_w mB (gr_rwm B 6543 7 (gi B 6671))
        have gv : ∀ i, i < 7 → gi (rwm B 6543 7 (gi B 6671)) 6543 i = ρ.2.2 i := fun i hi => by rw [gi_rwm, if_pos ⟨rfl, hi⟩]; exact bv i hi
        refine vM_rule_66 rfl (mr18 mr) (mr20 mr) ⟨fun q => absurd (nself rfl) q, fun _ => h3 _ ?_ ?_ ?_ z ?_ gv, fun q => absurd (nself rfl) q⟩
        · refine ⟨nr.1, nr.2.1, fun a ha => ?_, fun k hk => ?_⟩
          · funext k
            rw [rwmR _ _ _ _ _ _ (fun e => ha (by omega)), nr.2.2.1 a ha]
          · rw [rwmR _ _ _ _ _ _ (by decide), nr.2.2.2 k hk]
        · unfold HD
          rw [gv 4 (by decide)]; exact hd
        · rw [rwmR _ _ _ _ _ _ (by decide), b11]
        · rw [rwmR _ _ _ _ _ _ (by decide), e16]; exact z
    · have nl : ¬ ρ.1.2.2.2.2.1 ≤ 0 := rN.2.2.2.2.2.2.2.2.2.resolve_left z
      refine ⟨fun q => absurd (by rw [← e16]; exact q) nl, fun _ => ?_⟩
      rw [e17]
      exact h1 _ nr e5 (g6s _ _ _) z e16 e17
  have key : ∀ n v N ρ, v + n = 400 → PR A N → RD N T t ρ.1 → (ρ.1.2.2.2.2.1 = 0 → MUq N ρ ∧ hdS ρ) → (ρ.1.2.2.2.2.1 = 0 → ¬ ρ.1.2.2.1 = 0 → v < ρ.1.2.1) → qpS T t (n + 1) ρ v = F → X mM_rule 20 [(0, .ref 6027), (1, .int (nI v))] [] N (mC mM_rule, mS mM_rule) (QI K) := by
    intro n
    induction n with
    | zero =>
      intro v N ρ hv pl rN lk pos e
      have n14 := rN.2.2.2.1
      have n16 := rN.2.2.2.2.2.1
      have ex : ¬ ρ.1.2.2.2.2.1 = 0 ∨ ρ.1.2.2.1 = 0 := by
        by_cases f : ρ.1.2.2.2.2.1 = 0
        · right
          by_cases q : ρ.1.2.2.1 = 0
          · exact q
          · exfalso
            have p := pos f q
            have b2 := rN.2.2.2.2.2.2.2.2.1
            omega
        · exact Or.inl f
      refine vM_rule_20 rfl ⟨fun _ => bout N ρ v pl rN lk ((qpS_stop T t ex).symm.trans e), fun q => ?_⟩
      rw [n14, n16] at q
      exact absurd ex (fun y => y.elim (fun y => y q.1) q.2)
    | succ n ih =>
      intro v N ρ hv pl rN lk pos e
      have n14 := rN.2.2.2.1
      have n16 := rN.2.2.2.2.2.1
      refine vM_rule_20 rfl ⟨fun q => ?_, fun q => ?_⟩
      · rw [n14, n16] at q
        have ex : ¬ ρ.1.2.2.2.2.1 = 0 ∨ ρ.1.2.2.1 = 0 := q.imp id (fun q => q.2)
        exact bout N ρ v pl rN lk ((qpS_stop T t ex).symm.trans e)
      · rw [n14, n16] at q
        obtain ⟨mu, hd⟩ := lk q.1
        have e' : qpS T t (n + 1) (qlS T t ρ) (v + 1) = F := (qpS_go T t (fun y => y.elim (fun y => y q.1) q.2)).symm.trans e
        refine nM_qlS rN q.1 mu (fun O pO rO mO => vM_rule_38 ?_)
        rw [nI_s]
        refine ih (v + 1) O (qlS T t ρ) (by omega) (pr_tr pl pO) rO (fun y => ⟨mO y, ql_hd hd y⟩) (fun y1 y2 => ?_) e'
        have g := ql_go y1
        have := pos q.1 q.2
        omega
  exact key 400 0 N ρ0 (by omega) (pr_pf pf) rN' (fun _ => ⟨mu0, hd0⟩) pos0 eF
end EQB3
end MG51
section MG52
/-! ===== the class reads a rule as the lines tell it ===== -/
section EQC
variable {M : Mm} {T : Nat → Int32} {t : Nat}
/-- what a row's telling leaves of the tokens, and what it tells -/
def qtS (T : Nat → Int32) (t i : Nat) (s : Tst) : Tst := if i = 0 then tkD T t (adv T t s) else if i = 1 then tkN 9 (adv T t s) else if i = 2 then s else if i = 3 then tk1 T t 3 (adv T t s) else if i = 4 then tkO T t (adv T t s) else if i = 5 then tk1 T t 4 (adv T t s) else tk1 T t 5 (adv T t s)
def qtv (T : Nat → Int32) (t i : Nat) (s : Tst) : Int32 := if i = 0 then tkDv T t (adv T t s) else if i = 1 then tkNv 9 (adv T t s) else if i = 2 then 1 else if i = 3 then tk1v T t 3 (adv T t s) else if i = 4 then tkOv T t (adv T t s) else if i = 5 then (if tk1v T t 4 (adv T t s) ≤ 1 then tk1v T t 4 (adv T t s) else -4) else tk1v T t 5 (adv T t s)
theorem qt0 {s : Tst} : qtS T t 0 s = tkD T t (adv T t s) := by unfold qtS; rw [if_pos rfl]
theorem qv0 {s : Tst} : qtv T t 0 s = tkDv T t (adv T t s) := by unfold qtv; rw [if_pos rfl]
theorem qt1 {s : Tst} : qtS T t 1 s = tkN 9 (adv T t s) := by unfold qtS; rw [if_neg (by decide), if_pos rfl]
theorem qv1 {s : Tst} : qtv T t 1 s = tkNv 9 (adv T t s) := by unfold qtv; rw [if_neg (by decide), if_pos rfl]
theorem qt2 {s : Tst} : qtS T t 2 s = s := by unfold qtS; rw [if_neg (by decide), if_neg (by decide), if_pos rfl]
theorem qv2 {s : Tst} : qtv T t 2 s = 1 := by unfold qtv; rw [if_neg (by decide), if_neg (by decide), if_pos rfl]
theorem qt3 {s : Tst} : qtS T t 3 s = tk1 T t 3 (adv T t s) := by unfold qtS; rw [if_neg (by decide), if_neg (by decide), if_neg (by decide), if_pos rfl]
theorem qv3 {s : Tst} : qtv T t 3 s = tk1v T t 3 (adv T t s) := by unfold qtv; rw [if_neg (by decide), if_neg (by decide), if_neg (by decide), if_pos rfl]
theorem qt4 {s : Tst} : qtS T t 4 s = tkO T t (adv T t s) := by unfold qtS; rw [if_neg (by decide), if_neg (by decide), if_neg (by decide), if_neg (by decide), if_pos rfl]
theorem qv4 {s : Tst} : qtv T t 4 s = tkOv T t (adv T t s) := by unfold qtv; rw [if_neg (by decide), if_neg (by decide), if_neg (by decide), if_neg (by decide), if_pos rfl]
theorem qt5 {s : Tst} : qtS T t 5 s = tk1 T t 4 (adv T t s) := by unfold qtS; rw [if_neg (by decide), if_neg (by decide), if_neg (by decide), if_neg (by decide), if_neg (by decide), if_pos rfl]
theorem qv5 {s : Tst} : qtv T t 5 s = (if tk1v T t 4 (adv T t s) ≤ 1 then tk1v T t 4 (adv T t s) else -4) := by unfold qtv; rw [if_neg (by decide), if_neg (by decide), if_neg (by decide), if_neg (by decide), if_neg (by decide), if_pos rfl]
theorem qt6 {s : Tst} : qtS T t 6 s = tk1 T t 5 (adv T t s) := by unfold qtS; rw [if_neg (by decide), if_neg (by decide), if_neg (by decide), if_neg (by decide), if_neg (by decide), if_neg (by decide)]
theorem qv6 {s : Tst} : qtv T t 6 s = tk1v T t 5 (adv T t s) := by unfold qtv; rw [if_neg (by decide), if_neg (by decide), if_neg (by decide), if_neg (by decide), if_neg (by decide), if_neg (by decide)]
theorem or_sw {p q r : Prop} : (p ∨ q ∨ r) → (q ∨ p ∨ r) := fun h => h.elim (fun x => Or.inr (Or.inl x)) (fun h => h.elim Or.inl (fun x => Or.inr (Or.inr x)))
theorem eRr_tell {r i : Nat} {s : Tst} {K : Mm → Prop} (hk : r % 64 = 3) (hi : i < 7) (g0 : gr M 324 0 = some 199) (td : TD M T t s) (h : ∀ N, PX r M N → TD N T t (qtS T t i s) → (∀ j, gi N r j = if j = i then qtv T t i s else gi M r j) → K N) : CV mRr_tell [.ref 324, .ref r, .int (nI i)] M K := by
  have x1 : r ≠ 199 := by omega
  have x2 : r ≠ 70 := by omega
  have x3 : r ≠ 145 := by omega
  have fin : ∀ N v, PT M N → TD N T t (qtS T t i s) → v = qtv T t i s → K (si N r i v) := by
    intro N v pN tN e
    refine h _ (px_tr (px_pt pN) px_si) (td_si x1 x2 x3 tN) (fun j => ?_)
    rw [gxs, e, pN.2.2 r x1]
  have ii : i = 0 ∨ i = 1 ∨ i = 2 ∨ i = 3 ∨ i = 4 ∨ i = 5 ∨ i = 6 := by omega
  rcases ii with rfl | rfl | rfl | rfl | rfl | rfl | rfl
  · refine call_of rfl (Nat.le_of_ble_eq_true rfl) rfl (vRr_tell_0 rfl hk g0 ⟨fun _ => nTo_takeDoctors td (fun N pN tN => vRr_tell_48 hk (fin N _ pN (by rw [qt0]; exact tN) qv0.symm)), fun q => absurd q (by decide), fun q => absurd q (by decide), fun q => absurd q (by decide), fun q => absurd q (by decide), fun q => absurd q (by decide), fun q => absurd rfl q.1⟩)
  · refine call_of rfl (Nat.le_of_ble_eq_true rfl) rfl (vRr_tell_0 rfl hk g0 ⟨fun q => absurd q (by decide), fun _ => nTo_takeNumber td (fun N pN tN => vRr_tell_64 hk (fin N _ pN (by rw [qt1]; exact tN) qv1.symm)), fun q => absurd q (by decide), fun q => absurd q (by decide), fun q => absurd q (by decide), fun q => absurd q (by decide), fun q => absurd rfl q.2.1⟩)
  · refine call_of rfl (Nat.le_of_ble_eq_true rfl) rfl (vRr_tell_0 rfl hk g0 ⟨fun q => absurd q (by decide), fun q => absurd q (by decide), fun _ => fin M _ (pt_rf M) (by rw [qt2]; exact td) qv2.symm, fun q => absurd q (by decide), fun q => absurd q (by decide), fun q => absurd q (by decide), fun q => absurd rfl q.2.2.1⟩)
  · refine call_of rfl (Nat.le_of_ble_eq_true rfl) rfl (vRr_tell_0 rfl hk g0 ⟨fun q => absurd q (by decide), fun q => absurd q (by decide), fun q => absurd q (by decide), fun _ => nTo_takeOneOf (j := 3) td (by decide) (fun N pN tN => vRr_tell_88 hk (fin N _ pN (by rw [qt3]; exact tN) qv3.symm)), fun q => absurd q (by decide), fun q => absurd q (by decide), fun q => absurd rfl q.2.2.2.1⟩)
  · refine call_of rfl (Nat.le_of_ble_eq_true rfl) rfl (vRr_tell_0 rfl hk g0 ⟨fun q => absurd q (by decide), fun q => absurd q (by decide), fun q => absurd q (by decide), fun q => absurd q (by decide), fun _ => nTo_takeDoctor td (fun N pN tN => vRr_tell_102 hk (fin N _ pN (by rw [qt4]; exact tN) qv4.symm)), fun q => absurd q (by decide), fun q => absurd rfl q.2.2.2.2.1⟩)
  · refine call_of rfl (Nat.le_of_ble_eq_true rfl) rfl (vRr_tell_0 rfl hk g0 ⟨fun q => absurd q (by decide), fun q => absurd q (by decide), fun q => absurd q (by decide), fun q => absurd q (by decide), fun q => absurd q (by decide), fun _ => nTo_takeOneOf (j := 4) td (by decide) (fun N pN tN => vRr_tell_118 hk hk ?_), fun q => absurd rfl q.2.2.2.2.2⟩)
    refine h _ (px_tr (px_pt pN) (px_tr px_si px_si)) (by rw [qt5]; exact td_si x1 x2 x3 (td_si x1 x2 x3 tN)) (fun j => ?_)
    rw [qv5]
    have e5 : gi (si N r 5 (tk1v T t 4 (adv T t s))) r 5 = tk1v T t 4 (adv T t s) := by rw [gxs, if_pos rfl]
    rw [e5, gxs]
    by_cases q : j = 5
    · rw [if_pos q, if_pos q]
    · rw [if_neg q, if_neg q, gxs, if_neg q, pN.2.2 r x1]
  · refine call_of rfl (Nat.le_of_ble_eq_true rfl) rfl (vRr_tell_0 rfl hk g0 ⟨fun q => absurd q (by decide), fun q => absurd q (by decide), fun q => absurd q (by decide), fun q => absurd q (by decide), fun q => absurd q (by decide), fun q => absurd q (by decide), fun _ => nTo_takeOneOf (j := 5) td (by decide) (fun N pN tN => vRr_tell_155 hk (fin N _ pN (by rw [qt6]; exact tN) qv6.symm))⟩)
/-- a rule's line's name, on both sides -/
theorem lr_rel {c : Tst} {s : Rst} (hs : s.2.1 ≤ 400) (h : RL c s) (f : c.2.2.2.2.1 = 0) :
    ((if c.1 = 2 then amo T t 2 c else -1) = -1 ∧ row (lnk T t s) = -4) ∨
    (∃ i, i < 7 ∧ (if c.1 = 2 then amo T t 2 c else -1) = nI i ∧ row (lnk T t s) = nI i ∧ ([12, 11, 13, 14, 15, 16, 17] : List Int32)[i]? = some (lnk T t s)) := by
  obtain ⟨e1, e2, ks, -⟩ := h.2.2 f
  by_cases k2 : c.1 = 2
  · have s1 : s.2.2.1 = 1 := (ks2 ks).mp k2
    have el : lnk T t s = nmF (tkl T t s.1 (s.2.1 - s.1)) := by unfold lnk; rw [if_pos s1, nmv_d T t _ _ hs]
    have ea : amo T t 2 c = fnd (tkl T t s.1 (s.2.1 - s.1)) NL2 0 := by rw [am2, rl_tok h f]
    rw [if_pos k2, el, ea]
    rcases frq2 (tkl T t s.1 (s.2.1 - s.1)) with ⟨e, n⟩ | ⟨i, hi, e, cc⟩
    · refine Or.inl ⟨e, ?_⟩
      unfold row
      rw [if_neg (n 12 (by decide)), if_neg (n 11 (by decide)), if_neg (n 13 (by decide)), if_neg (n 14 (by decide)), if_neg (n 15 (by decide)), if_neg (n 16 (by decide)), if_neg (n 17 (by decide))]
    · refine Or.inr ⟨i, hi, e, ?_, cc⟩
      generalize nmF (tkl T t s.1 (s.2.1 - s.1)) = k at cc
      match i, hi, cc with
      | 0, _, cc => rw [← Option.some.inj cc]; decide
      | 1, _, cc => rw [← Option.some.inj cc]; decide
      | 2, _, cc => rw [← Option.some.inj cc]; decide
      | 3, _, cc => rw [← Option.some.inj cc]; decide
      | 4, _, cc => rw [← Option.some.inj cc]; decide
      | 5, _, cc => rw [← Option.some.inj cc]; decide
      | 6, _, cc => rw [← Option.some.inj cc]; decide
  · have s1 : ¬ s.2.2.1 = 1 := fun z => k2 ((ks2 ks).mpr z)
    have el : lnk T t s = -4 := by unfold lnk; rw [if_neg s1]
    rw [if_neg k2, el]
    exact Or.inl ⟨rfl, by decide⟩
theorem ru2_f {tl : Nat → Int32} {s : Rst} (h : ¬ (ru1 T t tl s).2.2.2.2.1 = 0) : ru2 T t tl s = ru1 T t tl s := by
  unfold ru2
  generalize ru1 T t tl s = s1 at h ⊢
  by_cases q1 : lnk T t s = 12
  · rw [if_pos q1]; exact rms_f h
  rw [if_neg q1]
  by_cases q2 : lnk T t s = 11
  · rw [if_pos q2]; exact rnf h
  rw [if_neg q2]
  by_cases q3 : lnk T t s = 13
  · rw [if_pos q3]
  rw [if_neg q3]
  by_cases q4 : lnk T t s = 14
  · rw [if_pos q4]; exact oos_f h
  rw [if_neg q4]
  by_cases q5 : lnk T t s = 15
  · rw [if_pos q5]; exact rds_f h
  rw [if_neg q5]
  by_cases q6 : lnk T t s = 16
  · rw [if_pos q6]; exact oos_f h
  · rw [if_neg q6]; exact oos_f h
/-- what a row tells is the same -/
theorem rl_tell {c : Tst} {s : Rst} {tl : Nat → Int32} {i : Nat} (tc : TC M T t) (ht : t ≤ 400) (hs : s.2.1 ≤ 400) (hi : i < 7) (h : RL c s) (f : c.2.2.2.2.1 = 0) (er : row (lnk T t s) = nI i) (ek : ([12, 11, 13, 14, 15, 16, 17] : List Int32)[i]? = some (lnk T t s)) (t0 : tl i = 0) :
    NXT T t (qtS T t i c) (ru2 T t tl s) ∧ ((qtS T t i c).2.2.2.2.1 = 0 → qtv T t i c = ruv T t tl s) := by
  have e1 : ru1 T t tl s = nxs T t s := by
    unfold ru1
    rw [er, ncl (by omega), t0, if_pos rfl, if_neg (nI4 (by omega)), wts_t (by decide), wts_t (by decide)]
  have z : RL (adv T t c) (nxs T t s) := rl_adv tc h f
  have z4 : (nxs T t s).2.1 ≤ 400 := nxs_400 ht hs
  match i, hi, ek with
  | 0, _, ek =>
    have k : lnk T t s = 12 := (Option.some.inj ek).symm
    have a1 : ru2 T t tl s = rms T t (nxs T t s) := by unfold ru2; rw [if_pos k, e1]
    have a2 : ruv T t tl s = rmv T t (nxs T t s) := by unfold ruv; rw [if_pos k, e1]
    rw [a1, a2, qt0, qv0]
    obtain ⟨g1, g2⟩ := rl_main (T := T) (t := t) z
    exact ⟨⟨_, g1, rms_d⟩, fun y => (g2 y).1⟩
  | 1, _, ek =>
    have k : lnk T t s = 11 := (Option.some.inj ek).symm
    have a1 : ru2 T t tl s = nxs T t (isn 0 9 (nxs T t s)) := by unfold ru2; rw [if_neg (by rw [k]; decide), if_pos k, e1]
    have a2 : ruv T t tl s = (nxs T t s).2.2.2.1 := by unfold ruv; rw [if_neg (by rw [k]; decide), if_pos k, e1]
    rw [a1, a2, qt1, qv1]
    obtain ⟨g1, g2⟩ := rl_num (g := 9) (by decide) z
    exact ⟨⟨_, g1, rfl⟩, fun y => (g2 y).1⟩
  | 2, _, ek =>
    have k : lnk T t s = 13 := (Option.some.inj ek).symm
    have a1 : ru2 T t tl s = nxs T t s := by unfold ru2; rw [if_neg (by rw [k]; decide), if_neg (by rw [k]; decide), if_pos k, e1]
    have a2 : ruv T t tl s = 1 := by unfold ruv; rw [if_neg (by rw [k]; decide), if_neg (by rw [k]; decide), if_pos k]
    rw [a1, a2, qt2, qv2]
    exact ⟨⟨s, h, rfl⟩, fun _ => rfl⟩
  | 3, _, ek =>
    have k : lnk T t s = 14 := (Option.some.inj ek).symm
    have a1 : ru2 T t tl s = oos T t 20 18 19 (nxs T t s) := by unfold ru2; rw [if_neg (by rw [k]; decide), if_neg (by rw [k]; decide), if_neg (by rw [k]; decide), if_pos k, e1]
    have a2 : ruv T t tl s = (if nmk T t (nxs T t s) = 20 then 0 else if nmk T t (nxs T t s) = 18 then 1 else 2) := by unfold ruv; rw [if_neg (by rw [k]; decide), if_neg (by rw [k]; decide), if_neg (by rw [k]; decide), if_pos k, e1]
    rw [a1, a2, qt3, qv3]
    obtain ⟨g1, g2⟩ := rl_one (j := 3) (x := 20) (y := 18) (z := 19) z4 z (am3 T t) frq3
    refine ⟨⟨_, g1, oos_d⟩, fun y => ?_⟩
    obtain ⟨⟨m, hm, ev, em⟩, -⟩ := g2 y
    rw [ev]
    match m, hm, em with
    | 0, _, em => rw [← Option.some.inj em]; decide
    | 1, _, em => rw [← Option.some.inj em]; decide
    | 2, _, em => rw [← Option.some.inj em]; decide
  | 4, _, ek =>
    have k : lnk T t s = 15 := (Option.some.inj ek).symm
    have a1 : ru2 T t tl s = rds T t (nxs T t s) := by unfold ru2; rw [if_neg (by rw [k]; decide), if_neg (by rw [k]; decide), if_neg (by rw [k]; decide), if_neg (by rw [k]; decide), if_pos k, e1]
    have a2 : ruv T t tl s = rdv T t (nxs T t s) := by unfold ruv; rw [if_neg (by rw [k]; decide), if_neg (by rw [k]; decide), if_neg (by rw [k]; decide), if_neg (by rw [k]; decide), if_pos k, e1]
    rw [a1, a2, qt4, qv4]
    obtain ⟨g1, g2⟩ := rl_doc (T := T) (t := t) z4 z
    exact ⟨⟨_, g1, rds_d⟩, fun y => (g2 y).1⟩
  | 5, _, ek =>
    have k : lnk T t s = 16 := (Option.some.inj ek).symm
    have a1 : ru2 T t tl s = oos T t 22 23 24 (nxs T t s) := by unfold ru2; rw [if_neg (by rw [k]; decide), if_neg (by rw [k]; decide), if_neg (by rw [k]; decide), if_neg (by rw [k]; decide), if_neg (by rw [k]; decide), if_pos k, e1]
    have a2 : ruv T t tl s = (if nmk T t (nxs T t s) = 22 then 1 else if nmk T t (nxs T t s) = 23 then 0 else -4) := by unfold ruv; rw [if_neg (by rw [k]; decide), if_neg (by rw [k]; decide), if_neg (by rw [k]; decide), if_neg (by rw [k]; decide), if_neg (by rw [k]; decide), if_pos k, e1]
    have ec : ∀ r : Rst, ooc T t 22 23 24 r = ooc T t 23 22 24 r := fun r => by
      unfold ooc
      congr 1
      by_cases q : nmk T t r = 22 ∨ nmk T t r = 23 ∨ nmk T t r = 24
      · rw [if_pos q, if_pos (or_sw q)]
      · rw [if_neg q, if_neg (fun y => q (or_sw y))]
    rw [a1, a2, qt5, qv5]
    obtain ⟨g1, g2⟩ := rl_one (j := 4) (x := 23) (y := 22) (z := 24) z4 z (am4 T t) frq4
    refine ⟨⟨_, g1, by rw [oos_d, ec]⟩, fun y => ?_⟩
    obtain ⟨⟨m, hm, ev, em⟩, -⟩ := g2 y
    rw [ev]
    match m, hm, em with
    | 0, _, em => rw [← Option.some.inj em]; decide
    | 1, _, em => rw [← Option.some.inj em]; decide
    | 2, _, em => rw [← Option.some.inj em]; decide
  | 6, _, ek =>
    have k : lnk T t s = 17 := (Option.some.inj ek).symm
    have a1 : ru2 T t tl s = oos T t 20 18 21 (nxs T t s) := by unfold ru2; rw [if_neg (by rw [k]; decide), if_neg (by rw [k]; decide), if_neg (by rw [k]; decide), if_neg (by rw [k]; decide), if_neg (by rw [k]; decide), if_neg (by rw [k]; decide), e1]
    have a2 : ruv T t tl s = (if nmk T t (nxs T t s) = 20 then 0 else if nmk T t (nxs T t s) = 18 then 1 else 2) := by unfold ruv; rw [if_neg (by rw [k]; decide), if_neg (by rw [k]; decide), if_neg (by rw [k]; decide), if_neg (by rw [k]; decide), if_neg (by rw [k]; decide), if_neg (by rw [k]; decide), e1]
    rw [a1, a2, qt6, qv6]
    obtain ⟨g1, g2⟩ := rl_one (j := 5) (x := 20) (y := 18) (z := 21) z4 z (am5 T t) frq5
    refine ⟨⟨_, g1, oos_d⟩, fun y => ?_⟩
    obtain ⟨⟨m, hm, ev, em⟩, -⟩ := g2 y
    rw [ev]
    match m, hm, em with
    | 0, _, em => rw [← Option.some.inj em]; decide
    | 1, _, em => rw [← Option.some.inj em]; decide
    | 2, _, em => rw [← Option.some.inj em]; decide
/-- the class's draft of a rule -/
def CUq (M : Mm) (r : Nat) (ρ : QSt) (u : Int32) : Prop := (∀ i, i < 7 → gi M r i = ρ.2.2 i) ∧ ∀ i, i < 7 → (bt u i = true ↔ ¬ ρ.2.1 i = 0)
theorem eRr_readInto {r : Nat} {x0 v0 p0 : Int32} {K : Int32 → Mm → Prop} (hk : r % 64 = 3) (g0 : gr M 324 0 = some 199) (tc : TC M T t)
    (h1 : ∀ N, PX r M N → RN N r → ¬ (qpS T t 401 (qS0 T t x0 v0 p0) 0).1.1.2.2.2.2.1 = 0 → gi N 199 5 = (qpS T t 401 (qS0 T t x0 v0 p0) 0).1.1.2.2.2.2.1 → gi N 199 6 = (qpS T t 401 (qS0 T t x0 v0 p0) 0).1.1.2.2.2.2.2 → K (-1) N)
    (h3 : ∀ N, PX r M N → RN N r → (qpS T t 401 (qS0 T t x0 v0 p0) 0).1.1.2.2.2.2.1 = 0 → gi N 199 5 = 0 → (∀ i, i < 7 → gi N r i = (qpS T t 401 (qS0 T t x0 v0 p0) 0).1.2.2 i) → (qpS T t 401 (qS0 T t x0 v0 p0) 0).2 ≤ 400 → K (nI (qpS T t 401 (qS0 T t x0 v0 p0) 0).2) N) : CI mRr_readInto [.ref 324, .ref r] M K := by
  have ht := tc.2.2.2.1
  have x1 : r ≠ 199 := by omega
  have x2 : r ≠ 70 := by omega
  have x3 : r ≠ 145 := by omega
  have pA : PX r M (si (si (si (si (si (si (si M r 0 31) r 1 2) r 2 0) r 3 0) r 4 (-4)) r 5 (-4)) r 6 1) := px_tr px_si (px_tr px_si (px_tr px_si (px_tr px_si (px_tr px_si (px_tr px_si px_si)))))
  have vA : ∀ i, i < 7 → gi (si (si (si (si (si (si (si M r 0 31) r 1 2) r 2 0) r 3 0) r 4 (-4)) r 5 (-4)) r 6 1) r i = dv i := by
    intro i hi
    simp only [gxs]
    match i, hi with
    | 0, _ => rfl
    | 1, _ => rfl
    | 2, _ => rfl
    | 3, _ => rfl
    | 4, _ => rfl
    | 5, _ => rfl
    | 6, _ => rfl
  refine call_of rfl (Nat.le_of_ble_eq_true rfl) rfl (vRr_readInto_0 hk (call_of rfl (Nat.le_of_ble_eq_true rfl) rfl (vRu_clear_0 hk (vRr_readInto_4 rfl g0 ?_))))
  generalize si (si (si (si (si (si (si M r 0 31) r 1 2) r 2 0) r 3 0) r 4 (-4)) r 5 (-4)) r 6 1 = A at pA vA ⊢
  have tA : TC A T t := tc_gi pA.1 (pA.2.2 70 (by decide) (Ne.symm x2)) (pA.2.2 145 (by decide) (Ne.symm x3)) tc
  refine nTo_begin tA rfl (fun B pB tB => vRr_readInto_11 rfl (by rw [pB.1, pA.1]; exact g0) (nTo_advance tB (fun C pC tC => ?_)))
  have pMC : PX r M C := px_tr pA (px_pt (pt_tr pB pC))
  have vC : ∀ i, i < 7 → gi C r i = dv i := fun i hi => by rw [pC.2.2 r x1, pB.2.2 r x1]; exact vA i hi
  have rC : RN C r := by unfold RN; rw [vC 2 (by decide)]; exact Or.inl rfl
  have rp : ∀ {N O : Mm}, PT N O → RN N r → RN O r := fun p a => by unfold RN; rw [p.2.2 r x1]; exact a
  have cC : CUq C r (qS0 T t x0 v0 p0) 0 := ⟨vC, fun i hi => by rw [b_0]; exact ⟨fun z => absurd z (by decide), fun z => absurd rfl z⟩⟩
  have rlC : RL (adv T t (0, 0, 0, gi A 199 4, 0, 0)) (qS0 T t x0 v0 p0).1 := rl_adv0 tc rfl rfl rfl
  have pos0 : (qS0 T t x0 v0 p0).1.2.2.2.2.1 = 0 → ¬ (qS0 T t x0 v0 p0).1.2.2.1 = 0 → 0 < (qS0 T t x0 v0 p0).1.2.1 := fun f n => by
    have := (go_nxs (T := T) (t := t) (s := (0, 0, x0, v0, 0, p0))).2 f
    exact this.2 n
  generalize qS0 T t x0 v0 p0 = ρ0 at h1 h3 cC rlC pos0
  generalize eF : qpS T t 401 ρ0 0 = F at h1 h3
  have bout : ∀ N s u ρ v, PX r M N → TD N T t s → RN N r → RL s ρ.1 → (s.2.2.2.2.1 = 0 → CUq N r ρ u) → v ≤ 400 → (ρ, v) = F → K (if gi N 199 5 = 0 then nI v else (-1)) N := by
    intro N s u ρ v pN tN rN rl lk hv e
    subst e
    have n5 := tN.2.2.2.2.2.1
    have n6 := tN.2.2.2.2.2.2.1
    by_cases z : s.2.2.2.2.1 = 0
    · have zr : ρ.1.2.2.2.2.1 = 0 := rl.1.symm.trans z
      rw [n5, if_pos z]
      exact h3 N pN rN zr (n5.trans z) (lk z).1 hv
    · have zr : ¬ ρ.1.2.2.2.2.1 = 0 := fun y => z (rl.1.trans y)
      rw [n5, if_neg z]
      exact h1 N pN rN zr (n5.trans rl.1) (n6.trans (rl.2.1 z))
  have key : ∀ n v N s u ρ, v + n = 400 → PX r M N → TD N T t s → RN N r → RL s ρ.1 → (s.2.2.2.2.1 = 0 → CUq N r ρ u) → (ρ.1.2.2.2.2.1 = 0 → ¬ ρ.1.2.2.1 = 0 → v < ρ.1.2.1) → qpS T t (n + 1) ρ v = F → X mRr_readInto 22 [(0, .ref 324), (1, .ref r), (2, .int u), (3, .int (nI v))] [] N (mC mRr_readInto, mS mRr_readInto) (QI K) := by
    intro n
    induction n with
    | zero =>
      intro v N s u ρ hv pN tN rN rl lk pos e
      have gN : gr N 324 0 = some 199 := by rw [pN.1]; exact g0
      have ev : v = 400 := by omega
      have l : (400 : Int32) ≤ nI v := by rw [ev]; exact Int32.le_refl _
      have ex : ¬ ρ.1.2.2.2.2.1 = 0 ∨ ρ.1.2.2.1 = 0 := by
        by_cases f : ρ.1.2.2.2.2.1 = 0
        · right
          by_cases q : ρ.1.2.2.1 = 0
          · exact q
          · exfalso
            have p := pos f q
            have fs : s.2.2.2.2.1 = 0 := rl.1.trans f
            have b2 := tN.2.2.2.2.2.2.2.2
            rw [(rl.2.2 fs).2.1] at b2
            omega
        · exact Or.inl f
      exact vRr_readInto_22 rfl gN ⟨fun _ => bout N s u ρ v pN tN rN rl lk (by omega) ((qpS_stop T t ex).symm.trans e), fun q => absurd l q.1, fun q => absurd l q.1⟩
    | succ n ih =>
      intro v N s u ρ hv pN tN rN rl lk pos e
      have gN : gr N 324 0 = some 199 := by rw [pN.1]; exact g0
      have n5 := tN.2.2.2.2.2.1
      have n1 := tN.2.1
      have stop : (¬ ρ.1.2.2.2.2.1 = 0 ∨ ρ.1.2.2.1 = 0) → (ρ, v) = F := fun ex => (qpS_stop T t ex).symm.trans e
      have b74 : s.2.2.2.2.1 = 0 → ¬ ρ.1.2.2.1 = 0 → X mRr_readInto 74 [(0, .ref 324), (1, .ref r), (2, .int u), (3, .int (nI v))] [.int (if s.1 = 2 then amo T t 2 s else -1)] N (mC mRr_readInto, mS mRr_readInto) (QI K) := by
        intro z ns
        have zr : ρ.1.2.2.2.2.1 = 0 := rl.1.symm.trans z
        have cl := lk z
        have b2 := tN.2.2.2.2.2.2.2.2
        have hs4 : ρ.1.2.1 ≤ 400 := by rw [← (rl.2.2 z).2.1]; exact b2
        have e' : qpS T t (n + 1) (qlS T t ρ) (v + 1) = F := (qpS_go T t (fun y => y.elim (fun y => y zr) ns)).symm.trans e
        have b128 : ∀ O x u', PX r M O → TD O T t x → RN O r → RL (tkC T t x) (qlS T t ρ).1 → ((qlS T t ρ).1.2.2.2.2.1 = 0 → CUq O r (qlS T t ρ) u') → X mRr_readInto 128 [(0, .ref 324), (1, .ref r), (2, .int u'), (3, .int (nI v))] [] O (mC mRr_readInto, mS mRr_readInto) (QI K) := by
          intro O x u' pO tO rO rl' clO
          refine vRr_readInto_128 rfl (by rw [pO.1]; exact g0) (nTo_closeLine tO (fun P pP tP => vRr_readInto_135 ?_))
          rw [nI_s]
          refine ih (v + 1) P _ u' (qlS T t ρ) (by omega) (px_tr pO (px_pt pP)) tP (rp pP rO) rl' (fun y => ?_) (fun y1 y2 => ?_) e'
          · obtain ⟨c1, c2⟩ := clO (rl'.1.symm.trans y)
            exact ⟨fun i hi => by rw [pP.2.2 r x1]; exact c1 i hi, c2⟩
          · have g := ql_go y1
            have := pos zr ns
            omega
        have tf : ∀ {x : Tst}, ¬ x.2.2.2.2.1 = 0 → tkC T t x = x := fun hx => by unfold tkC; rw [if_neg hx]
        rcases lr_rel (T := T) (t := t) hs4 rl z with ⟨ek, er⟩ | ⟨i, hi, ek, er, ec⟩
        · rw [ek]
          have rf := rl_fail (k := 2) rl z (by decide)
          have fx : ¬ (tfl 2 s).2.2.2.2.1 = 0 := tfl_ne (by decide)
          refine vRr_readInto_74 rfl gN ⟨fun q => absurd q (by decide), fun _ => nTo_fail tN (fun O pO tO => vRr_readInto_89 (b128 O _ u (px_tr pN (px_pt pO)) tO (rp pO rN) ?_ (fun y => absurd er (ql_row y).1)))⟩
          rw [tf fx, ql_1a er]; exact rf
        · rw [ek]
          have nr : ¬ row (lnk T t ρ.1) = -4 := by rw [er]; exact nI4 (by omega)
          have ci : (row (lnk T t ρ.1)).toNatClampNeg = i := by rw [er]; exact ncl (by omega)
          have p0 : (0 : Int32) ≤ nI i := nI_pos' (by omega)
          refine vRr_readInto_74 rfl gN ⟨fun _ => sC_holds (vRr_readInto_99 rfl gN ⟨fun q => ?_, fun q => ?_⟩), fun q => absurd p0 q⟩
          · have nb : ¬ bt u i = true := fun y => by
              rw [if_pos ((bitu _ (by omega)).mpr y)] at q
              exact absurd q (by decide)
            have t0 : ρ.2.1 i = 0 := by
              by_cases y : ρ.2.1 i = 0
              · exact y
              · exact absurd ((cl.2 i hi).mpr y) nb
            obtain ⟨nx, nv⟩ := rl_tell (tl := ρ.2.1) tc ht hs4 hi rl z er ec t0
            refine eRr_tell hk hi gN tN (fun O pO tO gO => b128 O _ _ (px_tr pN pO) tO ?_ ?_ (fun y => ?_))
            · unfold RN
              rw [gO 2]
              by_cases q2 : 2 = i
              · rw [if_pos q2, ← q2, qv2]; exact Or.inr rfl
              · rw [if_neg q2]; exact rN
            · rw [ql_1 nr]
              obtain ⟨y, g1, g2⟩ := nx
              unfold ru3
              rw [g2]
              exact rl_close tc g1
            · obtain ⟨-, y3⟩ := ql_row y
              have yx : (qtS T t i s).2.2.2.2.1 = 0 := by
                by_cases yy : (qtS T t i s).2.2.2.2.1 = 0
                · exact yy
                · exfalso
                  unfold ru3 at y3
                  exact (nxt_f nx yy).2 (eln_ok y3).2
              rw [ql_1c nr y3, ci]
              have ev := nv yx
              generalize ru3 T t ρ.2.1 ρ.1 = s3
              unfold CUq
              dsimp only
              refine ⟨fun j hj => ?_, fun j hj => ?_⟩
              · rw [gO j]
                unfold up1
                by_cases q2 : j = i
                · rw [if_pos q2, if_pos q2]; exact ev
                · rw [if_neg q2, if_neg q2]; exact cl.1 j hj
              · rw [b_or, b_one i (by omega) j (by omega), Bool.or_eq_true, decide_eq_true_eq]
                unfold up1
                by_cases q2 : j = i
                · rw [if_pos q2]
                  exact ⟨fun _ => by decide, fun _ => Or.inr q2⟩
                · rw [if_neg q2]
                  exact ⟨fun y => (cl.2 j hj).mp (y.resolve_right q2), fun y => Or.inl ((cl.2 j hj).mpr y)⟩
          · have bb : bt u i = true := by
              by_cases y : bt u i = true
              · exact y
              · rw [if_neg (fun x => y ((bitu _ (by omega)).mp x))] at q
                exact absurd rfl q
            have t1 : ¬ ρ.2.1 i = 0 := (cl.2 i hi).mp bb
            have rf := rl_fail (k := 4) rl z (by decide)
            have fx : ¬ (tfl 4 s).2.2.2.2.1 = 0 := tfl_ne (by decide)
            have fy : ¬ (wts 0 4 ρ.1).2.2.2.2.1 = 0 := wts02 (by decide)
            have e1 : ru1 T t ρ.2.1 ρ.1 = wts 0 4 ρ.1 := by
              unfold ru1
              rw [ci, if_neg t1, if_neg nr, wts_t (g := 1) (by decide), nxs_f fy]
            have e3 : ru3 T t ρ.2.1 ρ.1 = wts 0 4 ρ.1 := by
              have e2 : ru2 T t ρ.2.1 ρ.1 = wts 0 4 ρ.1 := by rw [ru2_f (by rw [e1]; exact fy), e1]
              unfold ru3
              rw [e2, eln_f fy]
            refine nTo_fail tN (fun O pO tO => vRr_readInto_110 (b128 O _ u (px_tr pN (px_pt pO)) tO (rp pO rN) ?_ (fun y => ?_)))
            · rw [tf fx, ql_1 nr, e3]; exact rf
            · exfalso
              have := (ql_row y).2
              rw [e3] at this
              exact fy this
      have kend : s.2.2.2.2.1 = 0 → (s.1 = 1 ↔ ρ.1.2.2.1 = 0) := fun f => ks1 (rl.2.2 f).2.2.1
      have nv : ¬ (400 : Int32) ≤ nI v := by rw [show (400 : Int32) = nI 400 from rfl, nle (by omega) (by decide)]; omega
      refine vRr_readInto_22 rfl gN ⟨fun q => ?_, fun q => ?_, fun q => sTo_among (j := 2) tN (by decide) (vRr_readInto_70 ?_)⟩
      · refine bout N s u ρ v pN tN rN rl lk (by omega) (stop ?_)
        rw [n5, n1] at q
        rcases q with q | q | q
        · exact absurd q nv
        · exact Or.inl (fun y => q.2 (rl.1.trans y))
        · exact Or.inr ((kend q.2.1).mp q.2.2)
      · rw [n5, n1] at q
        have := b74 q.2.1 (fun y => q.2.2.1 ((kend q.2.1).mpr y))
        rw [if_neg q.2.2.2] at this
        exact this
      · rw [n5, n1] at q
        have := b74 q.2.1 (fun y => q.2.2.1 ((kend q.2.1).mpr y))
        rw [if_pos q.2.2.2] at this
        exact this
  exact key 400 0 C _ 0 ρ0 (by omega) pMC tC rC rlC (fun _ => cC) pos0 eF
end EQC
end MG52
section MG53
/-! ===== a library of any words is settled: nothing but its own rows changes ===== -/
def ST (r : Nat) (M N : Mm) : Prop := gr N = gr M ∧ gl N = gl M ∧ gi N r 1 = gi M r 1 ∧ (∀ w, w < 24 → ∀ i, i < 9 → gi N (r + 776 + 64 * w) i = gi M (r + 776 + 64 * w) i) ∧ (∀ a, ¬ (r ≤ a ∧ a < r + 2304) → gi N a = gi M a) ∧ gi N (r + 140) = gi M (r + 140)
theorem st_rf (r : Nat) (M : Mm) : ST r M M := ⟨rfl, rfl, rfl, fun _ _ _ _ => rfl, fun _ _ => rfl, rfl⟩
theorem st_tr {r : Nat} {M N O : Mm} (f : ST r M N) (g : ST r N O) : ST r M O := ⟨g.1.trans f.1, g.2.1.trans f.2.1, g.2.2.1.trans f.2.2.1, fun w hw i hi => (g.2.2.2.1 w hw i hi).trans (f.2.2.2.1 w hw i hi), fun a h => (g.2.2.2.2.1 a h).trans (f.2.2.2.2.1 a h), g.2.2.2.2.2.trans f.2.2.2.2.2⟩
/-- a row of the library's own -/
def ox (r x j : Nat) : Prop := (r ≤ x ∧ x < r + 2304) ∧ ¬ (x = r ∧ j = 1) ∧ x ≠ r + 140 ∧ (x < r + 776 ∨ 9 ≤ j)
theorem st_si {r x j : Nat} {M : Mm} {v : Int32} (h : ox r x j) : ST r M (si M x j v) := by
  obtain ⟨h1, h2, h3, h4⟩ := h
  refine ⟨rfl, rfl, ?_, fun w hw i hi => ?_, fun a ha => gi_ne (fun e => ha (by omega)), gi_ne (Ne.symm h3)⟩
  · rw [gi_si, if_neg (fun e => h2 (by omega))]
  · rw [gi_si, if_neg (fun e => by omega)]
theorem st_fl {r x n : Nat} {M : Mm} {v : Int32} (h : r < x ∧ x < r + 776) (h2 : x ≠ r + 140) : ST r M (fl M x n v) := by
  refine ⟨rfl, rfl, ?_, fun w hw i hi => ?_, fun a ha => ?_, ?_⟩
  · rw [flR _ _ _ _ _ _ (by omega)]
  · rw [flR _ _ _ _ _ _ (by omega)]
  · funext k; rw [flR _ _ _ _ _ _ (by omega)]
  · funext k; rw [flR _ _ _ _ _ _ (Ne.symm h2)]
theorem ld_st {r D : Nat} {M N : Mm} (f : ST r M N) (l : LD M r D) : LD N r D := by
  obtain ⟨k1, k2, k3, k4⟩ := l
  refine ⟨lr_gr k1 f.1, f.2.2.1.trans k2, k3, fun w hw => ?_⟩
  have e : ∀ i, i < 9 → gi N (r + 776 + 64 * w) i = gi M (r + 776 + 64 * w) i := f.2.2.2.1 w (by omega)
  unfold WK
  rw [e 1 (by decide), e 2 (by decide), e 3 (by decide), e 6 (by decide)]
  exact k4 w hw
section CS1
variable {M : Mm} {r D : Nat}
theorem ld_le (l : LD M r D) {i : Nat} (hi : i < D) : ¬ gi M r 1 ≤ nI i := by have := l.2.2.1; rw [l.2.1]; exact nge rfl (by omega) hi
theorem ld_se (l : LD M r D) : gi M r 1 ≤ nI D := by rw [l.2.1]; exact Int32.le_refl _
theorem ld_gw (l : LD M r D) {i : Nat} (hi : i < 24) : gr M (r + 81) (nI i).toNatClampNeg = some (r + 776 + 64 * i) := by rw [ncl (by omega)]; exact l.1.2.2 i hi
theorem ld_v (l : LD M r D) {i : Nat} (hi : i < D) : vp_in (nI i) 24 := by have := l.2.2.1; exact vin (by omega) (by decide)
theorem wkk (l : LD M r D) (w : Nat) : (r + 776 + 64 * w) % 64 = 9 := by have := l.1.1; omega
theorem lS_sortWords {K : Mm → Prop} (l : LD M r D) (h : ∀ N, ST r M N → K N) : CV mLi_sortWords [.ref r] M K := by
  have hl := l.1
  have hD := l.2.2.1
  refine call_of rfl (Nat.le_of_ble_eq_true rfl) rfl (vLi_sortWords_0 hl.1 (lr7 hl) (sJr_fill (lrk hl 460 13 rfl (by decide)) ak_13 (by decide) (vLi_sortWords_8 hl.1 (lr8 hl) (sJr_fill (lrk hl 524 13 rfl (by decide)) ak_13 (by decide) (vLi_sortWords_16 hl.1 ?_)))))
  have s0 : ST r M (si (si (fl (fl M (r + 460) 8 0) (r + 524) 8 0) r 10 0) r 11 0) := st_tr (st_fl (by omega) (by omega)) (st_tr (st_fl (by omega) (by omega)) (st_tr (st_si ⟨by omega, by omega, by omega, by omega⟩) (st_si ⟨by omega, by omega, by omega, by omega⟩)))
  refine lp D (P := fun i => ∀ N, ST r M N → X mLi_sortWords 28 [(0, .ref r), (1, .int (nI i))] [] N (mC mLi_sortWords, mS mLi_sortWords) (QV K)) (fun i hi ih N sN => ?_) (fun N sN => ?_) _ s0
  · have lN := ld_st sN l
    have hN := lN.1
    obtain ⟨⟨b, hb, eb⟩, hd, -, -⟩ := lN.2.2.2 i hi
    have b80 : ∀ O, ST r M O → X mLi_sortWords 80 [(0, .ref r), (1, .int (nI i)), (2, .ref (r + 776 + 64 * i))] [] O (mC mLi_sortWords, mS mLi_sortWords) (QV K) := by
      intro O sO
      refine vLi_sortWords_80 hl.1 (wkk l i) ?_
      rw [nI_s]
      exact ih _ (st_tr sO (st_tr (st_si ⟨by omega, by omega, by omega, by omega⟩) (st_si ⟨by omega, by omega, by omega, by omega⟩)))
    refine vLi_sortWords_28 hl.1 (lr0 hN) (lr8 hN) (lr7 hN) ⟨fun q => absurd q (ld_le lN hi), fun _ => ⟨ld_v lN hi, r + 776 + 64 * i, ld_gw lN (by omega), ?_⟩⟩
    have vb : vp_in (gi N (r + 776 + 64 * i) 2) 8 := by rw [eb]; exact vin hb (by decide)
    refine ⟨vb, vb, ?_⟩
    have s1 : ∀ v, ST r M (si N (r + 524) (gi N (r + 776 + 64 * i) 2).toNatClampNeg v) := fun v => st_tr sN (st_si ⟨by omega, by omega, by omega, by omega⟩)
    have e1 : ∀ v, gi (si N (r + 524) (gi N (r + 776 + 64 * i) 2).toNatClampNeg v) (r + 776 + 64 * i) 1 = gi N (r + 776 + 64 * i) 1 := fun v => by rw [giR _ _ _ _ _ _ (by omega)]
    rw [e1]
    have vd : ¬ gi N (r + 776 + 64 * i) 1 < 0 → vp_in (gi N (r + 776 + 64 * i) 1) 8 := fun q => by
      obtain ⟨d, hd, ed⟩ := hd.resolve_left q
      rw [ed]; exact vin hd (by decide)
    exact ⟨vd, fun _ => b80 _ (s1 _), fun q => ⟨vd q, b80 _ (st_tr (s1 _) (st_si ⟨by omega, by omega, by omega, by omega⟩))⟩⟩
  · have lN := ld_st sN l
    exact vLi_sortWords_28 hl.1 (lr0 lN.1) (lr8 lN.1) (lr7 lN.1) ⟨fun _ => h N sN, fun q => absurd (ld_se lN) q⟩
theorem lS_findFollowed {K : Mm → Prop} (l : LD M r D) (h : ∀ N, ST r M N → K N) : CV mLi_findFollowed [.ref r] M K := by
  have hl := l.1
  have hD := l.2.2.1
  refine call_of rfl (Nat.le_of_ble_eq_true rfl) rfl (vLi_findFollowed_0 ?_)
  refine lp D (P := fun i => ∀ N, ST r M N → X mLi_findFollowed 2 [(0, .ref r), (1, .int (nI i))] [] N (mC mLi_findFollowed, mS mLi_findFollowed) (QV K)) (fun i hi ih N sN => ?_) (fun N sN => ?_) _ (st_rf r M)
  · have lN := ld_st sN l
    have hN := lN.1
    obtain ⟨-, hd, -, -⟩ := lN.2.2.2 i hi
    have b89 : ∀ O, ST r M O → X mLi_findFollowed 89 [(0, .ref r), (1, .int (nI i))] [] O (mC mLi_findFollowed, mS mLi_findFollowed) (QV K) := by
      intro O sO
      have lO := ld_st sO l
      refine vLi_findFollowed_89 hl.1 (lr15 lO.1) (lr14 lO.1) ⟨ld_v lO hi, ld_v lO hi, ?_⟩
      rw [nI_s]
      exact ih _ (st_tr sO (st_si ⟨by omega, by omega, by omega, by omega⟩))
    have s1 : ∀ v, ST r M (si N (r + 651) (nI i).toNatClampNeg v) := fun v => st_tr sN (st_si ⟨by omega, by omega, by omega, by omega⟩)
    have s2 : ∀ v w, ST r M (si (si N (r + 651) (nI i).toNatClampNeg v) (r + 651) (nI i).toNatClampNeg w) := fun v w => st_tr (s1 v) (st_si ⟨by omega, by omega, by omega, by omega⟩)
    refine vLi_findFollowed_2 hl.1 (lr0 hN) (lr14 hN) (lr7 hN) ⟨fun q => absurd q (ld_le lN hi), fun _ => ⟨ld_v lN hi, r + 776 + 64 * i, ld_gw lN (by omega), ld_v lN hi, fun q => ?_, fun _ => b89 _ (s1 _), fun _ => ⟨ld_v lN hi, b89 _ (s2 _ _)⟩, fun _ => ⟨ld_v lN hi, b89 _ (s2 _ _)⟩⟩⟩
    have e1 : gi (si N (r + 651) (nI i).toNatClampNeg 0) (r + 776 + 64 * i) 1 = gi N (r + 776 + 64 * i) 1 := by rw [giR _ _ _ _ _ _ (by omega)]
    rw [e1] at q ⊢
    obtain ⟨d, hd, ed⟩ := hd.resolve_left q.2.2
    rw [ed]; exact vin hd (by decide)
  · have lN := ld_st sN l
    exact vLi_findFollowed_2 hl.1 (lr0 lN.1) (lr14 lN.1) (lr7 lN.1) ⟨fun _ => h N sN, fun q => absurd (ld_se lN) q⟩
theorem lS_findRings {K : Mm → Prop} (l : LD M r D) (h : ∀ N, ST r M N → K N) : CV mLi_findRings [.ref r] M K := by
  have hl := l.1
  have hD := l.2.2.1
  refine call_of rfl (Nat.le_of_ble_eq_true rfl) rfl (vLi_findRings_0 ?_)
  have k3 : ∀ N, ST r M N → X mLi_findRings 110 [(0, .ref r), (1, .int 0)] [] N (mC mLi_findRings, mS mLi_findRings) (QV K) := by
    intro N sN
    refine lp D (P := fun i => ∀ N, ST r M N → X mLi_findRings 110 [(0, .ref r), (1, .int (nI i))] [] N (mC mLi_findRings, mS mLi_findRings) (QV K)) (fun i hi ih N sN => ?_) (fun N sN => ?_) N sN
    · have lN := ld_st sN l
      have b144 : ∀ x y, X mLi_findRings 144 [(0, .ref r), (1, .int (nI i))] [.int x, .int y, .ref r] N (mC mLi_findRings, mS mLi_findRings) (QV K) := by
        intro x y
        refine vLi_findRings_144 hl.1 ?_
        rw [nI_s]
        exact ih _ (st_tr sN (st_si ⟨by omega, by omega, by omega, by omega⟩))
      exact vLi_findRings_110 hl.1 (lr15 lN.1) ⟨fun _ => ld_v lN hi, fun q => absurd q (ld_le lN hi), fun _ => b144 _ _, fun _ => b144 _ _⟩
    · have lN := ld_st sN l
      exact vLi_findRings_110 hl.1 (lr15 lN.1) ⟨fun q => absurd (ld_se lN) q, fun _ => h N sN, fun q => absurd (ld_se lN) q.1, fun q => absurd (ld_se lN) q.1⟩
  have k2 : ∀ N, ST r M N → X mLi_findRings 67 [(0, .ref r), (1, .int 0)] [] N (mC mLi_findRings, mS mLi_findRings) (QV K) := by
    intro N sN
    refine lp D (P := fun i => ∀ N, ST r M N → X mLi_findRings 67 [(0, .ref r), (1, .int (nI i))] [] N (mC mLi_findRings, mS mLi_findRings) (QV K)) (fun i hi ih N sN => ?_) (fun N sN => ?_) N sN
    · have lN := ld_st sN l
      refine vLi_findRings_67 hl.1 (lr15 lN.1) ⟨fun _ => ld_v lN hi, fun q => absurd q (ld_le lN hi), fun _ => ?_⟩
      rw [nI_s]
      exact ih _ (st_tr sN (st_si ⟨by omega, by omega, by omega, by omega⟩))
    · have lN := ld_st sN l
      exact vLi_findRings_67 hl.1 (lr15 lN.1) ⟨fun q => absurd (ld_se lN) q, fun _ => k3 _ (st_tr sN (st_si ⟨by omega, by omega, by omega, by omega⟩)), fun q => absurd (ld_se lN) q⟩
  refine lp D (P := fun m => ∀ N, ST r M N → X mLi_findRings 2 [(0, .ref r), (1, .int (nI m))] [] N (mC mLi_findRings, mS mLi_findRings) (QV K)) (fun m hm ih N sN => ?_) (fun N sN => ?_) _ (st_rf r M)
  · have lN := ld_st sN l
    refine vLi_findRings_2 hl.1 ⟨fun q => absurd q (ld_le lN hm), fun _ => ?_⟩
    refine lp D (P := fun i => ∀ N, ST r M N → X mLi_findRings 12 [(0, .ref r), (1, .int (nI m)), (2, .int (nI i))] [] N (mC mLi_findRings, mS mLi_findRings) (QV K)) (fun i hi ih2 N sN => ?_) (fun N sN => ?_) N sN
    · have lN := ld_st sN l
      refine vLi_findRings_12 hl.1 (lr15 lN.1) ⟨fun _ => ld_v lN hi, fun q => absurd q (ld_le lN hi), fun _ => sC_holds (vLi_findRings_30 hl.1 (lr15 lN.1) ⟨fun _ => ld_v lN hi, fun _ => ld_v lN hm, fun _ => ?_, fun _ => ⟨ld_v lN hi, ?_⟩⟩)⟩
      · rw [nI_s]; exact ih2 N sN
      · rw [nI_s]; exact ih2 _ (st_tr sN (st_si ⟨by omega, by omega, by omega, by omega⟩))
    · have lN := ld_st sN l
      refine vLi_findRings_12 hl.1 (lr15 lN.1) ⟨fun q => absurd (ld_se lN) q, fun _ => ?_, fun q => absurd (ld_se lN) q⟩
      rw [nI_s]; exact ih N sN
  · have lN := ld_st sN l
    exact vLi_findRings_2 hl.1 ⟨fun _ => k2 _ (st_tr sN (st_si ⟨by omega, by omega, by omega, by omega⟩)), fun q => absurd (ld_se lN) q⟩
def sav (M : Mm) (r : Nat) (w : Int32) (c : Nat) : Int32 := if ((ushr (gi M (r + 205) c) w) &&& 1) = 1 then 1 else if ((ushr (gi M (r + 269) c) w) &&& 1) = 1 then 0 else -4
theorem sLi_saying {w : Int32} {c : Nat} {K : Int32 → Mm → Prop} (hl : LR M r) (hc : c < 64) (h : K (sav M r w c) M) : CI mLi_saying [.ref r, .int w, .int (nI c)] M K := by
  have cc : (nI c).toNatClampNeg = c := ncl (by omega)
  unfold sav at h
  refine call_of rfl (Nat.le_of_ble_eq_true rfl) rfl (vLi_saying_0 hl.1 (lr3 hl) (lr4 hl) ⟨vin hc (by decide), fun _ => vin hc (by decide), fun q => ?_, fun q => ?_, fun q => ?_⟩)
  · rw [cc] at q
    rw [if_neg q.1, if_neg q.2] at h; exact h
  · rw [cc] at q
    rw [if_neg q.1, if_pos q.2] at h; exact h
  · rw [cc] at q
    rw [if_pos q] at h; exact h
theorem lS_speak {w : Nat} {K : Mm → Prop} (l : LD M r D) (hw : w < D) (h : ∀ N, ST r M N → K N) : CV mLi_speak [.ref r, .int (nI w)] M K := by
  have hl := l.1
  have hD := l.2.2.1
  obtain ⟨-, -, ⟨m, hm, em⟩, hf⟩ := l.2.2.2 w hw
  have vm : vp_in (gi M (r + 776 + 64 * w) 3) 64 := by rw [em]; exact vin hm (by decide)
  have b84 : ∀ N v, ST r M N → X mLi_speak 84 [(0, .ref r), (1, .int (nI w)), (2, .ref (r + 776 + 64 * w)), (3, .int v), (4, .int 0)] [] N (mC mLi_speak, mS mLi_speak) (QV K) := by
    intro N v sN
    refine lp 64 (P := fun c => ∀ N, ST r M N → X mLi_speak 84 [(0, .ref r), (1, .int (nI w)), (2, .ref (r + 776 + 64 * w)), (3, .int v), (4, .int (nI c))] [] N (mC mLi_speak, mS mLi_speak) (QV K)) (fun c hc ih N sN => ?_) (fun N sN => ?_) N sN
    · have lN := ld_st sN l
      have b115 : ∀ x, X mLi_speak 115 [(0, .ref r), (1, .int (nI w)), (2, .ref (r + 776 + 64 * w)), (3, .int v), (4, .int (nI c))] [.int x] N (mC mLi_speak, mS mLi_speak) (QV K) := by
        intro x
        have vc := vin hc (show 64 < 2 ^ 31 by decide)
        refine vLi_speak_115 hl.1 (lr3 lN.1) (lr4 lN.1) ⟨vc, vc, vc, vc, ?_⟩
        rw [nI_s]
        exact ih _ (st_tr sN (st_tr (st_si ⟨by omega, by omega, by omega, by omega⟩) (st_si ⟨by omega, by omega, by omega, by omega⟩)))
      refine vLi_speak_84 (wkk l w) hl.1 ⟨fun q => absurd q (nge rfl (by decide) hc), fun _ => call_of rfl (Nat.le_of_ble_eq_true rfl) rfl (vLi_ownSaying_0 (wkk l w) ⟨fun _ => b115 _, fun _ => b115 _⟩), fun _ => call_of rfl (Nat.le_of_ble_eq_true rfl) rfl (vLi_followedSaying_0 (wkk l w) hl.1 (sLi_saying lN.1 hc (vLi_followedSaying_9 (wkk l w) ⟨fun _ => vLi_speak_105 (b115 _), fun _ => vLi_speak_105 (b115 _)⟩)))⟩
    · exact vLi_speak_84 (wkk l w) hl.1 ⟨fun _ => h N sN, fun q => absurd (nself rfl) q.1, fun q => absurd (nself rfl) q.1⟩
  have b56 : ∀ v, X mLi_speak 56 [(0, .ref r), (1, .int (nI w)), (2, .ref (r + 776 + 64 * w)), (3, .int v)] [] M (mC mLi_speak, mS mLi_speak) (QV K) := by
    intro v
    refine vLi_speak_56 (wkk l w) hl.1 (lr0 hl) ⟨fun _ => vLi_speak_81 (b84 M v (st_rf r M)), fun q => ?_⟩
    obtain ⟨f, hf, ef⟩ := hf.resolve_left q
    rw [ef]
    exact ⟨vin (show f < 24 by omega) (by decide), r + 776 + 64 * f, ld_gw l (by omega), vLi_speak_81 (b84 _ v (st_si ⟨by omega, by omega, by omega, by omega⟩))⟩
  refine call_of rfl (Nat.le_of_ble_eq_true rfl) rfl (vLi_speak_0 hl.1 (lr0 hl) (lr3 hl) (lr14 hl) (lr4 hl) ⟨ld_v l hw, r + 776 + 64 * w, ld_gw l (by omega), fun _ => vm, fun _ => ld_v l hw, fun _ => vm, fun _ => ld_v l hw, fun _ => b56 _, fun _ => sC_agreed (vLi_speak_55 (b56 _))⟩)
theorem lS_speakInOrder {K : Mm → Prop} (l : LD M r D) (h : ∀ N, ST r M N → K N) : CV mLi_speakInOrder [.ref r] M K := by
  have hl := l.1
  have hD := l.2.2.1
  refine call_of rfl (Nat.le_of_ble_eq_true rfl) rfl (vLi_speakInOrder_0 hl.1 (lr3 hl) (sJr_fill (lrk hl 205 14 rfl (by decide)) ak_14 (by decide) (vLi_speakInOrder_8 hl.1 (lr4 hl) (sJr_fill (lrk hl 269 14 rfl (by decide)) ak_14 (by decide) (vLi_speakInOrder_16 hl.1 ?_)))))
  have s0 : ST r M (fl (fl M (r + 205) 64 0) (r + 269) 64 0) := st_tr (st_fl (by omega) (by omega)) (st_fl (by omega) (by omega))
  have k2 : ∀ N, ST r M N → X mLi_speakInOrder 87 [(0, .ref r), (2, .int 0)] [] N (mC mLi_speakInOrder, mS mLi_speakInOrder) (QV K) := by
    intro N sN
    refine lp D (P := fun i => ∀ N, ST r M N → X mLi_speakInOrder 87 [(0, .ref r), (2, .int (nI i))] [] N (mC mLi_speakInOrder, mS mLi_speakInOrder) (QV K)) (fun i hi ih N sN => ?_) (fun N sN => ?_) N sN
    · have lN := ld_st sN l
      refine vLi_speakInOrder_87 hl.1 ⟨fun q => absurd q (ld_le lN hi), fun _ => sC_holds (vLi_speakInOrder_103 hl.1 (lr0 lN.1) ⟨fun _ => ?_, fun _ => ⟨ld_v lN hi, r + 776 + 64 * i, ld_gw lN (by omega), ?_⟩⟩)⟩
      · rw [nI_s]; exact ih N sN
      · rw [nI_s]; exact ih _ (st_tr sN (st_si ⟨by omega, by omega, by omega, by omega⟩))
    · have lN := ld_st sN l
      exact vLi_speakInOrder_87 hl.1 ⟨fun _ => h N sN, fun q => absurd (ld_se lN) q⟩
  refine lp D (P := fun i => ∀ N v, ST r M N → X mLi_speakInOrder 23 [(0, .ref r), (1, .int v), (2, .int (nI i))] [] N (mC mLi_speakInOrder, mS mLi_speakInOrder) (QV K)) (fun i hi ih N v sN => ?_) (fun N v sN => ?_) _ _ s0
  · have lN := ld_st sN l
    refine vLi_speakInOrder_23 hl.1 ⟨fun q => absurd q (ld_le lN hi), fun _ => ?_⟩
    refine lp D (P := fun w => ∀ N v, ST r M N → X mLi_speakInOrder 33 [(0, .ref r), (1, .int v), (2, .int (nI i)), (3, .int (nI w))] [] N (mC mLi_speakInOrder, mS mLi_speakInOrder) (QV K)) (fun w hw ih2 N v sN => ?_) (fun N v sN => ?_) N v sN
    · have lN := ld_st sN l
      refine vLi_speakInOrder_33 hl.1 ⟨fun q => absurd q (ld_le lN hw), fun _ => sC_holds (vLi_speakInOrder_46 hl.1 (lr14 lN.1) ⟨fun _ => ld_v lN hw, fun _ => ?_, fun _ => lS_speak lN hw (fun O sO => vLi_speakInOrder_67 ?_)⟩)⟩
      · rw [nI_s]; exact ih2 N v sN
      · rw [nI_s]; exact ih2 O _ (st_tr sN sO)
    · have lN := ld_st sN l
      refine vLi_speakInOrder_33 hl.1 ⟨fun _ => ?_, fun q => absurd (ld_se lN) q⟩
      rw [nI_s]; exact ih N v sN
  · have lN := ld_st sN l
    exact vLi_speakInOrder_23 hl.1 ⟨fun _ => k2 N sN, fun q => absurd (ld_se lN) q⟩
theorem lS_weightOf {w : Nat} {K : Int32 → Mm → Prop} (l : LD M r D) (hw : w < D) (h : ∀ v, K v M) : CI mLi_weightOf [.ref r, .int (nI w)] M K := by
  have hl := l.1
  have hD := l.2.2.1
  have b65 : ∀ v, v < D → X mLi_weightOf 65 [(0, .ref r), (2, .int (nI v))] [] M (mC mLi_weightOf, mS mLi_weightOf) (QI K) := by
    intro v hv
    exact vLi_weightOf_65 hl.1 (lr0 hl) ⟨ld_v l hv, r + 776 + 64 * v, ld_gw l (by omega), sJi_bitCount (fun x _ => vLi_weightOf_77 hl.1 (lr0 hl) ⟨ld_v l hv, r + 776 + 64 * v, ld_gw l (by omega), sJi_bitCount (fun y _ => vLi_weightOf_89 (h _))⟩)⟩
  have b25 : X mLi_weightOf 25 [(0, .ref r), (1, .int (nI w))] [] M (mC mLi_weightOf, mS mLi_weightOf) (QI K) := by
    refine vLi_weightOf_25 ?_
    refine lp D (P := fun i => ∀ v, v < D → X mLi_weightOf 29 [(0, .ref r), (2, .int (nI v)), (3, .int (nI i))] [] M (mC mLi_weightOf, mS mLi_weightOf) (QI K)) (fun i hi ih v hv => ?_) (fun v hv => ?_) w hw
    · obtain ⟨-, -, -, hf⟩ := l.2.2.2 v hv
      refine vLi_weightOf_29 hl.1 (lr0 hl) ⟨fun q => absurd q (ld_le l hi), fun _ => ⟨ld_v l hv, r + 776 + 64 * v, ld_gw l (by omega), fun _ => b65 v hv, fun q => ⟨ld_v l hv, r + 776 + 64 * v, ld_gw l (by omega), ?_⟩⟩⟩
      obtain ⟨f, hf, ef⟩ := hf.resolve_left q
      rw [ef, nI_s]
      exact ih f hf
    · exact vLi_weightOf_29 hl.1 (lr0 hl) ⟨fun _ => b65 v hv, fun q => absurd (ld_se l) q⟩
  exact call_of rfl (Nat.le_of_ble_eq_true rfl) rfl (vLi_weightOf_0 hl.1 (lr0 hl) ⟨ld_v l hw, r + 776 + 64 * w, ld_gw l (by omega), fun _ => b25, fun _ => sC_holds (vLi_weightOf_20 ⟨fun _ => b25, fun _ => h _⟩)⟩)
theorem lS_weighAll {K : Mm → Prop} (l : LD M r D) (h : ∀ N, ST r M N → K N) : CV mLi_weighAll [.ref r] M K := by
  have hl := l.1
  have hD := l.2.2.1
  refine call_of rfl (Nat.le_of_ble_eq_true rfl) rfl (vLi_weighAll_0 hl.1 (lr9 hl) (sJr_fill (lrk hl 590 15 rfl (by decide)) ak_15 (by decide) (vLi_weighAll_8 ?_)))
  refine lp D (P := fun i => ∀ N, ST r M N → X mLi_weighAll 10 [(0, .ref r), (1, .int (nI i))] [] N (mC mLi_weighAll, mS mLi_weighAll) (QV K)) (fun i hi ih N sN => ?_) (fun N sN => ?_) _ (st_fl (by omega) (by omega))
  · have lN := ld_st sN l
    refine vLi_weighAll_10 hl.1 ⟨fun q => absurd q (ld_le lN hi), fun _ => lS_weightOf lN hi (fun v => vLi_weighAll_23 hl.1 (lr0 lN.1) (lr9 lN.1) ⟨ld_v lN hi, r + 776 + 64 * i, ld_gw lN (by omega), fun q => ?_, fun q => ?_, fun q => ⟨?_, ?_⟩⟩)⟩
    · obtain ⟨k, hk, ek⟩ := rng (c := 7) (n := 7) rfl (by decide) q.1 q.2
      rw [ek]; exact vin hk (by decide)
    · rw [nI_s]; exact ih _ (st_tr sN (st_si ⟨by omega, by omega, by omega, by omega⟩))
    · obtain ⟨k, hk, ek⟩ := rng (c := 7) (n := 7) rfl (by decide) q.1 q.2
      rw [ek]; exact vin hk (by decide)
    · rw [nI_s]; exact ih _ (st_tr sN (st_tr (st_si ⟨by omega, by omega, by omega, by omega⟩) (st_si ⟨by omega, by omega, by omega, by omega⟩)))
  · have lN := ld_st sN l
    exact vLi_weighAll_10 hl.1 ⟨fun _ => h N sN, fun q => absurd (ld_se lN) q⟩
theorem lS_lawSaying {c : Nat} {b : Int32} {K : Int32 → Mm → Prop} (l : LD M r D) (hc : c < 64) (h : ∀ v, K v M) : CI mLi_lawSaying [.ref r, .int (nI c), .int b] M K := by
  have hl := l.1
  have hD := l.2.2.1
  refine call_of rfl (Nat.le_of_ble_eq_true rfl) rfl (vLi_lawSaying_0 hl.1 (sLi_speaking hl hc (vLi_lawSaying_5 hl.1 ?_)))
  have fin : ∀ x y, vp_in (nI c) 64 ∧ vp_in (nI c) 64 ∧ CI mC_agreed [.int x, .int y] M (fun rv N => X mLi_lawSaying 135 [] [.int rv] N (mC mLi_lawSaying, mS mLi_lawSaying) (QI K)) := fun x y => ⟨vin hc (by decide), vin hc (by decide), sC_agreed (vLi_lawSaying_135 (h _))⟩
  refine lp D (P := fun i => ∀ v x y, X mLi_lawSaying 21 [(0, .ref r), (1, .int (nI c)), (2, .int b), (3, .int v), (4, .int x), (5, .int y), (6, .int (nI i))] [] M (mC mLi_lawSaying, mS mLi_lawSaying) (QI K)) (fun i hi ih v x y => ?_) (fun v x y => ?_) _ _ _
  · refine vLi_lawSaying_21 hl.1 (lr3 hl) (lr4 hl) ⟨fun _ => fin _ _, fun _ => sC_holds (vLi_lawSaying_40 hl.1 (lr0 hl) ⟨fun _ => ?_, fun _ => ⟨ld_v l hi, r + 776 + 64 * i, ld_gw l (by omega), fun _ => vLi_lawSaying_88 ?_, fun _ => vLi_lawSaying_88 ?_⟩⟩)⟩
    · rw [nI_s]; exact ih _ _ _
    · rw [nI_s]; exact ih _ _ _
    · rw [nI_s]; exact ih _ _ _
  · exact vLi_lawSaying_21 hl.1 (lr3 hl) (lr4 hl) ⟨fun _ => fin _ _, fun q => absurd (ld_se l) q.1⟩
theorem lS_askLaws {K : Mm → Prop} (l : LD M r D) (h : ∀ N, ST r M N → K N) : CV mLi_askLaws [.ref r] M K := by
  have hl := l.1
  refine call_of rfl (Nat.le_of_ble_eq_true rfl) rfl (vLi_askLaws_0 ?_)
  refine lp 64 (P := fun c => ∀ N, ST r M N → X mLi_askLaws 2 [(0, .ref r), (1, .int (nI c))] [] N (mC mLi_askLaws, mS mLi_askLaws) (QV K)) (fun c hc ih N sN => ?_) (fun N sN => ?_) _ (st_rf r M)
  · have lN := ld_st sN l
    refine vLi_askLaws_2 hl.1 (lr5 lN.1) ⟨fun q => absurd q (nge rfl (by decide) hc), fun _ => lS_lawSaying lN hc (fun v => vLi_askLaws_19 (lrk hl 333 14 rfl (by decide)) hl.1 (lr6 lN.1) ⟨vin hc (by decide), ?_⟩)⟩
    have s1 : ST r M (si N (r + 333) (nI c).toNatClampNeg v) := st_tr sN (st_si ⟨by omega, by omega, by omega, by omega⟩)
    refine lS_lawSaying (ld_st s1 l) hc (fun v2 => vLi_askLaws_31 (lrk hl 397 14 rfl (by decide)) ⟨vin hc (by decide), ?_⟩)
    rw [nI_s]
    exact ih _ (st_tr s1 (st_si ⟨by omega, by omega, by omega, by omega⟩))
  · exact vLi_askLaws_2 hl.1 (lr5 (ld_st sN l).1) ⟨fun _ => h N sN, fun q => absurd (nself rfl) q⟩
theorem lS_settle {K : Mm → Prop} (l : LD M r D) (h : ∀ N, ST r M N → K N) : CV mLi_settle [.ref r] M K := by
  have hl := l.1
  refine call_of rfl (Nat.le_of_ble_eq_true rfl) rfl (vLi_settle_0 hl.1 (lS_sortWords l (fun N1 s1 => vLi_settle_4 hl.1 (lS_findFollowed (ld_st s1 l) (fun N2 s2 => vLi_settle_8 hl.1 (lS_findRings (ld_st (st_tr s1 s2) l) (fun N3 s3 => vLi_settle_12 hl.1 (lS_speakInOrder (ld_st (st_tr s1 (st_tr s2 s3)) l) (fun N4 s4 => vLi_settle_16 hl.1 (lS_weighAll (ld_st (st_tr s1 (st_tr s2 (st_tr s3 s4))) l) (fun N5 s5 => vLi_settle_20 hl.1 (lS_askLaws (ld_st (st_tr s1 (st_tr s2 (st_tr s3 (st_tr s4 s5)))) l) (fun N6 s6 => vLi_settle_24 (h N6 (st_tr s1 (st_tr s2 (st_tr s3 (st_tr s4 (st_tr s5 s6)))))))))))))))))))
end CS1
end MG53
section MG54
/-! ===== the class weighs: exact ===== -/
def WH (M : Mm) (L R : Nat) : Prop := gr M 5192 0 = some L ∧ gr M 5192 1 = some R ∧ gr M 5192 3 = some 5261 ∧ LR M L ∧ R % 64 = 3
def agr (y n : Int32) : Int32 := if n = 0 then (if y = 0 then -4 else 1) else (if y = 0 then 0 else -4)
/-- the heaviest of some words, of weights below k -/
def hvs (M : Mm) (L : Nat) (ws fw : Int32) : Nat → Int32
  | 0 => 0
  | k + 1 => if (ws &&& (gi M (L + 590) k ||| (if nI k = fw then 16777216 else 0))) = 0 then hvs M L ws fw k else ws &&& (gi M (L + 590) k ||| (if nI k = fw then 16777216 else 0))
def stl (M : Mm) (L R : Nat) (y n fw : Int32) : Int32 := if y = 0 ∨ n = 0 then agr y n else if gi M R 3 = 1 then (if y ≤ n then 0 else 1) else if gi M R 3 = 2 then agr (y &&& hvs M L (y ||| n) fw 7) (n &&& hvs M L (y ||| n) fw 7) else -4
def his (M : Mm) (L d : Nat) : Int32 := gi M (L + 460) d &&& gi M 5192 2
def opn (M : Mm) (L R d c : Nat) : Int32 := stl M L R (his M L d &&& gi M (L + 205) c) (his M L d &&& gi M (L + 269) c) 0
/-- what weighing may change -/
def WQ (M N : Mm) : Prop := gr N = gr M ∧ gl N = gl M ∧ (∀ a, ¬ (a = 5192 ∨ a = 5261) → gi N a = gi M a) ∧ gi N 5192 2 = gi M 5192 2
theorem wq_rf (M : Mm) : WQ M M := ⟨rfl, rfl, fun _ _ => rfl, rfl⟩
theorem wq_tr {M N O : Mm} (f : WQ M N) (g : WQ N O) : WQ M O := ⟨g.1.trans f.1, g.2.1.trans f.2.1, fun a h => (g.2.2.1 a h).trans (f.2.2.1 a h), g.2.2.2.trans f.2.2.2⟩
theorem wq_si {M : Mm} {a j : Nat} {v : Int32} (h : (a = 5192 ∧ j ≠ 2) ∨ a = 5261) : WQ M (si M a j v) := by
  refine ⟨rfl, rfl, fun b n => gi_ne (fun e => n (by omega)), ?_⟩
  rw [gi_si, if_neg (fun e => by omega)]
theorem wh_gr {M N : Mm} {L R : Nat} (w : WH M L R) (e : gr N = gr M) : WH N L R := ⟨by rw [e]; exact w.1, by rw [e]; exact w.2.1, by rw [e]; exact w.2.2.1, lr_gr w.2.2.2.1 e, w.2.2.2.2⟩
/-- a library lies away from what weighing changes -/
def LA (L : Nat) : Prop := L = 385 ∨ L = 2689
def RA (R : Nat) : Prop := R = 4995 ∨ R = 5059 ∨ R = 5123
section CW1
variable {M N : Mm} {L R : Nat}
theorem la_ne (h : LA L) {o : Nat} (ho : o < 2304) : ¬ (L + o = 5192 ∨ L + o = 5261) := by unfold LA at h; omega
theorem ra_ne (h : RA R) : ¬ (R = 5192 ∨ R = 5261) := by unfold RA at h; omega
theorem hvs_wq (f : WQ M N) (hL : LA L) (ws fw : Int32) : ∀ k, hvs N L ws fw k = hvs M L ws fw k
  | 0 => rfl
  | k + 1 => by rw [hvs, hvs, hvs_wq f hL ws fw k, f.2.2.1 (L + 590) (la_ne hL (by decide))]
theorem stl_wq (f : WQ M N) (hL : LA L) (hR : RA R) (y n fw : Int32) : stl N L R y n fw = stl M L R y n fw := by
  unfold stl; rw [hvs_wq f hL, f.2.2.1 R (ra_ne hR)]
theorem his_wq (f : WQ M N) (hL : LA L) (d : Nat) : his N L d = his M L d := by unfold his; rw [f.2.2.1 (L + 460) (la_ne hL (by decide)), f.2.2.2]
theorem opn_wq (f : WQ M N) (hL : LA L) (hR : RA R) (d c : Nat) : opn N L R d c = opn M L R d c := by
  unfold opn; rw [stl_wq f hL hR, his_wq f hL, f.2.2.1 (L + 205) (la_ne hL (by decide)), f.2.2.1 (L + 269) (la_ne hL (by decide))]
theorem sWe_heaviest {ws fw : Int32} {K : Int32 → Mm → Prop} (w : WH M L R) (h : K (hvs M L ws fw 7) M) : CI mWe_heaviest [.ref 5192, .int ws, .int fw] M K := by
  refine call_of rfl (Nat.le_of_ble_eq_true rfl) rfl (vWe_heaviest_0 ?_)
  have key : ∀ k, k ≤ 7 → K (hvs M L ws fw k) M → X mWe_heaviest 3 [(0, .ref 5192), (1, .int ws), (2, .int fw), (3, .int (nI k + (-1)))] [] M (mC mWe_heaviest, mS mWe_heaviest) (QI K) := by
    intro k
    induction k with
    | zero =>
      intro _ h
      have l : nI 0 + (-1) < 0 := by decide
      exact vWe_heaviest_3 rfl w.1 (lr9 w.2.2.2.1) ⟨fun q => absurd l q, fun _ => h, fun q => absurd l q.1, fun q => absurd l q.1⟩
    | succ k ih =>
      intro hk h
      have e : nI (k + 1) + (-1) = nI k := pk_m1 k
      rw [e]
      rw [hvs] at h
      have b28 : ∀ x, x = (if nI k = fw then 16777216 else 0) → X mWe_heaviest 28 [(0, .ref 5192), (1, .int ws), (2, .int fw), (3, .int (nI k))] [.int x, .int (gi M (L + 590) k), .int ws] M (mC mWe_heaviest, mS mWe_heaviest) (QI K) := by
        rintro x rfl
        refine vWe_heaviest_28 ⟨fun q => ?_, fun q => ?_⟩
        · rw [if_pos q] at h
          exact ih (by omega) h
        · rw [if_neg q] at h; exact h
      refine vWe_heaviest_3 rfl w.1 (lr9 w.2.2.2.1) ⟨fun _ => vin (by omega) (by decide), fun q => absurd q (n0 k (by omega)), fun q => ?_, fun q => ?_⟩
      · rw [ncl (by omega)]; exact b28 0 (by rw [if_neg q.2])
      · rw [ncl (by omega)]; exact b28 _ (by rw [if_pos q.2])
  exact key 7 (Nat.le_refl _) h
theorem sWe_settled {y n fw : Int32} {K : Int32 → Mm → Prop} (w : WH M L R) (h : K (stl M L R y n fw) M) : CI mWe_settled [.ref 5192, .int y, .int n, .int fw] M K := by
  unfold stl at h
  refine call_of rfl (Nat.le_of_ble_eq_true rfl) rfl (vWe_settled_0 rfl w.2.1 ⟨fun q => sC_agreed (vWe_settled_13 ?_), fun q => ?_, fun q => sWe_heaviest w (vWe_settled_55 (sC_agreed (vWe_settled_68 ?_))), fun q => ?_, fun q => ?_⟩)
  · rw [if_pos (q.imp id (fun q => q.2))] at h; exact h
  · rw [if_neg (fun z => z.elim q.1 q.2.1), if_neg q.2.2.1, if_neg q.2.2.2] at h; exact h
  · rw [if_neg (fun z => z.elim q.1 q.2.1), if_neg q.2.2.1, if_pos q.2.2.2] at h; exact h
  · rw [if_neg (fun z => z.elim q.1 q.2.1), if_pos q.2.2.1, if_pos q.2.2.2] at h; exact h
  · rw [if_neg (fun z => z.elim q.1 q.2.1), if_pos q.2.2.1, if_neg q.2.2.2] at h; exact h
theorem sWe_opinion {d c : Nat} {K : Int32 → Mm → Prop} (w : WH M L R) (hd : d < 8) (hc : c < 64) (h : K (opn M L R d c) M) : CI mWe_opinion [.ref 5192, .int (nI d), .int (nI c)] M K := by
  have l := w.2.2.2.1
  refine call_of rfl (Nat.le_of_ble_eq_true rfl) rfl (vWe_opinion_0 rfl w.1 (lr7 l) (lr3 l) (lr4 l) ⟨vin hd (by decide), vin hc (by decide), vin hc (by decide), ?_⟩)
  rw [ncl (show d < 2 ^ 31 by omega), ncl (show c < 2 ^ 31 by omega)]
  exact sWe_settled w (vWe_opinion_42 h)
def cls (M : Mm) (L d c : Nat) : Int32 := if (his M L d &&& gi M (L + 205) c) = 0 ∨ (his M L d &&& gi M (L + 269) c) = 0 then 0 else 1
theorem sWe_clashes {d c : Nat} {K : Int32 → Mm → Prop} (w : WH M L R) (hd : d < 8) (hc : c < 64) (h : K (cls M L d c) M) : CI mWe_clashes [.ref 5192, .int (nI d), .int (nI c)] M K := by
  have l := w.2.2.2.1
  have cd : (nI d).toNatClampNeg = d := ncl (by omega)
  have cc : (nI c).toNatClampNeg = c := ncl (by omega)
  unfold cls his at h
  refine call_of rfl (Nat.le_of_ble_eq_true rfl) rfl (vWe_clashes_0 rfl w.1 (lr7 l) (lr3 l) (lr4 l) ⟨vin hd (by decide), vin hc (by decide), fun _ => vin hc (by decide), fun q => ?_, fun q => ?_⟩)
  · rw [cd, cc] at q
    rw [if_pos (q.imp id (fun q => q.2))] at h; exact h
  · rw [cd, cc] at q
    rw [if_neg (fun z => z.elim q.1 q.2)] at h; exact h
def lwI (M : Mm) (L R c : Nat) : Int32 := if gi M R 6 = 0 then -4 else if gi M R 6 = 2 then gi M (L + 397) c else gi M (L + 333) c
theorem sWe_lawIn {c : Nat} {K : Int32 → Mm → Prop} (w : WH M L R) (hc : c < 64) (h : K (lwI M L R c) M) : CI mWe_lawIn [.ref 5192, .int (nI c)] M K := by
  have l := w.2.2.2.1
  have cc : (nI c).toNatClampNeg = c := ncl (by omega)
  unfold lwI at h
  refine call_of rfl (Nat.le_of_ble_eq_true rfl) rfl (vWe_lawIn_0 rfl w.2.1 w.1 (lr5 l) (lr6 l) ⟨fun _ => vin hc (by decide), fun _ => vin hc (by decide), fun q => ?_, fun q => ?_, fun q => ?_⟩)
  · rw [if_neg q.1, if_neg q.2] at h; rw [cc]; exact h
  · rw [if_neg q.1, if_pos q.2] at h; rw [cc]; exact h
  · rw [if_pos q] at h; exact h
/-- what the head says, by opinions o -/
def hds (hd : Int32) (o : Nat → Int32) : Int32 := if hd < 0 ∨ 8 ≤ hd then -4 else o hd.toNatClampNeg
theorem sWe_headSaying {K : Int32 → Mm → Prop} (w : WH M L R) (h : K (hds (gi M R 4) (gi M 5261)) M) : CI mWe_headSaying [.ref 5192] M K := by
  unfold hds at h
  refine call_of rfl (Nat.le_of_ble_eq_true rfl) rfl (vWe_headSaying_0 rfl w.2.1 w.2.2.1 ⟨fun q => ?_, fun q => ?_, fun q => ?_⟩)
  · obtain ⟨k, hk, ek⟩ := rng (c := 8) (n := 8) rfl (by decide) q.1 q.2
    rw [ek]; exact vin hk (by decide)
  · rw [if_pos (q.imp id (fun q => q.2))] at h; exact h
  · rw [if_neg (fun z => z.elim q.1 q.2)] at h; exact h
theorem sWe_decider {y n hd : Int32} {K : Int32 → Mm → Prop} (w : WH M L R) (h : K (byf (gi M 5192 5) y n hd (gi M R 5)) M) : CI mWe_decider [.ref 5192, .int y, .int n, .int hd] M K := by
  unfold byf at h
  refine call_of rfl (Nat.le_of_ble_eq_true rfl) rfl (vWe_decider_0 rfl w.2.1 ⟨fun q => ?_, fun q => ?_, fun q => ?_, fun q => ?_, fun q => ?_⟩)
  · rw [if_pos q.1, if_pos q.2.1, if_pos q.2.2.1, if_pos q.2.2.2] at h; exact h
  · rw [if_pos q.1, if_pos q.2.1, if_pos q.2.2.1, if_neg q.2.2.2] at h; exact h
  · rw [if_pos q.1, if_pos q.2.1, if_neg q.2.2] at h; exact h
  · rw [if_pos q.1, if_neg q.2] at h; exact h
  · rw [if_neg q] at h; exact h
def anb (b l y n hd si : Int32) : Int32 := if b = 1 then l else if b = 2 then (if y ≤ n then 0 else 1) else if b = 3 then hd else if b = 4 then si else -4
theorem sWe_answerBy {b y n hd : Int32} {K : Int32 → Mm → Prop} (w : WH M L R) (h : K (anb b (gi M 5192 5) y n hd (gi M R 5)) M) : CI mWe_answerBy [.ref 5192, .int b, .int y, .int n, .int hd] M K := by
  unfold anb at h
  refine call_of rfl (Nat.le_of_ble_eq_true rfl) rfl (vWe_answerBy_0 rfl w.2.1 ⟨fun q => ?_, fun q => ?_, fun q => ?_, fun q => ?_, fun q => ?_⟩)
  · rw [if_pos q] at h; exact h
  · subst q; exact h
  · subst q; exact h
  · subst q; exact h
  · rw [if_neg q.1, if_neg q.2.1, if_neg q.2.2.1, if_neg q.2.2.2] at h; exact h
/-- how many of the first k doctors say v -/
def ocn (o : Nat → Int32) (v : Int32) : Nat → Int32
  | 0 => 0
  | k + 1 => ocn o v k + (if o k = v then 1 else 0)
/-- what is weighed -/
def WV (M : Mm) (L R c : Nat) (N : Mm) : Prop := gi N 5192 4 = nI c ∧ gi N 5192 5 = lwI M L R c ∧ (∀ d, d < 8 → gi N 5261 d = opn M L R d c) ∧ gi N 5192 6 = ocn (fun d => opn M L R d c) 1 8 ∧ gi N 5192 7 = ocn (fun d => opn M L R d c) 0 8 ∧ gi N 5192 8 = byf (lwI M L R c) (ocn (fun d => opn M L R d c) 1 8) (ocn (fun d => opn M L R d c) 0 8) (hds (gi M R 4) (fun d => opn M L R d c)) (gi M R 5) ∧ gi N 5192 9 = anb (byf (lwI M L R c) (ocn (fun d => opn M L R d c) 1 8) (ocn (fun d => opn M L R d c) 0 8) (hds (gi M R 4) (fun d => opn M L R d c)) (gi M R 5)) (lwI M L R c) (ocn (fun d => opn M L R d c) 1 8) (ocn (fun d => opn M L R d c) 0 8) (hds (gi M R 4) (fun d => opn M L R d c)) (gi M R 5)
theorem g5 (M : Mm) (k i : Nat) (v : Int32) (h : i ≠ k) : gi (si M 5192 k v) 5192 i = gi M 5192 i := by rw [gi_si, if_neg (fun q => h q.2)]
theorem g5s (M : Mm) (k : Nat) (v : Int32) : gi (si M 5192 k v) 5192 k = v := by rw [gi_si, if_pos ⟨rfl, rfl⟩]
theorem hds_cg {hd : Int32} {o o' : Nat → Int32} (h : ∀ d, d < 8 → o d = o' d) : hds hd o = hds hd o' := by
  unfold hds
  by_cases q : hd < 0 ∨ 8 ≤ hd
  · rw [if_pos q, if_pos q]
  · rw [if_neg q, if_neg q]
    obtain ⟨k, hk, ek⟩ := rng (c := 8) (n := 8) rfl (by decide) (fun z => q (Or.inl z)) (fun z => q (Or.inr z))
    rw [ek, ncl (by omega)]; exact h k hk
theorem eWe_weigh {c : Nat} {K : Mm → Prop} (w : WH M L R) (hL : LA L) (hR : RA R) (hc : c < 64) (h : ∀ N, WQ M N → WV M L R c N → K N) : CV mWe_weigh [.ref 5192, .int (nI c)] M K := by
  have nR := ra_ne hR
  refine call_of rfl (Nat.le_of_ble_eq_true rfl) rfl (vWe_weigh_0 rfl ?_)
  have q0 : WQ M (si M 5192 4 (nI c)) := wq_si (Or.inl ⟨rfl, by decide⟩)
  have el : lwI (si M 5192 4 (nI c)) L R c = lwI M L R c := by
    unfold lwI; rw [q0.2.2.1 R nR, q0.2.2.1 (L + 397) (la_ne hL (by decide)), q0.2.2.1 (L + 333) (la_ne hL (by decide))]
  refine sWe_lawIn (wh_gr w q0.1) hc (vWe_weigh_11 rfl rfl ?_)
  rw [el]
  have q1 : WQ M (si (si (si (si M 5192 4 (nI c)) 5192 5 (lwI M L R c)) 5192 6 0) 5192 7 0) := wq_tr q0 (wq_tr (wq_si (Or.inl ⟨rfl, by decide⟩)) (wq_tr (wq_si (Or.inl ⟨rfl, by decide⟩)) (wq_si (Or.inl ⟨rfl, by decide⟩))))
  have key := lp 8 (P := fun d => ∀ N, WQ M N → gi N 5192 4 = nI c → gi N 5192 5 = lwI M L R c → (∀ e, e < d → gi N 5261 e = opn M L R e c) → gi N 5192 6 = ocn (fun d => opn M L R d c) 1 d → gi N 5192 7 = ocn (fun d => opn M L R d c) 0 d → X mWe_weigh 26 [(0, .ref 5192), (1, .int (nI c)), (2, .int (nI d))] [] N (mC mWe_weigh, mS mWe_weigh) (QV K)) (fun d hd ih N qN n4 n5 no n6 n7 => ?_) (fun N qN n4 n5 no n6 n7 => ?_)
  · refine key _ q1 ?_ ?_ (fun e he => absurd he (by omega)) ?_ ?_
    · rw [g5 _ _ _ _ (by decide), g5 _ _ _ _ (by decide), g5 _ _ _ _ (by decide), g5s]
    · rw [g5 _ _ _ _ (by decide), g5 _ _ _ _ (by decide), g5s]
    · rw [g5 _ _ _ _ (by decide), g5s]; rfl
    · rw [g5s]; rfl
  · have wN := wh_gr w qN.1
    refine vWe_weigh_26 rfl ⟨fun q => absurd q (nge rfl (by decide) hd), fun _ => sWe_opinion wN hd hc (vWe_weigh_38 rfl wN.2.2.1 ⟨vin hd (by decide), ?_⟩)⟩
    rw [opn_wq qN hL hR, ncl (by omega), nI_s]
    generalize eo : opn M L R d c = o
    have k : ∀ j, gi (si N 5261 d o) 5192 j = gi N 5192 j := fun j => by rw [giR _ _ _ _ _ _ (by decide)]
    rw [k, n6]
    have k7 : ∀ v, gi (si (si N 5261 d o) 5192 6 v) 5192 7 = gi N 5192 7 := fun v => by rw [g5 _ _ _ _ (by decide), k]
    rw [k7, n7]
    refine ih _ (wq_tr qN (wq_tr (wq_si (Or.inr rfl)) (wq_tr (wq_si (Or.inl ⟨rfl, by decide⟩)) (wq_si (Or.inl ⟨rfl, by decide⟩))))) ?_ ?_ (fun e he => ?_) ?_ ?_
    · rw [g5 _ _ _ _ (by decide), g5 _ _ _ _ (by decide), k, n4]
    · rw [g5 _ _ _ _ (by decide), g5 _ _ _ _ (by decide), k, n5]
    · rw [giR _ _ _ _ _ _ (by decide), giR _ _ _ _ _ _ (by decide), gi_si]
      by_cases z : e = d
      · rw [if_pos ⟨rfl, z⟩, z, eo]
      · rw [if_neg (fun y => z y.2)]; exact no e (by omega)
    · rw [g5 _ _ _ _ (by decide), g5s, ocn, eo]
    · rw [g5s, ocn, eo]
  · have wN := wh_gr w qN.1
    refine vWe_weigh_26 rfl ⟨fun _ => sWe_headSaying wN (vWe_weigh_93 rfl (sWe_decider wN (vWe_weigh_108 rfl rfl ?_))), fun q => absurd (nself rfl) q⟩
    rw [n5, n6, n7, qN.2.2.1 R nR, hds_cg (o' := fun d => opn M L R d c) no]
    generalize eb : byf (lwI M L R c) (ocn (fun d => opn M L R d c) 1 8) (ocn (fun d => opn M L R d c) 0 8) (hds (gi M R 4) (fun d => opn M L R d c)) (gi M R 5) = b
    rw [g5s, g5 _ _ _ _ (by decide), g5 _ _ _ _ (by decide), n6, n7]
    have wO : WH (si N 5192 8 b) L R := wh_gr wN rfl
    refine sWe_answerBy wO (vWe_weigh_129 rfl ?_)
    have qO : WQ M (si N 5192 8 b) := wq_tr qN (wq_si (Or.inl ⟨rfl, by decide⟩))
    rw [g5 _ _ _ _ (by decide), n5, qO.2.2.1 R nR]
    refine h _ (wq_tr qO (wq_si (Or.inl ⟨rfl, by decide⟩))) ⟨?_, ?_, fun d hd => ?_, ?_, ?_, ?_, ?_⟩
    · rw [g5 _ _ _ _ (by decide), g5 _ _ _ _ (by decide), n4]
    · rw [g5 _ _ _ _ (by decide), g5 _ _ _ _ (by decide), n5]
    · rw [giR _ _ _ _ _ _ (by decide), giR _ _ _ _ _ _ (by decide)]; exact no d hd
    · rw [g5 _ _ _ _ (by decide), g5 _ _ _ _ (by decide), n6]
    · rw [g5 _ _ _ _ (by decide), g5 _ _ _ _ (by decide), n7]
    · rw [g5 _ _ _ _ (by decide), g5s, eb]
    · rw [g5s, eb]
end CW1
end MG54
section MG55
/-! ===== the class: which words count; weighing begins; what follows from weighing ===== -/
section CW2
variable {M N : Mm} {L R : Nat}
def mwd (M : Mm) (L R : Nat) : Nat → Int32
  | 0 => 0
  | k + 1 => mwd M L R k ||| (if ((ushr (gi M R 0) (nI k)) &&& 1) = 1 then gi M (L + 460) k else 0)
theorem sLi_mainWords {K : Int32 → Mm → Prop} (hl : LR M L) (hR : R % 64 = 3) (h : K (mwd M L R 8) M) : CI mLi_mainWords [.ref L, .ref R] M K := by
  refine call_of rfl (Nat.le_of_ble_eq_true rfl) rfl (vLi_mainWords_0 ?_)
  have key := lp 8 (P := fun k => X mLi_mainWords 4 [(0, .ref L), (1, .ref R), (2, .int (mwd M L R k)), (3, .int (nI k))] [] M (mC mLi_mainWords, mS mLi_mainWords) (QI K)) (fun k hk ih => ?_) ?_
  · exact key
  · refine vLi_mainWords_4 hR ⟨fun q => absurd q (nge rfl (by decide) hk), fun _ => sRu_isMain hR (vLi_mainWords_16 hl.1 (lr7 hl) ⟨fun _ => vin hk (by decide), ?_⟩)⟩
    rw [mwd] at ih
    rw [ncl (by omega), nI_s]
    by_cases c : ((ushr (gi M R 0) (nI k)) &&& 1) = 1
    · rw [if_pos c] at ih
      rw [if_pos c, if_neg (by decide)]; exact ih
    · rw [if_neg c] at ih
      rw [if_neg c, if_pos rfl]; exact ih
  · exact vLi_mainWords_4 hR ⟨fun _ => h, fun q => absurd (nself rfl) q⟩
def cto (M : Mm) (L R : Nat) (b : Int32) : Nat → Int32
  | 0 => mwd M L R 8
  | k + 1 => if ((ushr b (nI k)) &&& 1) = 1 ∧ ¬ gi M (L + 140) k < gi M R 1 then cto M L R b k ||| gi M (L + 524) k else cto M L R b k
def ctg (M : Mm) (L R : Nat) (b : Int32) : Int32 := (cto M L R b 8 &&& (gi M L 10 ^^^ (-1))) &&& (if gi M R 2 = 0 then gi M L 11 ^^^ (-1) else -1)
theorem sLi_counting {b : Int32} {K : Int32 → Mm → Prop} (hl : LR M L) (hR : R % 64 = 3) (h : K (ctg M L R b) M) : CI mLi_counting [.ref L, .ref R, .int b] M K := by
  refine call_of rfl (Nat.le_of_ble_eq_true rfl) rfl (vLi_counting_0 hl.1 (sLi_mainWords hl hR (vLi_counting_5 ?_)))
  have key := lp 8 (P := fun k => X mLi_counting 9 [(0, .ref L), (1, .ref R), (2, .int b), (3, .int (cto M L R b k)), (4, .int (nI k))] [] M (mC mLi_counting, mS mLi_counting) (QI K)) (fun k hk ih => ?_) ?_
  · exact key
  · have ck : (nI k).toNatClampNeg = k := ncl (by omega)
    have nk : ¬ (8 : Int32) ≤ nI k := nge rfl (by decide) hk
    rw [cto] at ih
    refine vLi_counting_9 hl.1 hR ⟨fun q => absurd q.1 nk, fun q => absurd q.1 nk, fun _ => sC_holds (vLi_counting_22 hl.1 hR (lr2 hl) (lr8 hl) ⟨fun _ => vin hk (by decide), fun _ => vin hk (by decide), fun q => ?_, fun q => ?_⟩)⟩
    · rw [ck] at q
      have c : ¬ (((ushr b (nI k)) &&& 1) = 1 ∧ ¬ gi M (L + 140) k < gi M R 1) := by
        rintro ⟨a, e⟩
        rcases q with q | q
        · rw [if_pos a] at q; exact absurd q (by decide)
        · exact e q.2
      rw [if_neg c] at ih
      rw [nI_s]; exact ih
    · rw [ck] at q ⊢
      have c : ((ushr b (nI k)) &&& 1) = 1 := by
        by_cases z : ((ushr b (nI k)) &&& 1) = 1
        · exact z
        · rw [if_neg z] at q; exact absurd rfl q.1
      rw [if_pos ⟨c, q.2⟩] at ih
      rw [nI_s]; exact ih
  · unfold ctg at h
    refine vLi_counting_9 hl.1 hR ⟨fun q => ?_, fun q => ?_, fun q => absurd (nself rfl) q⟩
    · rw [if_pos q.2] at h; exact h
    · rw [if_neg q.2] at h; exact h
theorem lS_tellingBooks {K : Int32 → Mm → Prop} (hl : LR M L) (hR : R % 64 = 3) (h : ∀ v, K v M) : CI mLi_tellingBooks [.ref L, .ref R] M K := by
  refine call_of rfl (Nat.le_of_ble_eq_true rfl) rfl (vLi_tellingBooks_0 hl.1 (sLi_mainWords hl hR (vLi_tellingBooks_5 hl.1 ?_)))
  refine lp 8 (P := fun k => ∀ x y, X mLi_tellingBooks 18 [(0, .ref L), (1, .ref R), (2, .int x), (3, .int y), (4, .int (nI k))] [] M (mC mLi_tellingBooks, mS mLi_tellingBooks) (QI K)) (fun k hk ih x y => ?_) (fun x y => ?_) _ _
  · have nk : ¬ (8 : Int32) ≤ nI k := nge rfl (by decide) hk
    refine vLi_tellingBooks_18 hl.1 hR (lr2 hl) (lr8 hl) ⟨fun _ => vin hk (by decide), fun _ => vin hk (by decide), fun q => absurd q nk, fun _ => ?_, fun _ => ?_⟩
    · rw [nI_s]; exact ih _ _
    · rw [nI_s]; exact ih _ _
  · have l : (8 : Int32) ≤ nI 8 := nself rfl
    refine vLi_tellingBooks_18 hl.1 hR (lr2 hl) (lr8 hl) ⟨fun q => absurd l q, fun q => absurd l q.1, fun _ => h _, fun q => ?_, fun q => absurd l q.1⟩
    exfalso
    rcases q with q | q <;> exact q.1 l
end CW2
/-- what a query of the class may change -/
def CQ (M N : Mm) : Prop := gl N = gl M ∧ (∀ a j, ¬ (a = 5192 ∧ j < 2) → gr N a j = gr M a j) ∧ ∀ a, ¬ (a = 5192 ∨ a = 5261 ∨ a = 5392) → gi N a = gi M a
theorem cq_rf (M : Mm) : CQ M M := ⟨rfl, fun _ _ _ => rfl, fun _ _ => rfl⟩
theorem cq_tr {M N O : Mm} (f : CQ M N) (g : CQ N O) : CQ M O := ⟨g.1.trans f.1, fun a j h => (g.2.1 a j h).trans (f.2.1 a j h), fun a h => (g.2.2 a h).trans (f.2.2 a h)⟩
theorem cq_wq {M N : Mm} (f : WQ M N) : CQ M N := ⟨f.2.1, fun a j _ => by rw [f.1], fun a h => f.2.2.1 a (fun e => h (by omega))⟩
/-- weighing has begun, with some books -/
def bgn (M : Mm) (L R : Nat) (b : Int32) : Mm := si (sr (sr M 5192 0 (some L)) 5192 1 (some R)) 5192 2 (ctg M L R b)
theorem gr_bgn (M : Mm) (L R : Nat) (b : Int32) (a j : Nat) (h : ¬ (a = 5192 ∧ j < 2)) : gr (bgn M L R b) a j = gr M a j := by
  show gr (sr (sr M 5192 0 (some L)) 5192 1 (some R)) a j = _
  rw [gr_sr, if_neg (fun e => h (by omega)), gr_sr, if_neg (fun e => h (by omega))]
theorem cq_bgn (M : Mm) (L R : Nat) (b : Int32) : CQ M (bgn M L R b) := by
  refine ⟨rfl, fun a j h => gr_bgn M L R b a j h, fun a h => ?_⟩
  unfold bgn
  rw [gi_ne (fun e => h (Or.inl e))]; rfl
theorem lr_cq {M N : Mm} {L : Nat} (hL : LA L) (f : CQ M N) (h : LR M L) : LR N L := by
  refine ⟨h.1, fun q hq => ?_, fun w hw => ?_⟩
  · rw [f.2.1 L q.1 (fun e => by unfold LA at hL; omega)]; exact h.2.1 q hq
  · rw [f.2.1 (L + 81) w (fun e => by unfold LA at hL; omega)]; exact h.2.2 w hw
theorem wh_bgn {M : Mm} {L R : Nat} (b : Int32) (hl : LR M L) (hL : LA L) (hR : RA R) (h3 : gr M 5192 3 = some 5261) : WH (bgn M L R b) L R := by
  refine ⟨?_, ?_, ?_, lr_cq hL (cq_bgn M L R b) hl, by unfold RA at hR; omega⟩
  · show gr (sr (sr M 5192 0 (some L)) 5192 1 (some R)) 5192 0 = _
    rw [gr_sr, if_neg (by decide), gr_sr, if_pos ⟨rfl, rfl⟩]
  · show gr (sr (sr M 5192 0 (some L)) 5192 1 (some R)) 5192 1 = _
    rw [gr_sr, if_pos ⟨rfl, rfl⟩]
  · rw [gr_bgn _ _ _ _ _ _ (by decide)]; exact h3
theorem sWe_begin {M : Mm} {L R : Nat} {b : Int32} {K : Mm → Prop} (hl : LR M L) (hL : LA L) (hR : RA R) (h : K (bgn M L R b)) : CV mWe_begin [.ref 5192, .ref L, .ref R, .int b] M K := by
  have h3 : R % 64 = 3 := by unfold RA at hR; omega
  refine call_of rfl (Nat.le_of_ble_eq_true rfl) rfl (vWe_begin_0 rfl hl.1 h3 ?_)
  have l2 : LR (sr (sr M 5192 0 (some L)) 5192 1 (some R)) L := by
    refine lr_cq (M := M) hL ⟨rfl, fun a j n => ?_, fun _ _ => rfl⟩ hl
    rw [gr_sr, if_neg (fun e => n (by omega)), gr_sr, if_neg (fun e => n (by omega))]
  refine sLi_counting l2 h3 (vWe_begin_17 rfl ?_)
  have e : ctg (sr (sr M 5192 0 (some L)) 5192 1 (some R)) L R b = ctg M L R b := by
    have m : ∀ k, mwd (sr (sr M 5192 0 (some L)) 5192 1 (some R)) L R k = mwd M L R k := by
      intro k
      induction k with
      | zero => rfl
      | succ k ih => rw [mwd, mwd, ih]; rfl
    have c : ∀ k, cto (sr (sr M 5192 0 (some L)) 5192 1 (some R)) L R b k = cto M L R b k := by
      intro k
      induction k with
      | zero => exact m 8
      | succ k ih => rw [cto, cto, ih]; rfl
    unfold ctg
    rw [c 8]; rfl
  rw [e]; exact h
section CW3
variable {M N : Mm} {L R : Nat}
/-- what is held, by what, how many -/
def ysC (M : Mm) (L R c : Nat) : Int32 := ocn (fun d => opn M L R d c) 1 8
def nsC (M : Mm) (L R c : Nat) : Int32 := ocn (fun d => opn M L R d c) 0 8
def byC (M : Mm) (L R c : Nat) : Int32 := byf (lwI M L R c) (ysC M L R c) (nsC M L R c) (hds (gi M R 4) (fun d => opn M L R d c)) (gi M R 5)
def heC (M : Mm) (L R c : Nat) : Int32 := anb (byC M L R c) (lwI M L R c) (ysC M L R c) (nsC M L R c) (hds (gi M R 4) (fun d => opn M L R d c)) (gi M R 5)
theorem lwI_wq (f : WQ M N) (hL : LA L) (hR : RA R) (c : Nat) : lwI N L R c = lwI M L R c := by
  unfold lwI; rw [f.2.2.1 R (ra_ne hR), f.2.2.1 (L + 397) (la_ne hL (by decide)), f.2.2.1 (L + 333) (la_ne hL (by decide))]
theorem opf_wq (f : WQ M N) (hL : LA L) (hR : RA R) (c : Nat) : (fun d => opn N L R d c) = fun d => opn M L R d c := funext fun d => opn_wq f hL hR d c
theorem ysC_wq (f : WQ M N) (hL : LA L) (hR : RA R) (c : Nat) : ysC N L R c = ysC M L R c := by unfold ysC; rw [opf_wq f hL hR]
theorem nsC_wq (f : WQ M N) (hL : LA L) (hR : RA R) (c : Nat) : nsC N L R c = nsC M L R c := by unfold nsC; rw [opf_wq f hL hR]
theorem byC_wq (f : WQ M N) (hL : LA L) (hR : RA R) (c : Nat) : byC N L R c = byC M L R c := by
  unfold byC; rw [lwI_wq f hL hR, ysC_wq f hL hR, nsC_wq f hL hR, opf_wq f hL hR, f.2.2.1 R (ra_ne hR)]
theorem heC_wq (f : WQ M N) (hL : LA L) (hR : RA R) (c : Nat) : heC N L R c = heC M L R c := by
  unfold heC; rw [byC_wq f hL hR, lwI_wq f hL hR, ysC_wq f hL hR, nsC_wq f hL hR, opf_wq f hL hR, f.2.2.1 R (ra_ne hR)]
theorem eWe_heldIn {c : Nat} {K : Int32 → Mm → Prop} (w : WH M L R) (hL : LA L) (hR : RA R) (hc : c < 64) (h : ∀ N, WQ M N → WV M L R c N → K (heC M L R c) N) : CI mWe_heldIn [.ref 5192, .int (nI c)] M K := by
  refine call_of rfl (Nat.le_of_ble_eq_true rfl) rfl (vWe_heldIn_0 rfl (eWe_weigh w hL hR hc (fun N qN vN => vWe_heldIn_5 rfl ?_)))
  have e : gi N 5192 9 = heC M L R c := vN.2.2.2.2.2.2
  rw [e]; exact h N qN vN
def csK (M : Mm) (L R : Nat) (v : Int32) (c : Nat) : Int32 := if v < 10 then (if heC M L R c = 1 then 0 else (if heC M L R c = 0 then 1 else 2)) else 10 + byC M L R c
def csO (M : Mm) (L R : Nat) (v : Int32) : Nat → Int64
  | 0 => 0
  | c + 1 => csO M L R v c ||| (if csK M L R v c = v then ((1 : Int64) <<< ((nI c).toInt64 &&& 63)) else 0)
theorem eWe_casesOf {v : Int32} {K : Int64 → Mm → Prop} (w : WH M L R) (hL : LA L) (hR : RA R) (h : ∀ N, WQ M N → K (csO M L R v 64) N) : CJ mWe_casesOf [.ref 5192, .int v] M K := by
  refine call_of rfl (Nat.le_of_ble_eq_true rfl) rfl (vWe_casesOf_0 ?_)
  have key := lp 64 (P := fun c => ∀ N, WQ M N → X mWe_casesOf 5 [(0, .ref 5192), (1, .int v), (2, .long (csO M L R v c)), (4, .int (nI c))] [] N (mC mWe_casesOf, mS mWe_casesOf) (QJ K)) (fun c hc ih N qN => ?_) (fun N qN => ?_)
  · exact key M (wq_rf M)
  · refine vWe_casesOf_5 rfl ⟨fun q => absurd q (nge rfl (by decide) hc), fun _ => eWe_weigh (wh_gr w qN.1) hL hR hc (fun O qO vO => vWe_casesOf_18 rfl ?_)⟩
    have e9 : gi O 5192 9 = heC M L R c := (show gi O 5192 9 = heC N L R c from vO.2.2.2.2.2.2).trans (heC_wq qN hL hR c)
    have e8 : gi O 5192 8 = byC M L R c := (show gi O 5192 8 = byC N L R c from vO.2.2.2.2.2.1).trans (byC_wq qN hL hR c)
    have := ih O (wq_tr qN qO)
    rw [csO] at this
    rw [e9, e8, nI_s]; exact this
  · exact vWe_casesOf_5 rfl ⟨fun _ => h N qN, fun q => absurd (nself rfl) q⟩
theorem lWe_heldIf {d : Nat} {o : Int32} {K : Int32 → Mm → Prop} (w : WH M L R) (hd : d < 8) (h : ∀ v, K v M) : CI mWe_heldIf [.ref 5192, .int (nI d), .int o] M K := by
  have b82 : ∀ x y z, X mWe_heldIf 82 [(0, .ref 5192), (3, .int x), (4, .int y)] [.int z] M (mC mWe_heldIf, mS mWe_heldIf) (QI K) := fun x y z => vWe_heldIf_82 rfl (sWe_decider w (vWe_heldIf_94 rfl (sWe_answerBy w (vWe_heldIf_102 (h _)))))
  exact call_of rfl (Nat.le_of_ble_eq_true rfl) rfl (vWe_heldIf_0 rfl w.2.2.1 w.2.1 ⟨vin hd (by decide), vin hd (by decide), fun _ => sWe_headSaying w (b82 _ _ _), fun _ => b82 _ _ _⟩)
theorem lWe_turnsBy {d c : Nat} {a fw : Int32} {K : Int32 → Mm → Prop} (w : WH M L R) (hd : d < 8) (hc : c < 64) (hw : gi M 5192 4 = nI c) (h : ∀ v, K v M) : CI mWe_turnsBy [.ref 5192, .int (nI d), .int a, .int fw] M K := by
  have l := w.2.2.2.1
  refine call_of rfl (Nat.le_of_ble_eq_true rfl) rfl (vWe_turnsBy_0 rfl w.1 (lr7 l) (lr3 l) (lr4 l) ?_)
  rw [hw]
  exact ⟨vin hd (by decide), vin hc (by decide), vin hc (by decide), sWe_settled w (vWe_turnsBy_82 rfl w.2.2.1 ⟨vin hd (by decide), fun _ => h _, fun _ => lWe_heldIf w hd (fun v => vWe_turnsBy_102 rfl ⟨fun _ => h _, fun _ => h _⟩)⟩)⟩
end CW3
/-- what tallying may change -/
def TQ (M N : Mm) : Prop := gr N = gr M ∧ gl N = gl M ∧ ∀ a, a ≠ 5392 → gi N a = gi M a
theorem tq_rf (M : Mm) : TQ M M := ⟨rfl, rfl, fun _ _ => rfl⟩
theorem tq_tr {M N O : Mm} (f : TQ M N) (g : TQ N O) : TQ M O := ⟨g.1.trans f.1, g.2.1.trans f.2.1, fun a h => (g.2.2 a h).trans (f.2.2 a h)⟩
section CW4
variable {M N : Mm} {L R : Nat}
theorem lFi_tally {d c : Nat} {a : Nat} {K : Mm → Prop} (w : WH M L R) (g0 : gr M 5312 0 = some 5192) (g1 : gr M 5312 1 = some 5392) (hd : d < 8) (ha : a < 2) (hc : c < 64) (hw : gi M 5192 4 = nI c) (h : ∀ N, TQ M N → K N) : CV mFi_tally [.ref 5312, .int (nI d), .int (nI a)] M K := by
  refine call_of rfl (Nat.le_of_ble_eq_true rfl) rfl (vFi_tally_0 rfl g0 ?_)
  rw [hw]
  have b57 : ∀ x, X mFi_tally 57 [(0, .ref 5312), (1, .int (nI d)), (2, .int (nI a)), (3, .int (nI c)), (4, .int x), (5, .int 0)] [] M (mC mFi_tally, mS mFi_tally) (QV K) := by
    intro x
    refine lp (c + 1) (P := fun m => ∀ N, TQ M N → X mFi_tally 57 [(0, .ref 5312), (1, .int (nI d)), (2, .int (nI a)), (3, .int (nI c)), (4, .int x), (5, .int (nI m))] [] N (mC mFi_tally, mS mFi_tally) (QV K)) (fun m hm ih N qN => ?_) (fun N qN => ?_) M (tq_rf M)
    · have ex : (((nI d * 2) + nI a) * 64) + nI m = nI ((d * 2 + a) * 64 + m) := by
        rw [show (2 : Int32) = nI 2 from rfl, show (64 : Int32) = nI 64 from rfl, pk_mul, nadd, pk_mul, nadd]
      refine vFi_tally_57 ⟨fun _ => h N qN, fun _ => ?_, fun _ => sJi_bitCount (fun v _ => vFi_tally_84 (sC_holds (vFi_tally_87 rfl (by rw [qN.1]; exact g1) ⟨fun _ => ?_, fun _ => ?_, fun _ => ⟨?_, ?_⟩⟩)))⟩
      · rw [nI_s]; exact ih N qN
      · rw [ex]; exact vin (by omega) (by decide)
      · rw [nI_s]; exact ih N qN
      · rw [ex]; exact vin (by omega) (by decide)
      · rw [nI_s]; exact ih _ (tq_tr qN ⟨rfl, rfl, fun b n => gi_ne n⟩)
    · have l : nI c < nI (c + 1) := (nlt (by omega) (by omega)).mpr (by omega)
      exact vFi_tally_57 ⟨fun _ => h N qN, fun q => absurd l q.1, fun q => absurd l q.1⟩
  refine lp 7 (P := fun k => ∀ x, X mFi_tally 14 [(0, .ref 5312), (1, .int (nI d)), (2, .int (nI a)), (3, .int (nI c)), (4, .int x), (5, .int (nI k))] [] M (mC mFi_tally, mS mFi_tally) (QV K)) (fun k hk ih x => ?_) (fun x => ?_) _
  · have nk : ¬ (6 : Int32) < nI k := by rw [show (6 : Int32) = nI 6 from rfl, nlt (by omega) (by decide)]; omega
    refine vFi_tally_14 rfl g0 ⟨fun q => absurd q nk, fun _ => lWe_turnsBy w hd hc hw (fun v => vFi_tally_34 ?_)⟩
    rw [nI_s]; exact ih _
  · exact vFi_tally_14 rfl g0 ⟨fun _ => b57 _, fun q => absurd (by decide) q⟩
theorem lFi_tallyDoctors {c : Nat} {K : Mm → Prop} (w : WH M L R) (g0 : gr M 5312 0 = some 5192) (g1 : gr M 5312 1 = some 5392) (hc : c < 64) (hw : gi M 5192 4 = nI c) (h : ∀ N, TQ M N → K N) : CV mFi_tallyDoctors [.ref 5312] M K := by
  refine call_of rfl (Nat.le_of_ble_eq_true rfl) rfl (vFi_tallyDoctors_0 ?_)
  refine lp 8 (P := fun d => ∀ N, TQ M N → X mFi_tallyDoctors 2 [(0, .ref 5312), (1, .int (nI d))] [] N (mC mFi_tallyDoctors, mS mFi_tallyDoctors) (QV K)) (fun d hd ih N qN => ?_) (fun N qN => ?_) M (tq_rf M)
  · have wN := wh_gr w qN.1
    have e0 : gr N 5312 0 = some 5192 := by rw [qN.1]; exact g0
    have e1 : gr N 5312 1 = some 5392 := by rw [qN.1]; exact g1
    refine vFi_tallyDoctors_2 rfl e0 wN.2.1 ⟨fun q => absurd q (nge rfl (by decide) hd), fun _ => sRu_isMain wN.2.2.2.2 (vFi_tallyDoctors_19 rfl ⟨fun _ => ?_, fun _ => lFi_tally (a := 0) wN e0 e1 hd (by decide) hc (by rw [qN.2.2 5192 (by decide)]; exact hw) (fun O qO => vFi_tallyDoctors_28 rfl ?_)⟩)⟩
    · rw [nI_s]; exact ih N qN
    · have qMO := tq_tr qN qO
      refine lFi_tally (a := 1) (wh_gr w qMO.1) (by rw [qMO.1]; exact g0) (by rw [qMO.1]; exact g1) hd (by decide) hc (by rw [qMO.2.2 5192 (by decide)]; exact hw) (fun P qP => vFi_tallyDoctors_34 ?_)
      rw [nI_s]; exact ih P (tq_tr qMO qP)
  · have wN := wh_gr w qN.1
    exact vFi_tallyDoctors_2 rfl (by rw [qN.1]; exact g0) wN.2.1 ⟨fun _ => h N qN, fun q => absurd (nself rfl) q⟩
/-- what the search for the best may change -/
def BQ (M N : Mm) : Prop := gr N = gr M ∧ gl N = gl M ∧ (∀ a, ¬ (a = 5192 ∨ a = 5261 ∨ a = 5392) → gi N a = gi M a)
theorem bq_tr {M N O : Mm} (f : BQ M N) (g : BQ N O) : BQ M O := ⟨g.1.trans f.1, g.2.1.trans f.2.1, fun a h => (g.2.2 a h).trans (f.2.2 a h)⟩
theorem bq_wq {M N : Mm} (f : WQ M N) : BQ M N := ⟨f.1, f.2.1, fun a h => f.2.2.1 a (fun e => h (by omega))⟩
theorem bq_tq {M N : Mm} (f : TQ M N) : BQ M N := ⟨f.1, f.2.1, fun a h => f.2.2 a (fun e => h (by omega))⟩
theorem cq_bq {M N : Mm} (f : BQ M N) : CQ M N := ⟨f.2.1, fun a j _ => by rw [f.1], f.2.2⟩
theorem lFi_best {K : Int32 → Mm → Prop} (w : WH M L R) (hL : LA L) (hR : RA R) (g0 : gr M 5312 0 = some 5192) (g1 : gr M 5312 1 = some 5392) (h : ∀ v N, BQ M N → (v < 0 ∨ ∃ i, i < 1024 ∧ v = nI i) → K v N) : CI mFi_best [.ref 5312] M K := by
  refine call_of rfl (Nat.le_of_ble_eq_true rfl) rfl (vFi_best_0 rfl g1 (sJr_fill (kk := 16) (nn := 1024) rfl ak_16 (by decide) (vFi_best_8 ?_)))
  have s0 : BQ M (fl M 5392 1024 0) := ⟨rfl, rfl, fun a n => by funext k; rw [flR _ _ _ _ _ _ (fun e => n (by omega))]⟩
  have b50 : ∀ N, BQ M N → X mFi_best 50 [(0, .ref 5312), (1, .int (-1)), (2, .int 0)] [] N (mC mFi_best, mS mFi_best) (QI K) := by
    intro N qN
    have wN := wh_gr w qN.1
    have e0 : gr N 5312 0 = some 5192 := by rw [qN.1]; exact g0
    have e1 : gr N 5312 1 = some 5392 := by rw [qN.1]; exact g1
    refine lp 1024 (P := fun i => ∀ v, (v < 0 ∨ ∃ i, i < 1024 ∧ v = nI i) → X mFi_best 50 [(0, .ref 5312), (1, .int v), (2, .int (nI i))] [] N (mC mFi_best, mS mFi_best) (QI K)) (fun i hi ih v hv => ?_) (fun v hv => ?_) _ (Or.inl (by decide))
    · refine vFi_best_50 rfl e1 e0 wN.2.1 ⟨fun q => absurd q (nge rfl (by decide) hi), fun _ => call_of rfl (Nat.le_of_ble_eq_true rfl) rfl (vFi_doctorAt_0 (vFi_best_70 wN.2.2.2.2 (sRu_isMain wN.2.2.2.2 (vFi_best_73 rfl e1 ⟨fun _ => vin hi (by decide), fun q => ?_, fun _ => ?_, fun _ => ?_⟩))))⟩
      · obtain ⟨j, hj, ej⟩ := hv.resolve_left q.2
        rw [ej]; exact vin hj (by decide)
      · rw [nI_s]; exact ih v hv
      · rw [nI_s]; exact ih _ (Or.inr ⟨i, hi, rfl⟩)
    · exact vFi_best_50 rfl e1 e0 wN.2.1 ⟨fun _ => h v N qN hv, fun q => absurd (nself rfl) q⟩
  refine lp 64 (P := fun c => ∀ N, BQ M N → X mFi_best 10 [(0, .ref 5312), (1, .int (nI c))] [] N (mC mFi_best, mS mFi_best) (QI K)) (fun c hc ih N qN => ?_) (fun N qN => ?_) _ s0
  · have wN := wh_gr w qN.1
    have e0 : gr N 5312 0 = some 5192 := by rw [qN.1]; exact g0
    refine vFi_best_10 rfl e0 ⟨fun q => absurd q (nge rfl (by decide) hc), fun _ => eWe_weigh wN hL hR hc (fun O qO vO => ?_)⟩
    have qMO := bq_tr qN (bq_wq qO)
    have o0 : gr O 5312 0 = some 5192 := by rw [qMO.1]; exact g0
    have o1 : gr O 5312 1 = some 5392 := by rw [qMO.1]; exact g1
    refine vFi_best_24 rfl o0 ⟨fun _ => ?_, fun _ => lFi_tallyDoctors (wh_gr w qMO.1) o0 o1 hc vO.1 (fun P qP => vFi_best_40 ?_)⟩
    · rw [nI_s]; exact ih O qMO
    · rw [nI_s]; exact ih P (bq_tr qMO (bq_tq qP))
  · exact vFi_best_10 rfl (by rw [qN.1]; exact g0) ⟨fun _ => b50 N qN, fun q => absurd (nself rfl) q⟩
end CW4
end MG55
