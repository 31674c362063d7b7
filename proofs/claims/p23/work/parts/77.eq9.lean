/-! ===== the reference's library, as the lines tell it ===== -/
/-- the reference's draft stands as the lines tell it -/
def ML (N : Mm) (σ : LSt) : Prop := gi N 6027 3 = nI σ.2.1 ∧ (∀ w, w < σ.2.1 → ∀ i, i < 8 → gi N 6229 (10 * w + i) = σ.2.2.1 w i) ∧ (∀ w, w < σ.2.1 → kCN (σ.2.2.1 w 0) → gi N 6423 w = σ.2.2.2.2.2.2 w) ∧ (∀ b, b < 8 → gi N 6285 b = σ.2.2.2.1 b) ∧ gi N 6027 8 = σ.2.2.2.2.2.1 ∧ ∀ b, b < 8 → gi N 6360 b = σ.2.2.2.2.1 b
section EQ9
variable {M N : Mm} {T : Nat → Int32} {t : Nat}
theorem ml_eq {σ : LSt} (h : ∀ a, a = 6229 ∨ a = 6423 ∨ a = 6285 ∨ a = 6360 → gi N a = gi M a) (h3 : gi N 6027 3 = gi M 6027 3) (h8 : gi N 6027 8 = gi M 6027 8) (l : ML M σ) : ML N σ := by
  unfold ML
  rw [h 6229 (by decide), h 6423 (by decide), h 6285 (by decide), h 6360 (by decide), h3, h8]
  exact l
theorem ml_pf {σ : LSt} (f : PF M N) (l : ML M σ) : ML N σ := ml_eq (fun a ha => f.2.2.1 a (by omega)) (f.2.2.2 3 (by decide)) (f.2.2.2 8 (by decide)) l
theorem ml_lb {σ : LSt} (ok : okS σ) (l : ML M σ) : LB M σ.2.1 := by
  obtain ⟨l1, l2, l3, l4, l5, l6⟩ := l
  refine ⟨l1, ok.1, by rw [l5]; exact ok.2.1, fun w hw => ?_⟩
  have h0 := l2 w hw 0 (by decide)
  rw [Nat.add_zero] at h0
  unfold RK
  rw [l2 w hw 2 (by decide), h0, l2 w hw 6 (by decide)]
  exact ok.2.2 w hw
theorem bad_eq {σ : LSt} {w : Nat} (ok : okS σ) (l : ML M σ) (hw : w < σ.2.1) : bad M σ.2.1 w ↔ bdS σ w := by
  obtain ⟨l1, l2, l3, l4, l5, l6⟩ := l
  have hD := ok.1
  obtain ⟨-, k, hk, ek, h⟩ := ok.2.2 w hw
  unfold bad bdS
  rw [l2 w hw 6 (by decide)]
  rcases h with ⟨n, e⟩ | ⟨n, f, hf, e⟩
  · rw [e]
    exact ⟨fun z => absurd rfl z.1, fun z => absurd rfl z.1⟩
  · rw [e, ncl (by omega)]
    by_cases lf : f < σ.2.1
    · have h0 := l2 f lf 0 (by decide)
      rw [Nat.add_zero] at h0
      rw [h0]
    · have le : nI σ.2.1 ≤ nI f := by rw [nle (by omega) (by omega)]; omega
      exact ⟨fun z => ⟨z.1, Or.inl le⟩, fun z => ⟨z.1, Or.inl le⟩⟩
theorem nM_lnS {σ : LSt} {K : Mm → Prop} (rd : RD M T t σ.1) (ml : ML M σ) (ok : okS σ) (h : ∀ N, PL M N → RD N T t (lnS T t σ).1 → ((lnS T t σ).1.2.2.2.2.1 = 0 → ML N (lnS T t σ)) → K N) : CV mM_readLine [.ref 6027] M K := by
  have e4 : ln4 T t σ.2.1 (gi M 6360) σ.1 = (lnS T t σ).1 := by rw [lnS_1]; exact ln4_cg ml.2.2.2.2.2
  refine nM_readLine rd ml.1 ok.1 (fun N pl rN nf => ?_) (fun N O pN pO rO z k => ?_) (fun N O i pN pO rO z k hi ei => ?_) (fun N O pN pO rO z k1 k2 hp => ?_)
  · rw [e4] at rN nf
    exact h N pl rN (fun y => absurd y nf)
  · rw [e4] at rO z
    refine h O (pl_tr (pl_pf pN) (pl_tr (pl_si (by decide)) (pl_pf pO))) rO (fun _ => ml_pf pO ?_)
    have f4 : (ln4 T t σ.2.1 σ.2.2.2.2.1 σ.1).2.2.2.2.1 = 0 := by rw [← lnS_1]; exact z
    have eS : lnS T t σ = (ln4 T t σ.2.1 σ.2.2.2.2.1 σ.1, σ.2.1, σ.2.2.1, σ.2.2.2.1, σ.2.2.2.2.1, (ln2 T t σ.2.1 σ.1).2.2.2.1, σ.2.2.2.2.2.2) := by
      unfold lnS; rw [if_neg (fun q => q f4), if_pos k]
    rw [eS]
    generalize ln4 T t σ.2.1 σ.2.2.2.2.1 σ.1 = s4
    obtain ⟨l1, l2, l3, l4, l5, l6⟩ := ml_pf pN ml
    unfold ML
    dsimp only
    rw [gi_ne (show (6229 : Nat) ≠ 6027 by decide), gi_ne (show (6423 : Nat) ≠ 6027 by decide), gi_ne (show (6285 : Nat) ≠ 6027 by decide), gi_ne (show (6360 : Nat) ≠ 6027 by decide), g6 _ _ _ _ (by decide), g6s]
    exact ⟨l1, l2, l3, l4, rfl, l6⟩
  · rw [e4] at rO z
    refine h O (pl_tr (pl_pf pN) (pl_tr (pl_si (Or.inl (by decide))) (pl_tr (pl_si (Or.inl (by decide))) (pl_pf pO)))) rO (fun _ => ml_pf pO ?_)
    have f4 : (ln4 T t σ.2.1 σ.2.2.2.2.1 σ.1).2.2.2.2.1 = 0 := by rw [← lnS_1]; exact z
    have n10 : ¬ lnk T t σ.1 = 10 := by rw [k]; decide
    have eS : lnS T t σ = (ln4 T t σ.2.1 σ.2.2.2.2.1 σ.1, σ.2.1, σ.2.2.1, up1 σ.2.2.2.1 (ln2 T t σ.2.1 σ.1).2.2.2.1.toNatClampNeg (rc3 T t (σ.2.2.2.2.1 (ln2 T t σ.2.1 σ.1).2.2.2.1.toNatClampNeg) (ln2 T t σ.2.1 σ.1)).2.2.2.1, up1 σ.2.2.2.2.1 (ln2 T t σ.2.1 σ.1).2.2.2.1.toNatClampNeg 1, σ.2.2.2.2.2.1, σ.2.2.2.2.2.2) := by
      unfold lnS; rw [if_neg (fun q => q f4), if_neg n10, if_pos k]
    rw [eS]
    generalize ln4 T t σ.2.1 σ.2.2.2.2.1 σ.1 = s4
    have ci : (ln2 T t σ.2.1 σ.1).2.2.2.1.toNatClampNeg = i := by rw [ei]; exact ncl (by omega)
    rw [ci, ml.2.2.2.2.2 i hi]
    generalize (rc3 T t (σ.2.2.2.2.1 i) (ln2 T t σ.2.1 σ.1)).2.2.2.1 = v
    obtain ⟨l1, l2, l3, l4, l5, l6⟩ := ml_pf pN ml
    unfold ML
    dsimp only
    refine ⟨?_, fun w hw j hj => ?_, fun w hw kc => ?_, fun b hb => ?_, ?_, fun b hb => ?_⟩
    · rw [giR _ _ _ _ _ _ (by decide), giR _ _ _ _ _ _ (by decide)]; exact l1
    · rw [giR _ _ _ _ _ _ (by decide), giR _ _ _ _ _ _ (by decide)]; exact l2 w hw j hj
    · rw [giR _ _ _ _ _ _ (by decide), giR _ _ _ _ _ _ (by decide)]; exact l3 w hw kc
    · rw [gxs, giR _ _ _ _ _ _ (by decide)]
      unfold up1
      by_cases q : b = i
      · rw [if_pos q, if_pos q]
      · rw [if_neg q, if_neg q]; exact l4 b hb
    · rw [giR _ _ _ _ _ _ (by decide), giR _ _ _ _ _ _ (by decide)]; exact l5
    · rw [giR _ _ _ _ _ _ (by decide), gxs]
      unfold up1
      by_cases q : b = i
      · rw [if_pos q, if_pos q]
      · rw [if_neg q, if_neg q]; exact l6 b hb
  · rw [e4] at rO z
    refine h O (pl_tr (pl_pw pN) (pl_tr pl_r8 (pl_tr (pl_si (by decide)) (pl_pf pO)))) rO (fun _ => ml_pf pO ?_)
    have f4 : (ln4 T t σ.2.1 σ.2.2.2.2.1 σ.1).2.2.2.2.1 = 0 := by rw [← lnS_1]; exact z
    have eS : lnS T t σ = (ln4 T t σ.2.1 σ.2.2.2.2.1 σ.1, σ.2.1 + 1, upr σ.2.2.1 σ.2.1 (rwr T t (lnk T t σ.1) (ln2 T t σ.2.1 σ.1) σ.2.2.2.2.2.1), σ.2.2.2.1, σ.2.2.2.2.1, σ.2.2.2.2.2.1, up1 σ.2.2.2.2.2.2 σ.2.1 (nI (rw5 T t (lnk T t σ.1) (ln2 T t σ.2.1 σ.1)).1)) := by
      unfold lnS; rw [if_neg (fun q => q f4), if_neg k1, if_neg k2]
    rw [eS]
    generalize ln4 T t σ.2.1 σ.2.2.2.2.1 σ.1 = s4
    obtain ⟨l1, l2, l3, l4, l5, l6⟩ := ml
    obtain ⟨p1, p2, p3, p4, p5⟩ := pN
    have k0 : ∀ b, rwr T t (lnk T t σ.1) (ln2 T t σ.2.1 σ.1) b 0 = lnk T t σ.1 := fun b => rfl
    rw [l5]
    generalize eR : rwr T t (lnk T t σ.1) (ln2 T t σ.2.1 σ.1) σ.2.2.2.2.2.1 = rr
    have r0 : rr 0 = lnk T t σ.1 := by rw [← eR]; exact k0 _
    generalize nI (rw5 T t (lnk T t σ.1) (ln2 T t σ.2.1 σ.1)).1 = pl at *
    unfold ML
    dsimp only
    refine ⟨g6s _ _ _, fun w hw j hj => ?_, fun w hw kc => ?_, fun b hb => ?_, ?_, fun b hb => ?_⟩
    · rw [giR _ _ _ _ _ _ (by decide)]
      unfold upr
      by_cases q : w = σ.2.1
      · rw [if_pos q, q]; exact r8_at _ _ _ _ hj
      · rw [if_neg q, r8_lt _ _ _ _ (by omega), p3 6229 (by decide) (by decide)]
        exact l2 w (by omega) j hj
    · rw [giR _ _ _ _ _ _ (by decide), r8_ne _ _ _ _ (by decide)]
      unfold upr at kc
      unfold up1
      by_cases q : w = σ.2.1
      · rw [if_pos q] at kc ⊢
        rw [q]
        rw [r0] at kc
        exact hp kc
      · rw [if_neg q] at kc ⊢
        rw [p5 w q]
        exact l3 w (by omega) kc
    · rw [giR _ _ _ _ _ _ (by decide), r8_ne _ _ _ _ (by decide), p3 6285 (by decide) (by decide)]; exact l4 b hb
    · rw [g6 _ _ _ _ (by decide), r8_ne _ _ _ _ (by decide), p4 8 (by decide)]; exact l5
    · rw [giR _ _ _ _ _ _ (by decide), r8_ne _ _ _ _ (by decide), p3 6360 (by decide) (by decide)]; exact l6 b hb
/-- the reference's library, exactly -/
theorem eM_library {K : Int32 → Mm → Prop} {x0 v0 p0 : Int32} (tp : TP M T t) (hx : gi M 6027 14 = x0) (hv : gi M 6027 15 = v0) (hp : gi M 6027 17 = p0)
    (h1 : ∀ N, OS M N → gi N 6027 11 = 0 → ¬ (lpS T t 401 (lS0 T t x0 v0 p0) 0).1.1.2.2.2.2.1 = 0 → gi N 6027 16 = (lpS T t 401 (lS0 T t x0 v0 p0) 0).1.1.2.2.2.2.1 → gi N 6027 17 = (lpS T t 401 (lS0 T t x0 v0 p0) 0).1.1.2.2.2.2.2 → K ((-10) - (lpS T t 401 (lS0 T t x0 v0 p0) 0).1.1.2.2.2.2.2) N)
    (h2 : ∀ N w, OS M N → gi N 6027 11 = 0 → (lpS T t 401 (lS0 T t x0 v0 p0) 0).1.1.2.2.2.2.1 = 0 → w < (lpS T t 401 (lS0 T t x0 v0 p0) 0).1.2.1 → bdS (lpS T t 401 (lS0 T t x0 v0 p0) 0).1 w → (∀ v, v < w → ¬ bdS (lpS T t 401 (lS0 T t x0 v0 p0) 0).1 v) → gi N 6027 16 = 6 → gi N 6027 17 = (lpS T t 401 (lS0 T t x0 v0 p0) 0).1.2.2.2.2.2.2 w → K ((-10) - (lpS T t 401 (lS0 T t x0 v0 p0) 0).1.2.2.2.2.2.2 w) N)
    (h3 : ∀ N, NL M N → gi N 6027 11 = 0 → (lpS T t 401 (lS0 T t x0 v0 p0) 0).1.1.2.2.2.2.1 = 0 → (∀ w, w < (lpS T t 401 (lS0 T t x0 v0 p0) 0).1.2.1 → ¬ bdS (lpS T t 401 (lS0 T t x0 v0 p0) 0).1 w) → gi N 6027 16 = 0 → JW N (lpS T t 401 (lS0 T t x0 v0 p0) 0).1.2.1 → (lpS T t 401 (lS0 T t x0 v0 p0) 0).1.2.1 ≤ 24 → UM N (lpS T t 401 (lS0 T t x0 v0 p0) 0).1.2.1 → okS (lpS T t 401 (lS0 T t x0 v0 p0) 0).1 → (∀ w, w < (lpS T t 401 (lS0 T t x0 v0 p0) 0).1.2.1 → ∀ i, i < 8 → gi N 6101 (10 * w + i) = (lpS T t 401 (lS0 T t x0 v0 p0) 0).1.2.2.1 w i) → (∀ b, b < 8 → gi N 6157 b = (lpS T t 401 (lS0 T t x0 v0 p0) 0).1.2.2.2.1 b) → gi N 6027 9 = 255 → K (nI (lpS T t 401 (lS0 T t x0 v0 p0) 0).2) N) : CI mM_library [.ref 6027] M K := by
  have hm := tp.1
  have ht := tp.2.2.1
  refine call_of rfl (Nat.le_of_ble_eq_true rfl) rfl (vM_library_0 rfl (sM_firstLibrary (mr_w hm rfl) (vM_library_16 rfl ?_)))
  generalize eA : fb0 (si (si M 6027 16 0) 6027 12 0) = A
  have gA : ∀ a, ¬ (a = 6027 ∨ a = 6285 ∨ a = 6360) → gi A a = gi M a := by
    intro a ha
    funext k
    rw [← eA]; unfold fb0
    rw [flR _ _ _ _ _ _ (fun e => ha (by omega)), flR _ _ _ _ _ _ (fun e => ha (by omega)), giR _ _ _ _ _ _ (fun e => ha (by omega)), giR _ _ _ _ _ _ (fun e => ha (by omega)), giR _ _ _ _ _ _ (fun e => ha (by omega)), giR _ _ _ _ _ _ (fun e => ha (by omega))]
  have fA : ∀ k, k ≠ 8 → k ≠ 3 → k ≠ 12 → k ≠ 16 → gi A 6027 k = gi M 6027 k := by
    intro k a b c d
    rw [← eA]; unfold fb0
    rw [flR _ _ _ _ _ _ (by decide), flR _ _ _ _ _ _ (by decide), g6 _ _ _ _ a, g6 _ _ _ _ b, g6 _ _ _ _ c, g6 _ _ _ _ d]
  have fz : ∀ k, k = 8 ∨ k = 3 ∨ k = 12 ∨ k = 16 → gi A 6027 k = 0 := by
    intro k hk
    rw [← eA]; unfold fb0
    rw [flR _ _ _ _ _ _ (by decide), flR _ _ _ _ _ _ (by decide)]
    simp only [gi_si]
    rcases hk with rfl | rfl | rfl | rfl <;> simp
  have cA : ∀ b, b < 8 → gi A 6285 b = 2 ∧ gi A 6360 b = 0 := by
    intro b hb
    rw [← eA]; unfold fb0
    simp only [gi_fl, gi_si]
    constructor <;> simp [hb]
  have rA : gr A = gr M := by rw [← eA, gr_fb0]; rfl
  have lA : gl A = gl M := by rw [← eA]; rfl
  have tpA : TP A T t := ⟨mr_w hm rA, (fA 11 (by decide) (by decide) (by decide) (by decide)).trans tp.2.1, tp.2.2.1, (gA 6486 (by decide)).trans tp.2.2.2⟩
  have osA : ∀ {N}, PL A N → OS M N := by
    intro N pl
    refine ⟨pl.1.trans rA, fun a ha => (pl.2.2.1 a ha).trans (gA a (fun e => ha (by omega))), fun k hk => (pl.2.2.2 k (fun e => hk (by omega))).trans (fA k (fun e => hk (by omega)) (fun e => hk (by omega)) (fun e => hk (by omega)) (fun e => hk (by omega))), pl.2.1.trans lA⟩
  have os11 : ∀ {N}, PL A N → OS M (si N 6027 11 0) := by
    intro N pl
    have os := osA pl
    refine ⟨os.1, fun a ha => ?_, fun k hk => ?_, os.2.2.2⟩
    · rw [gi_ne (fun e => ha (by omega))]; exact os.2.1 a ha
    · rw [g6 _ _ _ _ (fun e => hk (by omega))]; exact os.2.2.1 k hk
  refine nM_next0 tpA (fz 12 (by decide)) (fz 16 (by decide)) (fun N pf rN => ?_)
  rw [fA 14 (by decide) (by decide) (by decide) (by decide), fA 15 (by decide) (by decide) (by decide) (by decide), fA 17 (by decide) (by decide) (by decide) (by decide), hx, hv, hp] at rN
  have ml0 : ML N (lS0 T t x0 v0 p0) := ml_pf pf ⟨fz 3 (by decide), fun w hw => absurd (show w < 0 from hw) (by omega), fun w hw => absurd (show w < 0 from hw) (by omega), fun b hb => (cA b hb).1, fz 8 (by decide), fun b hb => (cA b hb).2⟩
  have rN' : RD N T t (lS0 T t x0 v0 p0).1 := rN
  have okC : okS (lS0 T t x0 v0 p0) := okS0
  have pos0 : (lS0 T t x0 v0 p0).1.2.2.2.2.1 = 0 → ¬ (lS0 T t x0 v0 p0).1.2.2.1 = 0 → 0 < (lS0 T t x0 v0 p0).1.2.1 := fun f n => by
    have := (go_nxs (T := T) (t := t) (s := (0, 0, x0, v0, 0, p0))).2 f
    exact this.2 n
  clear rN
  generalize lS0 T t x0 v0 p0 = σ0 at h1 h2 h3 ml0 rN' okC pos0
  generalize eF : lpS T t 401 σ0 0 = F at h1 h2 h3
  have bout : ∀ N σ v, PL A N → RD N T t σ.1 → (σ.1.2.2.2.2.1 = 0 → ML N σ ∧ okS σ) → (σ, v) = F → CV mM_checks [.ref 6027] N (fun N => X mM_library 48 [(0, .ref 6027), (1, .int (nI v))] [] N (mC mM_library, mS mM_library) (QI K)) := by
    intro N σ v pl rN lk e
    subst e
    have n16 := rN.2.2.2.2.2.1
    have n17 := rN.2.2.2.2.2.2.1
    have mN := rN.1.1
    by_cases z : σ.1.2.2.2.2.1 = 0
    · obtain ⟨ml, ok⟩ := lk z
      have lb := ml_lb ok ml
      have hr : ∀ w, w < σ.2.1 → gi N 6229 (10 * w + 6) = -4 ∨ ∃ f, f < 24 ∧ gi N 6229 (10 * w + 6) = nI f := by
        intro w hw
        obtain ⟨-, k, hk, ek, h⟩ := lb.2.2.2 w hw
        exact h.imp (fun h => h.2) (fun h => h.2)
      refine nM_checks mN lb.1 lb.2.1 (fun _ => hr) (fun q => absurd (n16.trans z) q) (fun q nb => ?_) (fun q w hw b1 b2 => ?_)
      · have ez : gi (si N 6027 11 0) 6027 16 = 0 := by rw [g6 _ _ _ _ (by decide)]; exact q
        refine vM_library_48 rfl ⟨fun _ => ?_, fun y => absurd (by rw [ez]; decide) y⟩
        have os := osA pl
        have mB : MR (si N 6027 11 0) := mr_w mN rfl
        have lB : LB (si N 6027 11 0) σ.2.1 := by
          refine ⟨by rw [g6 _ _ _ _ (by decide)]; exact lb.1, lb.2.1, by rw [g6 _ _ _ _ (by decide)]; exact lb.2.2.1, fun w hw => rk_eq (fun i _ => by rw [giR _ _ _ _ _ _ (by decide)]) (lb.2.2.2 w hw)⟩
        have nB : ∀ w, w < σ.2.1 → ¬ bad (si N 6027 11 0) σ.2.1 w := by
          intro w hw b
          refine nb w hw ?_
          unfold bad at b ⊢
          rw [gi_ne (show (6229 : Nat) ≠ 6027 by decide)] at b
          exact b
        obtain ⟨k1, k2, k3⟩ := kb_jw mB lB nB
        have eg : gi (kbM (si N 6027 11 0) σ.2.1) = gi (ffM (kb2 (si N 6027 11 0)) σ.2.1) := (fs_fsM _ σ.2.1).2.1
        refine sM_keepLibrary mB lB.1 lB.2.1 k1 (vM_library_72 (h3 _ ⟨?_, fun a ha => ?_, fun k hk => ?_, fun a j ha => ?_⟩ ?_ z (fun w hw b => nb w hw ((bad_eq ok ml hw).mpr b)) ?_ k2 ok.1 k3 ok (fun w hw i hi => ?_) (fun b hb => ?_) ?_))
        · exact ((fs_fsM _ σ.2.1).2.2.1.trans ((gr_ffM _ _).trans (gr_kb2 _))).trans os.1
        · rw [eg, ffM_ne _ _ _ (fun e => ha (by omega)) (fun e => ha (by omega))]
          funext k
          rw [kb2_ne _ _ _ (fun e => ha (by omega)) (fun e => ha (by omega)) (fun e => ha (by omega)), giR _ _ _ _ _ _ (fun e => ha (by omega)), os.2.1 a (fun e => ha (by omega))]
        · rw [eg, ffM_f _ _ _ (fun e => hk (by omega)) (fun e => hk (by omega)), kb2_f _ _ (fun e => hk (by omega)) (fun e => hk (by omega)), g6 _ _ _ _ (fun e => hk (by omega)), os.2.2.1 k (fun e => hk (by omega))]
        · unfold kbM
          rw [(fs_fsM _ σ.2.1).2.2.2 a j ha, gl_ffM]
          show gl N a j = _
          rw [os.2.2.2]
        · rw [eg, ffM_f _ _ _ (by decide) (by decide), kb2_f _ _ (by decide) (by decide), g6s]
        · rw [eg, ffM_f _ _ _ (by decide) (by decide), kb2_f _ _ (by decide) (by decide)]; exact ez
        · have hD := ok.1
          rw [eg, ffM_ne _ _ _ (by decide) (by decide), kb2_t _ _ (by have : w < σ.2.1 := hw; omega), giR _ _ _ _ _ _ (by decide)]
          exact ml.2.1 w hw i hi
        · rw [eg, ffM_ne _ _ _ (by decide) (by decide), kb2_c _ _ hb, giR _ _ _ _ _ _ (by decide)]
          exact ml.2.2.2.1 b hb
        · rw [eg, ffM_f _ _ _ (by decide) (by decide)]; exact kb2_9 _
      · have bs := (bad_eq ok ml hw).mp b1
        have kc : kCN (σ.2.2.1 w 0) := by
          obtain ⟨-, k, hk, ek, h⟩ := ok.2.2 w hw
          rcases h with ⟨-, e⟩ | ⟨n, -⟩
          · exact absurd e bs.1
          · unfold kCN
            rw [ek, show (1 : Int32) = nI 1 from rfl, show (3 : Int32) = nI 3 from rfl, nlt (by omega) (by omega), nlt (by omega) (by omega)]
            omega
        have ew := ml.2.2.1 w hw kc
        rw [ew]
        generalize eB : si (si N 6027 16 6) 6027 17 (σ.2.2.2.2.2.2 w) = B
        have pB : PL A B := by rw [← eB]; exact pl_tr pl (pl_pf (pf_si (pf_si (pf_rf N) (by decide) (by decide)) (by decide) (by decide)))
        have b16 : gi B 6027 16 = 6 := by rw [← eB, g6 _ _ _ _ (by decide), g6s]
        have b17 : gi B 6027 17 = σ.2.2.2.2.2.2 w := by rw [← eB, g6s]
        have e16 : gi (si B 6027 11 0) 6027 16 = 6 := by rw [g6 _ _ _ _ (by decide)]; exact b16
        have e17 : gi (si B 6027 11 0) 6027 17 = σ.2.2.2.2.2.2 w := by rw [g6 _ _ _ _ (by decide)]; exact b17
        refine vM_library_48 rfl ⟨fun y => ?_, fun _ => ?_⟩
        · rw [e16] at y; exact absurd y (by decide)
        · rw [e17]
          exact h2 _ w (os11 pB) (g6s _ _ _) z hw bs (fun v hv b => b2 v hv ((bad_eq ok ml (Nat.lt_trans hv hw)).mpr b)) e16 e17
    · have nz : ¬ gi N 6027 16 = 0 := by rw [n16]; exact z
      have nl : ¬ gi N 6027 16 ≤ 0 := by rw [n16]; exact rN.2.2.2.2.2.2.2.2.2.resolve_left z
      have e16 : gi (si N 6027 11 0) 6027 16 = gi N 6027 16 := g6 _ _ _ _ (by decide)
      have e17 : gi (si N 6027 11 0) 6027 17 = σ.1.2.2.2.2.2 := by rw [g6 _ _ _ _ (by decide)]; exact n17
      refine call_of rfl (Nat.le_of_ble_eq_true rfl) rfl (vM_checks_0 (vM_checks_2 rfl (mr4 mN) (mr7 mN) ⟨fun q => absurd q.2 nz, fun _ => vM_library_48 rfl ⟨fun y => ?_, fun _ => ?_⟩, fun q => absurd q.2 nz⟩))
      · rw [e16] at y; exact absurd y nl
      · rw [e17]
        exact h1 _ (os11 pl) (g6s _ _ _) z (e16.trans n16) e17
  have key : ∀ n v N σ, v + n = 400 → PL A N → RD N T t σ.1 → (σ.1.2.2.2.2.1 = 0 → ML N σ ∧ okS σ) → (σ.1.2.2.2.2.1 = 0 → ¬ σ.1.2.2.1 = 0 → v < σ.1.2.1) → lpS T t (n + 1) σ v = F → X mM_library 20 [(0, .ref 6027), (1, .int (nI v))] [] N (mC mM_library, mS mM_library) (QI K) := by
    intro n
    induction n with
    | zero =>
      intro v N σ hv pl rN lk pos e
      have n14 := rN.2.2.2.1
      have n16 := rN.2.2.2.2.2.1
      have ex : ¬ σ.1.2.2.2.2.1 = 0 ∨ σ.1.2.2.1 = 0 := by
        by_cases f : σ.1.2.2.2.2.1 = 0
        · right
          by_cases q : σ.1.2.2.1 = 0
          · exact q
          · exfalso
            have p := pos f q
            have b2 := rN.2.2.2.2.2.2.2.2.1
            omega
        · exact Or.inl f
      refine vM_library_20 rfl ⟨fun _ => bout N σ v pl rN lk ((lpS_stop T t ex).symm.trans e), fun q => ?_⟩
      rw [n14, n16] at q
      exact absurd ex (fun y => y.elim (fun y => y q.1) q.2)
    | succ n ih =>
      intro v N σ hv pl rN lk pos e
      have n14 := rN.2.2.2.1
      have n16 := rN.2.2.2.2.2.1
      refine vM_library_20 rfl ⟨fun q => ?_, fun q => ?_⟩
      · rw [n14, n16] at q
        have ex : ¬ σ.1.2.2.2.2.1 = 0 ∨ σ.1.2.2.1 = 0 := q.imp id (fun q => q.2)
        exact bout N σ v pl rN lk ((lpS_stop T t ex).symm.trans e)
      · rw [n14, n16] at q
        obtain ⟨ml, ok⟩ := lk q.1
        have e' : lpS T t (n + 1) (lnS T t σ) (v + 1) = F := (lpS_go T t (fun y => y.elim (fun y => y q.1) q.2)).symm.trans e
        refine nM_lnS rN ml ok (fun O pO rO mO => vM_library_38 ?_)
        rw [nI_s]
        refine ih (v + 1) O (lnS T t σ) (by omega) (pl_tr pl pO) rO (fun y => ⟨mO y, (lnS_ok ok y).1⟩) (fun y1 y2 => ?_) e'
        have g := (lnS_ok ok y1).2
        have := pos q.1 q.2
        omega
  exact key 400 0 N σ0 (by omega) (pl_pf pf) rN' (fun _ => ⟨ml0, okC⟩) pos0 eF
end EQ9
