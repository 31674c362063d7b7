/-! ===== what holds, of opinions alone; hangs ===== -/
/-- the opinions, one of them another -/
def oud (o : Nat → Int32) (d : Nat) (x : Int32) (e : Nat) : Int32 := if e = d then x else o e
/-- what is held, by a law, opinions, a head and silence -/
def hof (l : Int32) (o : Nat → Int32) (hd si : Int32) : Int32 := anb (byf l (ocn o 1 8) (ocn o 0 8) (hds hd o) si) l (ocn o 1 8) (ocn o 0 8) (hds hd o) si
theorem ocn_cg {o o' : Nat → Int32} {v : Int32} : ∀ k, (∀ d, d < k → o d = o' d) → ocn o v k = ocn o' v k
  | 0, _ => rfl
  | k + 1, h => by rw [ocn, ocn, ocn_cg k (fun d hd => h d (by omega)), h k (by omega)]
theorem hof_cg {l hd si : Int32} {o o' : Nat → Int32} (h : ∀ d, d < 8 → o d = o' d) : hof l o hd si = hof l o' hd si := by
  unfold hof
  rw [ocn_cg 8 h, ocn_cg 8 h, hds_cg h]
theorem ocn_ud {o : Nat → Int32} {d : Nat} {x v : Int32} : ∀ k, d < k → ocn (oud o d x) v k = (ocn o v k - (if o d = v then 1 else 0)) + (if x = v then 1 else 0)
  | 0, h => absurd h (by omega)
  | k + 1, h => by
    rw [ocn, ocn]
    by_cases e : d = k
    · subst e
      have q : ocn (oud o d x) v d = ocn o v d := ocn_cg d (fun f hf => by unfold oud; rw [if_neg (by omega)])
      have y : oud o d x d = x := by unfold oud; rw [if_pos rfl]
      rw [q, y, Int32.add_sub_cancel]
    · have y : oud o d x k = o k := by unfold oud; rw [if_neg (fun z => e z.symm)]
      rw [ocn_ud k (by omega), y]
      generalize ocn o v k = p
      generalize (if o d = v then (1 : Int32) else 0) = q
      generalize (if x = v then (1 : Int32) else 0) = r
      generalize (if o k = v then (1 : Int32) else 0) = s
      rw [Int32.sub_eq_add_neg, Int32.sub_eq_add_neg]
      ac_rfl
theorem hds_ud {hd : Int32} {o : Nat → Int32} {d : Nat} {x : Int32} (h8 : d < 8) : hds hd (oud o d x) = if hd = nI d then x else hds hd o := by
  by_cases q : hd = nI d
  · rw [if_pos q, q]
    unfold hds oud
    have n1 : ¬ (nI d < 0 ∨ 8 ≤ nI d) := fun z => by
      rcases z with z | z
      · exact n0 d (by omega) z
      · exact nge (c := 8) (n := 8) rfl (by decide) h8 z
    rw [if_neg n1, if_pos (ncl (by omega))]
  · rw [if_neg q]
    unfold hds
    by_cases z : hd < 0 ∨ 8 ≤ hd
    · rw [if_pos z, if_pos z]
    · rw [if_neg z, if_neg z]
      obtain ⟨k, hk, ek⟩ := rng (c := 8) (n := 8) rfl (by decide) (fun y => z (Or.inl y)) (fun y => z (Or.inr y))
      rw [ek, ncl (by omega)]
      unfold oud
      rw [if_neg (fun y => q (by rw [ek, y]))]
section EW4
variable {A M N : Mm} {L P R S U D W t : Nat} {G : Nat → Nat → Int32}
theorem heC_h (A : Mm) (L R c : Nat) : heC A L R c = hof (lwI A L R c) (fun d => opn A L R d c) (gi A R 4) (gi A R 5) := rfl
theorem eWe_heldIf {d : Nat} {o : Nat → Int32} {l x : Int32} {K : Int32 → Mm → Prop} (w : WH M L R) (hd : d < 8) (f5 : gi M 5192 5 = l) (f6 : gi M 5192 6 = ocn o 1 8) (f7 : gi M 5192 7 = ocn o 0 8) (fo : ∀ e, e < 8 → gi M 5261 e = o e) (h : K (hof l (oud o d x) (gi M R 4) (gi M R 5)) M) : CI mWe_heldIf [.ref 5192, .int (nI d), .int x] M K := by
  have b82 : ∀ z, z = hds (gi M R 4) (oud o d x) → X mWe_heldIf 82 [(0, .ref 5192), (3, .int ((gi M 5192 6 - (if gi M 5261 d = 1 then 1 else 0)) + (if x = 1 then 1 else 0))), (4, .int ((gi M 5192 7 - (if gi M 5261 d = 0 then 1 else 0)) + (if x = 0 then 1 else 0)))] [.int z] M (mC mWe_heldIf, mS mWe_heldIf) (QI K) := by
    intro z ez
    rw [f6, f7, fo d hd, ← ocn_ud 8 hd, ← ocn_ud 8 hd, ez]
    refine vWe_heldIf_82 rfl (sWe_decider w (vWe_heldIf_94 rfl (sWe_answerBy w (vWe_heldIf_102 ?_))))
    rw [f5]; exact h
  have e := hds_ud (hd := gi M R 4) (o := o) (x := x) hd
  have cl : (nI d).toNatClampNeg = d := ncl (by omega)
  refine call_of rfl (Nat.le_of_ble_eq_true rfl) rfl (vWe_heldIf_0 rfl w.2.2.1 w.2.1 ⟨vin hd (by decide), vin hd (by decide), fun q => sWe_headSaying w ?_, fun q => ?_⟩)
  · rw [cl]
    refine b82 _ ?_
    rw [e, if_neg q]
    exact hds_cg fo
  · rw [cl]
    refine b82 _ ?_
    rw [e, if_pos q]
/-- the reference: what is held, of opinions alone -/
theorem sum_o {H : Nat → Nat → Int64} {c : Nat} {o : Nat → Int32} (hc : c < 64) (ho : ∀ d, d < 8 → o d = vl2 (lb (H 7003 d) c) (lb (H 7067 d) c) ∧ ¬ (lb (H 7003 d) c = true ∧ lb (H 7067 d) c = true)) : ∀ k, k ≤ 8 → ocn o 1 k = sb H 7003 c k ∧ ocn o 0 k = sb H 7067 c k
  | 0, _ => ⟨rfl, rfl⟩
  | k + 1, hk => by
    obtain ⟨i1, i2⟩ := sum_o hc ho k (by omega)
    obtain ⟨e, x⟩ := ho k (by omega)
    have t1 : ∀ z : Int64, ((z >>> ((nI c).toInt64 &&& 63)) &&& 1).toInt32 = if lb z c = true then 1 else 0 := fun z => by
      by_cases q : lb z c = true
      · rw [if_pos q, (lbit _ hc).mpr q]; rfl
      · rw [if_neg q]
        have qf : lb z c = false := by simpa using q
        have e0 : ((z >>> ((nI c).toInt64 &&& 63)) &&& 1) = 0 := by
          refine l_ext (fun j hj => ?_)
          rw [l_and, l_1 j hj, l_0]
          by_cases ej : j = 0
          · subst ej
            rw [l_shr c hc, qf]; rfl
          · rw [decide_eq_false ej, Bool.and_false]
        rw [e0]; rfl
    rw [ocn, ocn, sb, sb, i1, i2, t1, t1, e]
    revert x
    cases lb (H 7003 k) c <;> cases lb (H 7067 k) c <;> intro x
    · exact ⟨rfl, rfl⟩
    · exact ⟨rfl, rfl⟩
    · exact ⟨rfl, rfl⟩
    · exact absurd ⟨rfl, rfl⟩ x
theorem hev_of {Q : Mm} {c : Nat} {o : Nat → Int32} (hc : c < 64) (hh : HD Q) (ho : ∀ d, d < 8 → o d = vl2 (lb (gl Q 7003 d) c) (lb (gl Q 7067 d) c) ∧ ¬ (lb (gl Q 7003 d) c = true ∧ lb (gl Q 7067 d) c = true)) : hev Q W c = hof (laV Q W (nI c)) o (gi Q 6543 4) (gi Q 6543 5) := by
  obtain ⟨s1, s2⟩ := sum_o (H := gl Q) hc ho 8 (Nat.le_refl 8)
  have hd : hdv Q c = hds (gi Q 6543 4) o := by
    unfold hds hdv
    rcases hh with h | ⟨e, he, h⟩
    · rw [h, if_pos (Or.inl (by decide)), if_pos rfl]
    · have n1 : ¬ (nI e < 0 ∨ 8 ≤ nI e) := fun z => by
        rcases z with z | z
        · exact n0 e (by omega) z
        · exact nge (c := 8) (n := 8) rfl (by decide) he z
      rw [h, if_neg n1, if_neg (nI4 (by omega)), ncl (by omega), td_b _ _ hc]
      exact (ho e he).1.symm
  unfold hev hof
  rw [s1, s2, hd]
  generalize laV Q W (nI c) = x1
  generalize sb (gl Q) 7003 c 8 = x2
  generalize sb (gl Q) 7067 c 8 = x3
  generalize hds (gi Q 6543 4) o = x4
  generalize gi Q 6543 5 = x5
  unfold anb hef byf
  by_cases q1 : x1 = -4
  · by_cases q2 : x2 = x3
    · by_cases q3 : x4 = -4
      · by_cases q4 : x5 = -4
        · simp [q1, q2, q3, q4]
        · simp [q1, q2, q3, q4]
      · simp [q1, q2, q3]
    · simp [q1, q2]
  · simp [q1]
theorem eyn_x {d : Int32} {c : Nat} (hc : c < 64) : ¬ (lb (eyv N W d 64) c = true ∧ lb (enw N W d 64) c = true) := by
  obtain ⟨b1, b2⟩ := eyv_b (N := N) (W := W) (d := d) hc 64 (Nat.le_refl 64)
  rw [b1, b2, clv_b]
  rintro ⟨z | z, y | y⟩
  · rw [z.1] at y; exact absurd y.2 (by decide)
  · rw [z.2] at y; exact absurd y.2.1.2 (by decide)
  · rw [y.2] at z; exact absurd z.2.1.1 (by decide)
  · rw [z.2.2] at y; exact absurd y.2.2 (by decide)
/-- what the reference's doctors say -/
def rop (M : Mm) (W c d : Nat) : Int32 := vl2 (lb (eyv M W (nI d) 64) c) (lb (enw M W (nI d) 64) c)
/-- what is held, by the reference -/
def rhe (M : Mm) (W c : Nat) : Int32 := hof (laV M W (nI c)) (rop M W c) (gi M 6543 4) (gi M 6543 5)
theorem hev_eo (hh : HD M) {c : Nat} (hc : c < 64) : hev (EO M W) W c = rhe M W c := by
  unfold rhe
  rw [← laV_sm (eo_sm M W)]
  refine hev_of (Q := EO M W) (o := rop M W c) hc hh (fun d hd => ?_)
  have g3 : gl (EO M W) 7003 d = eyv M W (nI d) 64 := by rw [gl_eo, if_pos ⟨rfl, hd⟩]
  have g6 : gl (EO M W) 7067 d = enw M W (nI d) 64 := by rw [gl_eo, if_neg (by simp), if_pos ⟨rfl, hd⟩]
  rw [g3, g6]
  exact ⟨rfl, eyn_x hc⟩
/-- both sides: law, opinions, head, silence -/
theorem hold_e (m : CMP A N L R W G) (hW : W ≤ 24) {c : Nat} (hc : c < 64) : lwI A L R c = laV N W (nI c) ∧ (∀ d, d < 8 → opn A L R d c = rop N W c d) ∧ gi A R 4 = gi N 6543 4 ∧ gi A R 5 = gi N 6543 5 :=
  ⟨law_e m hc, fun d hd => opv_e m hW hd hc, m.2.2.2.2.2.2.2.1 4 (by decide), m.2.2.2.2.2.2.2.1 5 (by decide)⟩
theorem heC_e (m : CMP A N L R W G) (hW : W ≤ 24) {c : Nat} (hc : c < 64) : heC A L R c = rhe N W c := by
  obtain ⟨e1, e2, e3, e4⟩ := hold_e m hW hc
  rw [heC_h, rhe, e1, e3, e4]
  exact hof_cg e2
/-- what would be held if one said another thing -/
def rhu (M : Mm) (W d : Nat) (x : Nat → Int32) (c : Nat) : Int32 := hof (laV M W (nI c)) (oud (rop M W c) d (x c)) (gi M 6543 4) (gi M 6543 5)
def mHangs (M : Mm) (W : Nat) (v w : Int32) : Int32 := if (isD v && isE w) = true then (if w = 0 then nbp (nq (rhu M W v.toNatClampNeg (fun _ => -4)) (rhe M W)) 64 else fsp (nq (rhu M W v.toNatClampNeg (fun _ => -4)) (rhe M W)) 64) else -1
theorem nq_cg {H H' Q Q' : Nat → Int32} {c : Nat} (h1 : H c = H' c) (h2 : Q c = Q' c) : nq H Q c = nq H' Q' c := by unfold nq; rw [h1, h2]
theorem uM_hangs {v w : Int32} {K : Int32 → Mm → Prop} (j : JW M W) (hh : HD M) (h : ∀ N, QF W M N → K (mHangs M W v w) N) : CI mM_hangs [.ref 6027, .int v, .int w] M K := by
  refine call_of rfl (Nat.le_of_ble_eq_true rfl) rfl (vM_hangs_0 (sM_isDoctor (fun q => vM_hangs_4 ⟨fun _ => ?_, fun q => absurd rfl q⟩) (fun i hi e => vM_hangs_4 ⟨fun q => absurd q (by decide), fun _ => sM_inE (fun q => vM_hangs_14 rfl ⟨fun q => absurd rfl q, fun _ => ?_⟩) (fun q => vM_hangs_14 rfl ⟨fun _ => tM_findAll j hh (fun N f hf hv => ?_), fun q => absurd q (by decide)⟩)⟩)))
  · have := h M (qf_rf W M)
    rw [mHangs, q, Bool.false_and, if_neg (by decide)] at this
    exact this
  · have := h M (qf_rf W M)
    rw [mHangs, q, Bool.and_false, if_neg (by decide)] at this
    exact this
  subst e
  have f1 : QF W M N := qf_af f
  refine vM_hangs_23 rfl (kh_row (mr_w j.1 f1.1) ?_)
  have f2 := qf_tr f1 (qf_row (M := N) (n := 64) (g := gi N 7182))
  have o7 : ∀ c, c < 64 → gi (rwm N 7438 64 (gi N 7182)) 7438 c = hev (EO M W) W c := fun c hc => (if_pos ⟨rfl, hc⟩).trans (hf c hc).2.2.2
  have ol : gl (rwm N 7438 64 (gi N 7182)) = gl N := rfl
  generalize rwm N 7438 64 (gi N 7182) = O at f2 o7 ol ⊢
  have hm := mr_w j.1 f2.1
  refine vM_hangs_27 rfl (mr27 hm) (mr28 hm) ⟨vin hi (by decide), vin hi (by decide), ?_⟩
  rw [ncl (by omega)]
  have f3 : QF W M (sl (sl O 7003 i 0) 7067 i 0) := qf_tr (qf_tr f2 (qf_sl (Or.inr (Or.inl rfl)))) (qf_sl (Or.inr (Or.inr rfl)))
  have p3 : ∀ d, gl (sl (sl O 7003 i 0) 7067 i 0) 7003 d = if d = i then 0 else gl N 7003 d := fun d => by
    rw [gl_sl, if_neg (fun z => absurd z.1 (by decide)), gl_sl, ol]
    by_cases z : d = i
    · rw [if_pos ⟨rfl, z⟩, if_pos z]
    · rw [if_neg (fun y => z y.2), if_neg z]
  have p6 : ∀ d, gl (sl (sl O 7003 i 0) 7067 i 0) 7067 d = if d = i then 0 else gl N 7067 d := fun d => by
    rw [gl_sl]
    by_cases z : d = i
    · rw [if_pos ⟨rfl, z⟩, if_pos z]
    · rw [if_neg (fun y => z y.2), if_neg z, gl_sl, if_neg (fun z => absurd z.1 (by decide)), ol]
  have p7 : gi (sl (sl O 7003 i 0) 7067 i 0) 7438 = gi O 7438 := rfl
  generalize sl (sl O 7003 i 0) 7067 i 0 = P at f3 p3 p6 p7 ⊢
  have hP := hd_sm (qf_sm f3) hh
  refine sM_findHeld (jw_sm (qf_sm f3) j) hP (fun N2 g hf2 => vM_hangs_45 rfl ?_)
  have f4 := qf_tr f3 (qf_af (af_fr g))
  refine sM_findChanged (mr_w j.1 f4.1) (fun N3 c1 c2 c3 c4 e35 e36 => vM_hangs_49 rfl ?_)
  have H1 : ∀ c, c < 64 → gi N2 7182 c = rhu M W i (fun _ => -4) c := fun c hc => by
    rw [(hf2 c hc).2.2.2]
    unfold rhu
    rw [hev_of (o := oud (rop M W c) i (-4)) hc hP (fun d hd => ?_), laV_sm (qf_sm f3), f3.2.1 6543 (by decide)]
    rw [p3, p6]
    unfold oud rop
    by_cases z : d = i
    · rw [if_pos z, if_pos z, if_pos z, l_0]
      exact ⟨rfl, fun y => absurd y.1 (by decide)⟩
    · rw [if_neg z, if_neg z, if_neg z, (hv d hd).2.1, (hv d hd).2.2]
      exact ⟨rfl, eyn_x hc⟩
  have H2 : ∀ c, c < 64 → gi N2 7438 c = rhe M W c := fun c hc => by
    rw [g.1 7438 (by decide) (by decide) (by decide) (by decide), p7, o7 c hc, hev_eo hh hc]
  have := h N3 (qf_tr f4 (qf_ch c1 c2 c3 c4))
  have cg : ∀ c, c < 64 → nq (gi N2 7182) (gi N2 7438) c = nq (rhu M W i (fun _ => -4)) (rhe M W) c := fun c hc => nq_cg (H1 c hc) (H2 c hc)
  rw [mHangs, yD hi, yE q, if_pos (show (true && true) = true from rfl), ncl (by omega), ← nbp_cg 64 cg, ← fsp_cg 64 (Nat.le_refl _) cg, ← cnt_p, ← fst_p] at this
  rw [e35, e36]
  exact this
theorem pz_hangs {v w : Int32} {Z : Int32 → Int32 → Mm → Prop} (i0 : INY M) (h : ∀ r s N, INY N → r = s → Z r s N) : CI mC_hangs [.ref 10, .int v, .int w] M (fun r N => CI mM_hangs [.ref 6027, .int v, .int w] N (fun s O => Z r s O)) := by
  obtain ⟨L, P, R, S, U, D, W, t, i, ez⟩ := i0
  have c := i.1.1
  have hW : W ≤ 24 := i.2.1.2.1
  obtain ⟨G, ey⟩ := ez.2
  have key : ∀ N r, CQ M N → r = mHangs N W v w → CI mM_hangs [.ref 6027, .int v, .int w] N (fun s O => Z r s O) := fun N r f e => uM_hangs (iv_cq f i).2.1.1 (iv_cq f i).2.1.2.2.1 (fun O g => h _ _ O ⟨L, P, R, S, U, D, W, t, iv_qf g (iv_cq f i), ez_qf g (ez_cq f ez)⟩ e)
  refine call_of rfl (Nat.le_of_ble_eq_true rfl) rfl (vC_hangs_0 (sC_isDoctor (fun q => vC_hangs_4 ⟨fun _ => key M _ (cq_rf M) ?_, fun q => absurd rfl q⟩) (fun d hd ed => vC_hangs_4 ⟨fun q => absurd q (by decide), fun _ => sC_isEither (fun q1 q2 => vC_hangs_11 rfl ⟨fun q => absurd rfl q, fun _ => key M _ (cq_rf M) ?_⟩) (fun ew => vC_hangs_11 rfl ⟨fun _ => lC_weighNow c (vC_hangs_20 ?_), fun q => absurd q (by decide)⟩)⟩)))
  · rw [mHangs, nD q, Bool.false_and, if_neg (by decide)]
  · rw [mHangs, nE q1 q2, Bool.and_false, if_neg (by decide)]
  · subst ed
    generalize eB : bgn M L R (gi M 10 9) = B
    have wB : WH B L R := by rw [← eB]; exact cxw c _
    have cqB : ∀ {N}, WQ B N → CQ M N := fun q => by rw [← eB] at q; exact cqb q
    have mB : ∀ {N}, CQ M N → CMP B N L R W G := fun f => by rw [← eB]; exact cmp_of i ez.1 ey f
    refine lp 64 (P := fun k => ∀ x N, WQ B N → BL x (nq (fun c => hof (lwI B L R c) (oud (fun e => opn B L R e c) d (-4)) (gi B R 4) (gi B R 5)) (heC B L R)) k → X mC_hangs 25 [(0, .ref 10), (1, .int (nI d)), (2, .int w), (3, .long x), (5, .int (nI k))] [] N (mC mC_hangs, mS mC_hangs) (QI (fun r N => CI mM_hangs [.ref 6027, .int (nI d), .int w] N (fun s O => Z r s O)))) (fun k hk ih x N qN hx => ?_) (fun x N qN hx => ?_) 0 B (wq_rf B) (bl_0 _)
    · have wN := wh_gr wB qN.1
      have cN := cx_cq (cqB qN) c
      refine vC_hangs_25 rfl (cx11 cN) ⟨fun q => absurd q (nge rfl (by decide) hk), fun _ => eWe_weigh wN (cxL c) (cxR c) hk (fun O qO vO => ?_)⟩
      have qBO := wq_tr qN qO
      have cO := cx_cq (cqB qBO) c
      obtain ⟨-, v5, vo, v6, v7, -, v9⟩ := vO
      have v9' : gi O 5192 9 = heC B L R k := (show gi O 5192 9 = heC N L R k from v9).trans (heC_wq qN (cxL c) (cxR c) k)
      refine vC_hangs_41 rfl (cx11 cO) (eWe_heldIf (o := fun e => opn B L R e k) (l := lwI B L R k) (wh_gr wN qO.1) hd (v5.trans (lwI_wq qN (cxL c) (cxR c) k)) ?_ ?_ (fun e he => (vo e he).trans (opn_wq qN (cxL c) (cxR c) e k)) (vC_hangs_51 rfl (cx11 cO) ?_))
      · exact (show gi O 5192 6 = ysC N L R k from v6).trans (ysC_wq qN (cxL c) (cxR c) k)
      · exact (show gi O 5192 7 = nsC N L R k from v7).trans (nsC_wq qN (cxL c) (cxR c) k)
      · rw [v9', qBO.2.2.1 R (ra_ne (cxR c))]
        refine ⟨fun q => ?_, fun q => ?_⟩
        · rw [nI_s]; exact ih _ _ qBO (bl_n hx (decide_eq_false (fun z => z q)))
        · rw [nI_s]; exact ih _ _ qBO (bl_y hx hk (decide_eq_true q))
    · have fN := cqB qN
      refine vC_hangs_25 rfl (cx11 (cx_cq fN c)) ⟨fun _ => eC_manyOrLeast (vC_hangs_79 (key N _ fN ?_)), fun q => absurd (nself rfl) q⟩
      have m := mB fN
      have e : ∀ c, c < 64 → nq (fun c => hof (lwI B L R c) (oud (fun e => opn B L R e c) d (-4)) (gi B R 4) (gi B R 5)) (heC B L R) c = nq (rhu N W d (fun _ => -4)) (rhe N W) c := fun c hc => by
        refine nq_cg ?_ (heC_e m hW hc)
        obtain ⟨e1, e2, e3, e4⟩ := hold_e m hW hc
        show hof (lwI B L R c) (oud (fun e => opn B L R e c) d (-4)) (gi B R 4) (gi B R 5) = rhu N W d (fun _ => -4) c
        unfold rhu
        rw [e1, e3, e4]
        refine hof_cg (fun f hf => ?_)
        unfold oud
        by_cases z : f = d
        · rw [if_pos z, if_pos z]
        · rw [if_neg z, if_neg z]; exact e2 f hf
      rw [mHangs, yD hd, yE ew, if_pos (show (true && true) = true from rfl), ncl (by omega), bl_many hx, bl_first hx, nbp_cg 64 e, fsp_cg 64 (Nat.le_refl _) e]
end EW4
