/-! ===== each, held, cases, reckon: the same on both sides ===== -/
section EV1
variable {M N : Mm} {L P R S U D W t : Nat} {G : Nat → Nat → Int32}
theorem gi_bgn (M : Mm) (L R : Nat) (b : Int32) {a : Nat} (h : a ≠ 5192) : gi (bgn M L R b) a = gi M a := by
  unfold bgn
  rw [gi_ne h]; rfl
theorem gi_bgn2 (M : Mm) (L R : Nat) (b : Int32) : gi (bgn M L R b) 5192 2 = ctg M L R b := by
  unfold bgn
  rw [gi_si, if_pos ⟨rfl, rfl⟩]
/-- what the class weighs, and the reference, stand for the same -/
theorem cmp_of (i : IV M L P R S U D W t) (ex : EX M L R S D W) (ey : EY M L W G) (f : CQ M N) : CMP (bgn M L R (gi M 10 9)) N L R W G := by
  have hL := i.1.1.2.2.1.1
  have hR := i.1.1.2.2.1.2.2.1
  have hL' := hL
  have hR' := hR
  unfold LA at hL'
  unfold RA at hR'
  have g : ∀ a, ¬ (a = 5192 ∨ a = 5261 ∨ a = 5392) → gi N a = gi M a := f.2.2
  have rk : ∀ w, w < W → ∃ b, b < 8 ∧ wd M w 2 = nI b := fun w hw => (i.2.1.1.2.2.2 w hw).1
  have hb : ∀ o, o < 2304 → gi (bgn M L R (gi M 10 9)) (L + o) = gi M (L + o) := fun o ho => gi_bgn _ _ _ _ (by omega)
  have ew : ∀ w k, wd N w k = wd M w k := fun w k => by unfold wd; rw [g 6101 (by decide)]
  have ecw : ∀ w, cw N w = cw M w := fun w => by
    unfold cw
    rw [ew, ew, ew, g 6543 (by decide), g 6027 (by decide), g 6157 (by decide)]
  have x3 : ∀ i, i < 7 → gi M R i = gi M 6543 i := ex.2.2.2.1
  have ey' := ey
  obtain ⟨y1, y2, ⟨⟨s1, -⟩, -, -, cy⟩, -, y5, ry, wl, rv⟩ := ey
  refine ⟨fun v hv => ?_, fun d hd v hv => ?_, fun c hc v hv => ?_, fun v hv c hc => ?_, fun w hw k hk => ?_, wl_eq (fun a ha => gi_bgn _ _ _ _ (by omega)) wl, ?_, fun k hk => ?_, ?_, (iv_cq f i).2.1.1, fun w hw => (y2 w hw).2.2, fun w hw => (y2 w hw).1⟩
  · rw [gi_bgn2, cnt_b ex ey' rk hv, ecw]
  · rw [hb 460 (by decide)]; exact s1 d hd v hv
  · rw [hb 205 (by decide), hb 269 (by decide)]; exact cy c hc v hv
  · rw [f.1]; exact ry v hv c hc
  · rw [ew]; exact y1 w hw k hk
  · rw [g 6027 (by decide)]; exact y5
  · rw [gi_bgn _ _ _ _ (by omega), g 6543 (by decide)]; exact x3 k hk
  · rw [g 6543 (by decide)]; exact rv.1
theorem pz_each {v w : Int32} {Z : Int32 → Int32 → Mm → Prop} (i0 : INY M) (h : ∀ r s N, INY N → r = s → Z r s N) : CI mC_each [.ref 10, .int v, .int w] M (fun r N => CI mM_each [.ref 6027, .int v, .int w] N (fun s O => Z r s O)) := by
  obtain ⟨L, P, R, S, U, D, W, t, i, ez⟩ := i0
  have c := i.1.1
  have hW : W ≤ 24 := i.2.1.2.1
  obtain ⟨G, ey⟩ := ez.2
  have cB := cx_cq (cq_bgn M L R (gi M 10 9)) c
  have key : ∀ N r, CQ M N → r = mEach N W v w → CI mM_each [.ref 6027, .int v, .int w] N (fun s O => Z r s O) := fun N r f e => tM_each (iv_cq f i).2.1.1 (fun O g => h _ _ O ⟨L, P, R, S, U, D, W, t, iv_af g (iv_cq f i), ez_af g (ez_cq f ez)⟩ e)
  refine call_of rfl (Nat.le_of_ble_eq_true rfl) rfl (vC_each_0 (sC_isDoctor (fun q => vC_each_4 ⟨fun _ => key M _ (cq_rf M) ?_, fun q => absurd rfl q⟩) (fun d hd ed => vC_each_4 ⟨fun q => absurd q (by decide), fun _ => sC_isCase (fun q => vC_each_11 rfl ⟨fun q => absurd rfl q, fun _ => key M _ (cq_rf M) ?_⟩) (fun k hk ek => vC_each_11 rfl ⟨fun _ => lC_weighNow c (vC_each_20 rfl (cx11 cB) ?_), fun q => absurd q (by decide)⟩)⟩)))
  · rw [mEach, nD q, Bool.false_and, if_neg (by decide)]
  · rw [mEach, nC q, Bool.and_false, if_neg (by decide)]
  · subst ed ek
    refine sWe_opinion (cxw c _) hd hk (vC_each_29 (key _ _ (cq_bgn _ _ _ _) ?_))
    rw [mEach, yD hd, yC hk, if_pos (by decide)]
    exact (opn_e (cmp_of i ez.1 ey (cq_bgn M L R (gi M 10 9))) hW hd hk).1
theorem pz_held {v w : Int32} {Z : Int32 → Int32 → Mm → Prop} (i0 : INY M) (h : ∀ r s N, INY N → r = s → Z r s N) : CI mC_held [.ref 10, .int v, .int w] M (fun r N => CI mM_held [.ref 6027, .int v, .int w] N (fun s O => Z r s O)) := by
  obtain ⟨L, P, R, S, U, D, W, t, i, ez⟩ := i0
  have c := i.1.1
  have hW : W ≤ 24 := i.2.1.2.1
  obtain ⟨G, ey⟩ := ez.2
  have key : ∀ N r, CQ M N → r = mHeld N W v w → CI mM_held [.ref 6027, .int v, .int w] N (fun s O => Z r s O) := fun N r f e => tM_held (iv_cq f i).2.1.1 (iv_cq f i).2.1.2.2.1 (fun O g => h _ _ O ⟨L, P, R, S, U, D, W, t, iv_af g (iv_cq f i), ez_af g (ez_cq f ez)⟩ e)
  refine call_of rfl (Nat.le_of_ble_eq_true rfl) rfl (vC_held_0 (sC_isCase (fun q => vC_held_4 rfl ⟨fun q => absurd rfl q, fun _ => key M _ (cq_rf M) ?_⟩) (fun k hk ek => vC_held_4 rfl ⟨fun _ => lC_weighNow c (vC_held_13 rfl (cx11 (cx_cq (cq_bgn M L R (gi M 10 9)) c)) ?_), fun q => absurd q (by decide)⟩)))
  · rw [mHeld, nC q, Bool.false_and, if_neg (by decide)]
  · subst ek
    refine eWe_weigh (cxw c _) (cxL c) (cxR c) hk (fun O qO vO => ?_)
    have fO := cqb qO
    obtain ⟨e1, e2, e3, e4⟩ := held_e (cmp_of i ez.1 ey fO) hW (iv_cq fO i).2.1.2.2.1 hk
    obtain ⟨-, -, -, v6, v7, v8, v9⟩ := vO
    have v6' : gi O 5192 6 = ysC (bgn M L R (gi M 10 9)) L R k := v6
    have v7' : gi O 5192 7 = nsC (bgn M L R (gi M 10 9)) L R k := v7
    have v8' : gi O 5192 8 = byC (bgn M L R (gi M 10 9)) L R k := v8
    have v9' : gi O 5192 9 = heC (bgn M L R (gi M 10 9)) L R k := v9
    have cl : (nI k).toNatClampNeg = k := ncl (by omega)
    have ok : ∀ x : Int32, (x = 0 ∨ x = 1 ∨ x = 2 ∨ x = 3) → decide (¬ x < 0 ∧ ¬ 3 < x) = true := fun x hx => by rcases hx with rfl | rfl | rfl | rfl <;> decide
    refine vC_held_21 rfl (cx11 (cx_cq fO c)) ⟨fun q => key _ _ fO ?_, fun q => key _ _ fO ?_, fun q => key _ _ fO ?_, fun q => key _ _ fO ?_, fun q => key _ _ fO ?_⟩
    · rw [mHeld, yC hk, ok w (Or.inl q), if_pos (by decide), if_pos q, cl, v9', e4]
    · rw [mHeld, yC hk, ok w (Or.inr (Or.inl q)), if_pos (by decide), if_neg (by rw [q]; decide), if_pos q, cl, v8', e3]
    · rw [mHeld, yC hk, ok w (Or.inr (Or.inr (Or.inl q))), if_pos (by decide), if_neg (by rw [q]; decide), if_neg (by rw [q]; decide), if_pos q, cl, v6', e1]
    · rw [mHeld, yC hk, ok w (Or.inr (Or.inr (Or.inr q))), if_pos (by decide), if_neg (by rw [q]; decide), if_neg (by rw [q]; decide), if_neg (by rw [q]; decide), cl, v7', e2]
    · have no : decide (¬ w < 0 ∧ ¬ 3 < w) = false := decide_eq_false (fun z => by
        obtain ⟨x, hx, e⟩ := rngL (c := 3) (n := 3) rfl (by decide) z.1 z.2
        have : x = 0 ∨ x = 1 ∨ x = 2 ∨ x = 3 := by omega
        rcases this with rfl | rfl | rfl | rfl
        · exact q.1 e
        · exact q.2.1 e
        · exact q.2.2.1 e
        · exact q.2.2.2 e)
      rw [mHeld, no, Bool.and_false, if_neg (by decide)]
theorem pz_reckon {v b y n a : Int32} {Z : Int32 → Int32 → Mm → Prop} (i0 : INY M) (h : ∀ r s N, INY N → r = s → Z r s N) : CI mC_reckon [.ref 10, .int v, .int b, .int y, .int n, .int a] M (fun r N => CI mM_reckon [.ref 6027, .int v, .int b, .int y, .int n, .int a] N (fun s O => Z r s O)) := by
  obtain ⟨L, P, R, S, U, D, W, t, i, ez⟩ := i0
  have c := i.1.1
  have hW : W ≤ 24 := i.2.1.2.1
  obtain ⟨G, ey⟩ := ez.2
  have key : ∀ N r, CQ M N → r = mReckon N W v b y n a → CI mM_reckon [.ref 6027, .int v, .int b, .int y, .int n, .int a] N (fun s O => Z r s O) := fun N r f e => tM_reckon (iv_cq f i).2.1.1 (iv_cq f i).2.1.2.2.1 (fun O g => h _ _ O ⟨L, P, R, S, U, D, W, t, iv_af g (iv_cq f i), ez_af g (ez_cq f ez)⟩ e)
  refine call_of rfl (Nat.le_of_ble_eq_true rfl) rfl (vC_reckon_0 (sC_isCase (fun q => vC_reckon_4 rfl ⟨fun q => absurd rfl q, fun _ => key M _ (cq_rf M) ?_⟩) (fun k hk ek => vC_reckon_4 rfl ⟨fun _ => lC_weighNow c (vC_reckon_13 rfl (cx11 (cx_cq (cq_bgn M L R (gi M 10 9)) c)) ?_), fun q => absurd q (by decide)⟩)))
  · rw [mReckon, nC q, if_neg (by decide)]
  · subst ek
    refine eWe_weigh (cxw c _) (cxL c) (cxR c) hk (fun O qO vO => ?_)
    have fO := cqb qO
    obtain ⟨e1, e2, e3, e4⟩ := held_e (cmp_of i ez.1 ey fO) hW (iv_cq fO i).2.1.2.2.1 hk
    obtain ⟨-, -, -, v6, v7, v8, v9⟩ := vO
    have v6' : gi O 5192 6 = sb (gl (EO O W)) 7003 k 8 := (show gi O 5192 6 = ysC (bgn M L R (gi M 10 9)) L R k from v6).trans e1
    have v7' : gi O 5192 7 = sb (gl (EO O W)) 7067 k 8 := (show gi O 5192 7 = nsC (bgn M L R (gi M 10 9)) L R k from v7).trans e2
    have v8' : gi O 5192 8 = byv (EO O W) W k := (show gi O 5192 8 = byC (bgn M L R (gi M 10 9)) L R k from v8).trans e3
    have v9' : gi O 5192 9 = hev (EO O W) W k := (show gi O 5192 9 = heC (bgn M L R (gi M 10 9)) L R k from v9).trans e4
    have cl : (nI k).toNatClampNeg = k := ncl (by omega)
    refine vC_reckon_21 rfl (cx11 (cx_cq fO c)) ?_
    rw [v6', v7', v8', v9']
    refine ⟨fun q => key _ _ fO ?_, fun q => key _ _ fO ?_, fun q => key _ _ fO ?_, fun q => key _ _ fO ?_, fun q => key _ _ fO ?_⟩
    · rw [mReckon, yC hk, if_pos rfl, cl, if_pos q.1, if_pos q.2.1, if_pos q.2.2.1, if_pos q.2.2.2]
    · rw [mReckon, yC hk, if_pos rfl, cl, if_pos q.1, if_pos q.2.1, if_pos q.2.2.1, if_neg q.2.2.2]
    · rw [mReckon, yC hk, if_pos rfl, cl, if_pos q.1, if_pos q.2.1, if_neg q.2.2]
    · rw [mReckon, yC hk, if_pos rfl, cl, if_pos q.1, if_neg q.2]
    · rw [mReckon, yC hk, if_pos rfl, cl, if_neg q]
theorem isK_c {v : Int32} (h : isK v = true) : v = 0 ∨ v = 1 ∨ v = 2 ∨ ∃ x, x < 5 ∧ v = nI (10 + x) := by
  rcases of_decide_eq_true h with z | z
  · obtain ⟨x, hx, e⟩ := rngL (c := 2) (n := 2) rfl (by decide) z.1 (Int32.not_lt.mpr z.2)
    have : x = 0 ∨ x = 1 ∨ x = 2 := by omega
    rcases this with rfl | rfl | rfl
    · exact Or.inl e
    · exact Or.inr (Or.inl e)
    · exact Or.inr (Or.inr (Or.inl e))
  · have z1 : ¬ v < 0 := fun y => z.1 (Int32.lt_trans y (by decide))
    obtain ⟨x, hx, e⟩ := rngL (c := 14) (n := 14) rfl (by decide) z1 z.2
    have z2 := z.1
    rw [e, show (10 : Int32) = nI 10 from rfl, nlt (by decide) (by omega)] at z2
    exact Or.inr (Or.inr (Or.inr ⟨x - 10, by omega, by rw [e, show 10 + (x - 10) = x by omega]⟩))
/-- what is held is yes, no, or nothing -/
theorem hev_3 {A : Mm} (m : CMP A N L R W G) (hW : W ≤ 24) (hh : HD N) {c : Nat} (hc : c < 64) : hev (EO N W) W c = 1 ∨ hev (EO N W) W c = 0 ∨ hev (EO N W) W c = -4 := by
  have t5 : T5 (gi (EO N W) 6543 5) := m.2.2.2.2.2.2.2.2.1.2.2
  have tdc : ∀ (y z : Int64) (x : Int32), td y z x = 1 ∨ td y z x = 0 ∨ td y z x = -4 := fun y z x => by
    unfold td
    split
    · exact Or.inl rfl
    · split
      · exact Or.inr (Or.inl rfl)
      · exact Or.inr (Or.inr rfl)
  have lvc : ∀ i, lav (EO N W) (nI c) i = 1 ∨ lav (EO N W) (nI c) i = 0 ∨ lav (EO N W) (nI c) i = -4 := fun i => by
    unfold lav
    split
    · exact tdc _ _ _
    · exact Or.inr (Or.inr rfl)
  have lc : laV (EO N W) W (nI c) = 1 ∨ laV (EO N W) W (nI c) = 0 ∨ laV (EO N W) W (nI c) = -4 := by
    have key : ∀ k, (laS (EO N W) (nI c) k).1 = 1 ∨ (laS (EO N W) (nI c) k).1 = 0 ∨ (laS (EO N W) (nI c) k).1 = -4 := by
      intro k
      induction k with
      | zero => exact Or.inr (Or.inr rfl)
      | succ k ih =>
        rw [laS]
        split
        · exact ih
        · exact lvc k
    unfold laV
    split
    · exact Or.inr (Or.inr rfl)
    · split
      · exact key W
      · exact Or.inr (Or.inr rfl)
  have hc' : hdv (EO N W) c = 1 ∨ hdv (EO N W) c = 0 ∨ hdv (EO N W) c = -4 := by
    unfold hdv
    split
    · exact Or.inr (Or.inr rfl)
    · exact tdc _ _ _
  unfold hev hef
  split
  · exact lc
  · split
    · split
      · exact Or.inr (Or.inl rfl)
      · exact Or.inl rfl
    · split
      · exact hc'
      · exact t5
/-- the cases of a kind, on both sides -/
theorem cs_e {A : Mm} (m : CMP A N L R W G) (hW : W ≤ 24) (hh : HD N) {v : Int32} (hv : isK v = true) : ∀ k, k ≤ 64 → csO A L R v k = csv (hev (EO N W) W) (byv (EO N W) W) v k
  | 0, _ => rfl
  | k + 1, hk => by
    obtain ⟨e1, e2, e3, e4⟩ := held_e m hW hh (c := k) (by omega)
    rw [csO, csv, cs_e m hW hh hv k (by omega)]
    have iff : csK A L R v k = v ↔ csb (hev (EO N W) W) (byv (EO N W) W) v k = true := by
      unfold csK csb
      rw [e3, e4]
      have h3 := hev_3 m hW hh (c := k) (by omega)
      rcases isK_c hv with q | q | q | ⟨x, hx, q⟩
      · rw [if_pos (show v < 10 by rw [q]; decide), if_pos q, decide_eq_true_eq, q]
        rcases h3 with z | z | z <;> rw [z] <;> decide
      · rw [if_pos (show v < 10 by rw [q]; decide), if_neg (show ¬ v = 0 by rw [q]; decide), if_pos q, decide_eq_true_eq, q]
        rcases h3 with z | z | z <;> rw [z] <;> decide
      · rw [if_pos (show v < 10 by rw [q]; decide), if_neg (show ¬ v = 0 by rw [q]; decide), if_neg (show ¬ v = 1 by rw [q]; decide), if_pos q, decide_eq_true_eq, q]
        rcases h3 with z | z | z <;> rw [z] <;> decide
      · have n10 : ¬ v < 10 := by rw [q, show (10 : Int32) = nI 10 from rfl, nlt (by decide) (by omega)]; omega
        have nn : ∀ y, y < 10 → ¬ v = nI y := fun y hy z => by
          rw [q, ninj (by omega) (by omega)] at z; omega
        rw [if_neg n10, if_neg (show ¬ v = 0 from nn 0 (by decide)), if_neg (show ¬ v = 1 from nn 1 (by decide)), if_neg (show ¬ v = 2 from nn 2 (by decide)), decide_eq_true_eq]
        have es : v - 10 = nI x := by rw [q]; exact (nsub (a := 10 + x) (b := 10) (by omega)).trans (by rw [show 10 + x - 10 = x by omega])
        rw [es, q]
        have ad : ∀ y : Int32, 10 + y = nI (10 + x) ↔ y = nI x := fun y => by
          rw [show nI (10 + x) = 10 + nI x from (nadd 10 x).symm]
          exact Int32.add_right_inj 10
        exact ad _
    by_cases q : csK A L R v k = v
    · rw [if_pos q, if_pos (iff.mp q)]
    · rw [if_neg q, if_neg (fun z => q (iff.mpr z))]
theorem eC_isKind {w : Int32} {K : Int32 → Mm → Prop} (h0 : isK w = false → K 0 M) (h1 : isK w = true → K 1 M) : CI mC_isKindOfCases [.int w] M K := by
  refine call_of rfl (Nat.le_of_ble_eq_true rfl) rfl (vC_isKindOfCases_0 ⟨fun q => ⟨fun p => h0 (decide_eq_false ?_), fun p => h1 (decide_eq_true (Or.inr p))⟩, fun q => h1 (decide_eq_true (Or.inl q))⟩)
  rintro (z | z)
  · rcases q with q | q
    · exact z.1 q
    · exact q.2 z.2
  · rcases p with p | p
    · exact z.1 p
    · exact z.2 p.2
theorem eC_casesNow {w : Int32} {K : Int64 → Mm → Prop} (c : CX M L P R S U) (h : ∀ N, CQ M N → K (csO (bgn M L R (gi M 10 9)) L R w 64) N) : CJ mC_casesNow [.ref 10, .int w] M K :=
  call_of rfl (Nat.le_of_ble_eq_true rfl) rfl (vC_casesNow_0 rfl (lC_weighNow c (vC_casesNow_4 rfl (cx11 (cx_cq (cq_bgn M L R (gi M 10 9)) c)) (eWe_casesOf (cxw c _) (cxL c) (cxR c) (fun N qN => vC_casesNow_12 (h N (cqb qN)))))))
theorem pz_cases {v : Int32} {Z : Int64 → Int64 → Mm → Prop} (i0 : INY M) (h : ∀ r s N, INY N → r = s → Z r s N) : CJ mC_cases [.ref 10, .int v] M (fun r N => CJ mM_cases [.ref 6027, .int v] N (fun s O => Z r s O)) := by
  obtain ⟨L, P, R, S, U, D, W, t, i, ez⟩ := i0
  have c := i.1.1
  have hW : W ≤ 24 := i.2.1.2.1
  obtain ⟨G, ey⟩ := ez.2
  have key : ∀ N r, CQ M N → r = mCases N W v → CJ mM_cases [.ref 6027, .int v] N (fun s O => Z r s O) := fun N r f e => tM_cases (iv_cq f i).2.1.1 (iv_cq f i).2.1.2.2.1 (fun O g => h _ _ O ⟨L, P, R, S, U, D, W, t, iv_af g (iv_cq f i), ez_af g (ez_cq f ez)⟩ e)
  refine call_of rfl (Nat.le_of_ble_eq_true rfl) rfl (vC_cases_0 (eC_isKind (fun q => vC_cases_4 rfl ⟨fun _ => key M _ (cq_rf M) ?_, fun q => absurd rfl q⟩) (fun q => vC_cases_4 rfl ⟨fun q => absurd q (by decide), fun _ => eC_casesNow c (fun N fN => vC_cases_12 (key N _ fN ?_))⟩)))
  · rw [mCases, q, if_neg (by decide)]
  · rw [mCases, q, if_pos rfl]
    exact cs_e (cmp_of i ez.1 ey fN) hW (iv_cq fN i).2.1.2.2.1 q 64 (Nat.le_refl 64)
end EV1
