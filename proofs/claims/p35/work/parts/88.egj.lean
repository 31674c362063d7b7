section MG92
/-! ===== read: the same on both sides ===== -/
theorem q_add : ∀ q, q < 40 → ∀ i, i < 40 → (nI q).toInt64 + (nI i).toInt64 = (nI (q + i)).toInt64 := by decide +kernel
theorem q_neg : ∀ k, k < 80 → ¬ (nI k).toInt64 < 0 := by decide +kernel
theorem q_lt : ∀ k, k < 80 → ∀ z, z < 41 → ((nI k).toInt64 < (nI z).toInt64 ↔ k < z) := by decide +kernel
theorem q_32 : ∀ k, k < 80 → (nI k).toInt64.toInt32 = nI k := by decide +kernel
/-- cells read from the i-th on, r of them -/
def rdw (H C : Nat → Int32) (z q : Nat) (w : Int32) (n : Nat) : Nat → Int32 → Int32
  | 0, x => x
  | r + 1, x => if z ≤ q + (n - (r + 1)) then -12 else if isC (C (q + (n - (r + 1)))) = true then rdw H C z q w n r (x + (if H (C (q + (n - (r + 1)))).toNatClampNeg = w then 1 else 0)) else -20 - nI (n - (r + 1))
def rdA (H C : Nat → Int32) (z : Nat) (f : Int32) (n : Nat) (w : Int32) : Int32 := if n = 0 then 0 else if f < 0 ∨ nI z ≤ f then -12 else rdw H C z f.toNatClampNeg w n n 0
theorem isC_n {c : Int32} (h : isC c = true) : ∃ m, m < 64 ∧ c = nI m := by
  obtain ⟨a, b⟩ := of_decide_eq_true h
  exact rng (c := 64) (n := 64) rfl (by decide) a b
theorem rdw_cg {H H' C C' : Nat → Int32} {z q n : Nat} {w : Int32} (hH : ∀ c, c < 64 → H c = H' c) (hC : ∀ j, j < z → C j = C' j) : ∀ r x, rdw H C z q w n r x = rdw H' C' z q w n r x
  | 0, _ => rfl
  | r + 1, x => by
    rw [rdw, rdw]
    by_cases a : z ≤ q + (n - (r + 1))
    · rw [if_pos a, if_pos a]
    · rw [if_neg a, if_neg a, hC _ (by omega)]
      by_cases b : isC (C' (q + (n - (r + 1)))) = true
      · obtain ⟨m, hm, e⟩ := isC_n b
        rw [if_pos b, if_pos b, rdw_cg hH hC r, e, ncl (by omega), hH m hm]
      · rw [if_neg b, if_neg b]
theorem rdA_cg {H H' C C' : Nat → Int32} {z n : Nat} {f w : Int32} (hH : ∀ c, c < 64 → H c = H' c) (hC : ∀ j, j < z → C j = C' j) : rdA H C z f n w = rdA H' C' z f n w := by
  unfold rdA; rw [rdw_cg hH hC]
section EW7
variable {M N : Mm} {L P R S U D W t : Nat} {G : Nat → Nat → Int32}
theorem eC_readCells {e z : Nat} {f w : Int32} {n : Nat} {K : Int32 → Mm → Prop} (c : CX M L P R S U) (he : e < 4) (hn : n ≤ 40) (hz : z ≤ 40) (ez : gi M (sa e) 2 = nI z) (h : ∀ N, CQ M N → K (rdA (heC (bgn M L R (gi M 10 9)) L R) (gi M (5588 + 128 * e)) z f n w) N) : CI mC_readCells [.ref 10, .ref (sa e), .int f, .int (nI n), .int w] M K := by
  refine call_of rfl (Nat.le_of_ble_eq_true rfl) rfl (vC_readCells_0 rfl (lC_weighNow c (vC_readCells_4 ?_)))
  have nsa : ¬ (sa e = 5192 ∨ sa e = 5261 ∨ sa e = 5392) := by unfold sa; omega
  have nce : ¬ (5588 + 128 * e = 5192 ∨ 5588 + 128 * e = 5261 ∨ 5588 + 128 * e = 5392) := by omega
  obtain ⟨-, -, s3, -⟩ := sag c he
  have fB := cq_bgn M L R (gi M 10 9)
  by_cases n0' : n = 0
  · subst n0'
    have := h _ fB
    unfold rdA at this
    rw [if_pos rfl] at this
    exact vC_readCells_10 s3 ⟨fun _ => this, fun p => absurd (Int32.le_refl _) p⟩
  · by_cases fv : f < 0 ∨ nI z ≤ f
    · have := h _ fB
      unfold rdA at this
      rw [if_neg n0', if_pos fv] at this
      have eB : gi (bgn M L R (gi M 10 9)) (sa e) 2 = nI z := by rw [fB.2.2 _ nsa]; exact ez
      refine vC_readCells_10 s3 ⟨fun p => ?_, fun _ => call_of rfl (Nat.le_of_ble_eq_true rfl) rfl (vSh_hasCell_0 s3 ⟨fun _ => vC_readCells_21 s3 ⟨fun _ => this, fun p => absurd rfl p⟩, fun p => ?_⟩)⟩
      · exfalso
        rw [show (0 : Int32) = nI 0 from rfl, nle (by decide) (by omega)] at p
        omega
      · exfalso
        rw [eB] at p
        exact fv.elim p.1 p.2
    · have f1 : ¬ f < 0 := fun y => fv (Or.inl y)
      have f2 : ¬ nI z ≤ f := fun y => fv (Or.inr y)
      obtain ⟨q, hq, eq⟩ := rng (n := z) rfl (by omega) f1 f2
      have h' : ∀ N, CQ M N → K (rdw (heC (bgn M L R (gi M 10 9)) L R) (gi M (5588 + 128 * e)) z q w n n 0) N := fun N g => by
        have := h N g
        unfold rdA at this
        rw [if_neg n0', if_neg fv, eq, ncl (by omega)] at this
        exact this
      clear h
      subst eq
      have wB := cxw c (gi M 10 9)
      have cqB : ∀ {N}, WQ (bgn M L R (gi M 10 9)) N → CQ M N := fun q => cqb q
      generalize bgn M L R (gi M 10 9) = B at h' fB wB cqB ⊢
      refine lp n (P := fun i => ∀ x N, WQ B N → rdw (heC B L R) (gi M (5588 + 128 * e)) z q w n (n - i) x = rdw (heC B L R) (gi M (5588 + 128 * e)) z q w n n 0 → X mC_readCells 10 [(0, .ref 10), (1, .ref (sa e)), (2, .int (nI q)), (3, .int (nI n)), (4, .int w), (5, .int x), (6, .int (nI i))] [] N (mC mC_readCells, mS mC_readCells) (QI K)) (fun i hi ih x N qN eA => ?_) (fun x N qN eA => ?_) 0 B (wq_rf B) rfl
      · have g := cqB qN
        have cN := cx_cq g c
        obtain ⟨s1, s2, s3, s4⟩ := sag cN he
        have eN : gi N (sa e) 2 = nI z := by rw [g.2.2 _ nsa]; exact ez
        have eC : gi N (5588 + 128 * e) = gi M (5588 + 128 * e) := g.2.2 _ nce
        rw [show n - i = (n - (i + 1)) + 1 by omega, rdw, show n - (n - (i + 1) + 1) = i by omega] at eA
        have ai : nI q + nI i = nI (q + i) := nadd q i
        refine vC_readCells_10 s3 ⟨fun p => absurd p (nge rfl (by omega) hi), fun _ => call_of rfl (Nat.le_of_ble_eq_true rfl) rfl (vSh_hasCell_0 s3 ⟨fun p => ?_, fun _ => vC_readCells_21 s3 ⟨fun p => absurd p (by decide), fun _ => call_of rfl (Nat.le_of_ble_eq_true rfl) rfl (vSh_hasCell_0 s3 ⟨fun p => vC_readCells_32 s3 s2 ⟨fun p => absurd rfl p, fun p => absurd rfl p, fun _ => ?_⟩, fun p => vC_readCells_32 s3 s2 ⟨fun _ => ?_, fun _ => ?_, fun p => absurd p (by decide)⟩⟩)⟩⟩)⟩
        · exfalso
          rw [eN] at p
          rcases p with p | p
          · exact f1 p
          · exact f2 p.2
        · rw [eN, ai] at p
          have l : z ≤ q + i := by
            rcases p with p | p
            · exact absurd p (n0 _ (by omega))
            · exact (nle (by omega) (by omega)).mp p.2
          rw [if_pos l] at eA
          rw [eA]; exact h' N g
        · rw [eN, ai] at p
          rw [ai]
          have l : ¬ z ≤ q + i := fun y => p.2 ((nle (by omega) (by omega)).mpr y)
          exact vin (by omega) (by decide)
        · rw [eN, ai] at p
          have l : ¬ z ≤ q + i := fun y => p.2 ((nle (by omega) (by omega)).mpr y)
          rw [if_neg l] at eA
          rw [ai, ncl (by omega), eC]
          refine sC_isCase (fun y => vC_readCells_54 rfl (cx11 cN) ⟨fun p => absurd rfl p, fun _ => ?_⟩) (fun m hm em => vC_readCells_54 rfl (cx11 cN) ⟨fun _ => ?_, fun p => absurd p (by decide)⟩)
          · rw [nC y, if_neg (by decide)] at eA
            rw [eA]; exact h' N g
          · rw [em, yC hm, if_pos rfl, ncl (by omega)] at eA
            rw [em]
            refine eWe_heldIn (wh_gr wB qN.1) (cxL c) (cxR c) hm (fun O qO _ => vC_readCells_74 ?_)
            rw [nI_s, heC_wq qN (cxL c) (cxR c)]; exact ih _ _ (wq_tr qN qO) eA
      · obtain ⟨s1, s2, s3, s4⟩ := sag c he
        rw [show n - n = 0 by omega, rdw] at eA
        refine vC_readCells_10 s3 ⟨fun _ => ?_, fun p => absurd (Int32.le_refl _) p⟩
        rw [eA]; exact h' N (cqB qN)
def wan (w : Int32) : Int32 := if w = 0 then 1 else if w = 1 then 0 else -4
def mRead (M : Mm) (W : Nat) (k l f n w : Int32) : Int32 := if (isS k && isL l) = true ∧ (¬ n < 0 ∧ ¬ 40 < n) ∧ ¬ w < 0 ∧ ¬ 2 < w then
  (if gi M 7644 k.toNatClampNeg = l then rdA (rhe M W) (fun j => gi M 7773 (40 * k.toNatClampNeg + j)) (gi M 7708 k.toNatClampNeg).toNatClampNeg f n.toNatClampNeg (wan w) else if gi M 7644 k.toNatClampNeg = -4 then -11 else -13) else -1
theorem f64 {f : Int32} {z : Nat} (hz : z ≤ 40) (h : f < 0 ∨ nI z ≤ f) : (f.toInt64 + (0 : Int32).toInt64 < 0) ∨ (¬ (f.toInt64 + (0 : Int32).toInt64 < 0) ∧ ¬ (f.toInt64 + (0 : Int32).toInt64 < (nI z).toInt64)) := by
  have e0 : f.toInt64 + (0 : Int32).toInt64 = f.toInt64 := by
    rw [show (0 : Int32).toInt64 = 0 from rfl]; exact Int64.add_zero _
  rw [e0]
  by_cases q : f.toInt64 < 0
  · exact Or.inl q
  · refine Or.inr ⟨q, fun y => ?_⟩
    rw [Int64.lt_iff_toInt_lt] at q y
    rw [Int32.toInt_toInt64] at q y
    rw [Int32.toInt_toInt64] at y
    rcases h with h | h
    · rw [Int32.lt_iff_toInt_lt] at h
      have : (0 : Int64).toInt = 0 := by decide
      have : (0 : Int32).toInt = 0 := by decide
      omega
    · rw [Int32.le_iff_toInt_le] at h
      omega
theorem uM_read {k l f n w : Int32} {K : Int32 → Mm → Prop} (j : JW M W) (hh : HD M) (hs : ∀ e, e < 4 → ∃ n, n ≤ 40 ∧ gi M 7708 e = nI n) (h : ∀ N, QF W M N → K (mRead M W k l f n w) N) : CI mM_read [.ref 6027, .int k, .int l, .int f, .int n, .int w] M K := by
  have hm := j.1
  have bad : ∀ b, ¬ ((isS k && isL l) = true ∧ (¬ n < 0 ∧ ¬ 40 < n) ∧ ¬ w < 0 ∧ ¬ 2 < w) → b = (-1 : Int32) → K b M := fun b q e => by
    have := h M (qf_rf W M)
    rw [mRead, if_neg q] at this
    rw [e]; exact this
  refine call_of rfl (Nat.le_of_ble_eq_true rfl) rfl (vM_read_0 (sM_isSheet (fun q => vM_read_5 ⟨fun _ => bad _ (fun y => by rw [q] at y; exact absurd y.1 (by decide)) rfl, fun q => absurd rfl q⟩) (fun e he ee p1 p2 => vM_read_5 ⟨fun q => absurd q (by decide), fun _ => sM_in (l := 0) (m := 40) rfl rfl (fun q => vM_read_18 ⟨fun _ => bad _ (fun y => q.elim y.2.1.1 y.2.1.2) rfl, fun q => absurd rfl q⟩) (fun n1 n2 => vM_read_18 ⟨fun q => absurd q (by decide), fun _ => sM_in (l := 0) (m := 2) rfl rfl (fun q => vM_read_31 rfl (mr40 hm) ⟨fun q => absurd rfl q, fun q => absurd rfl q.1, fun q => absurd rfl q.1, fun q => absurd rfl q.1, fun q => absurd rfl q.1, fun _ => bad _ (fun y => q.elim y.2.2.1 y.2.2.2) rfl⟩) (fun w1 w2 => ?_)⟩)⟩)))
  have yes : (isS k && isL l) = true ∧ (¬ n < 0 ∧ ¬ 40 < n) ∧ ¬ w < 0 ∧ ¬ 2 < w := ⟨by rw [ee, yS he, yL p1 p2]; rfl, ⟨n1, n2⟩, w1, w2⟩
  have h1 : ∀ N, QF W M N → K (if gi M 7644 e = l then rdA (rhe M W) (fun j => gi M 7773 (40 * e + j)) (gi M 7708 e).toNatClampNeg f n.toNatClampNeg (wan w) else if gi M 7644 e = -4 then -11 else -13) N := fun N g => by
    have := h N g
    rw [mRead, if_pos yes, ee, ncl (by omega)] at this
    exact this
  clear h bad
  subst ee
  have ce : (nI e).toNatClampNeg = e := ncl (by omega)
  refine vM_read_31 rfl (mr40 hm) ⟨fun _ => vin he (by decide), fun _ => vin he (by decide), fun q => tM_findAll j hh (fun N g hf _ => vM_read_69 ?_), fun q => ?_, fun q => ?_, fun q => absurd q (by decide)⟩
  · rw [ce] at q
    have f1 : QF W M N := qf_af g
    have hmN := mr_w hm f1.1
    obtain ⟨m, hm40, hn⟩ := rngL (x := n) (c := 40) (n := 40) rfl (by decide) n1 n2
    subst hn
    obtain ⟨z, hz, ez⟩ := hs e he
    have ez2 : gi N 7708 e = nI z := by rw [f1.2.1 7708 (by decide)]; exact ez
    have e73 : gi N 7773 = gi M 7773 := f1.2.1 7773 (by decide)
    have H1 : ∀ c, c < 64 → gi N 7182 c = rhe M W c := fun c hc => by rw [(hf c hc).2.2.2, hev_eo hh hc]
    have fin := h1 N f1
    rw [if_pos q.2, ez, ncl (by omega), ncl (by omega)] at fin
    generalize eC : (fun j => gi M 7773 (40 * e + j)) = C at fin
    have eC' : ∀ j, gi M 7773 (40 * e + j) = C j := fun j => by rw [← eC]
    unfold rdA at fin
    by_cases m0 : m = 0
    · rw [if_pos m0] at fin
      subst m0
      exact vM_read_75 rfl (mr41 hmN) (mr42 hmN) ⟨fun _ => fin, fun q => absurd (Int32.le_refl _) q⟩
    · rw [if_neg m0] at fin
      have n0m : ¬ nI m ≤ 0 := by
        rw [show (0 : Int32) = nI 0 from rfl, nle (by decide) (by omega)]; omega
      by_cases fv : f < 0 ∨ nI z ≤ f
      · rw [if_pos fv] at fin
        have f6 := f64 hz fv
        refine vM_read_75 rfl (mr41 hmN) (mr42 hmN) ⟨fun p => absurd p n0m, fun _ => ⟨fun _ => vin he (by decide), fun p => ?_, fun _ => fin, fun p => ?_⟩⟩
        · exfalso
          rw [ce, ez2] at p
          rcases f6 with y | y
          · exact p.1 y
          · exact y.2 p.2
        · exfalso
          rw [ce, ez2] at p
          rcases f6 with y | y
          · exact p.1 y
          · exact y.2 p.2
      · rw [if_neg fv] at fin
        have f1' : ¬ f < 0 := fun y => fv (Or.inl y)
        have f2' : ¬ nI z ≤ f := fun y => fv (Or.inr y)
        obtain ⟨u, hu, eu⟩ := rng (n := z) rfl (by omega) f1' f2'
        subst eu
        rw [ncl (by omega)] at fin
        have w3 : w = 0 ∨ w = 1 ∨ w = 2 := by
          obtain ⟨y, hy, e⟩ := rngL (c := 2) (n := 2) rfl (by decide) w1 w2
          have : y = 0 ∨ y = 1 ∨ y = 2 := by omega
          rcases this with rfl | rfl | rfl
          · exact Or.inl e
          · exact Or.inr (Or.inl e)
          · exact Or.inr (Or.inr e)
        refine lp m (P := fun i => ∀ x, rdw (rhe M W) C z u (wan w) m (m - i) x = rdw (rhe M W) C z u (wan w) m m 0 → X mM_read 75 [(0, .ref 6027), (1, .int (nI e)), (3, .int (nI u)), (4, .int (nI m)), (5, .int w), (6, .int x), (7, .int (nI i))] [] N (mC mM_read, mS mM_read) (QI K)) (fun i hi ih x eA => ?_) (fun x eA => ?_) 0 rfl
        · rw [show m - i = (m - (i + 1)) + 1 by omega, rdw, show m - (m - (i + 1) + 1) = i by omega] at eA
          have ad := q_add u (by omega) i (by omega)
          refine vM_read_75 rfl (mr41 hmN) (mr42 hmN) ⟨fun q => absurd q (nge rfl (by omega) hi), fun _ => ?_⟩
          rw [ad, q_32 _ (by omega), ce, ez2, nI_40, ncl (by omega), e73, eC']
          refine ⟨fun _ => vin he (by decide), fun p => ?_, fun p => ?_, fun p => ?_⟩
          · have := (q_lt _ (by omega) z (by omega)).mp p.2
            exact vin (by omega) (by decide)
          · have l : z ≤ u + i := by
              rcases p with p | p
              · exact absurd p (q_neg _ (by omega))
              · by_cases y : z ≤ u + i
                · exact y
                · exact absurd ((q_lt (u + i) (by omega) z (by omega)).mpr (by omega)) p.2
            rw [if_pos l] at eA
            rw [eA]; exact fin
          · have l := (q_lt _ (by omega) z (by omega)).mp p.2
            rw [if_neg (show ¬ z ≤ u + i by omega)] at eA
            refine sM_isCase (fun y => vM_read_133 rfl (mr30 hmN) ⟨fun q => absurd rfl q, fun q => absurd rfl q.1, fun q => absurd rfl q.1, fun q => absurd rfl q.1, fun _ => ?_⟩) (fun c hc ec => ?_)
            · rw [y, if_neg (by decide)] at eA
              rw [eA]; exact fin
            · rw [ec, yC hc, if_pos rfl, ncl (by omega)] at eA
              have go : ∀ a, a = wan w → X mM_read 172 [(0, .ref 6027), (1, .int (nI e)), (3, .int (nI u)), (4, .int (nI m)), (5, .int w), (7, .int (nI i))] [.int a, .int (gi N 7182 c), .int x] N (mC mM_read, mS mM_read) (QI K) := fun a ea => vM_read_172 (by
                rw [nI_s, H1 c hc, ea]; exact ih _ eA)
              have cc : (nI c).toNatClampNeg = c := ncl (by omega)
              rw [ec]
              refine vM_read_133 rfl (mr30 hmN) ⟨fun _ => vin hc (by decide), fun q => ?_, fun q => ?_, fun q => ?_, fun q => absurd q (by decide)⟩
              · rw [cc]; exact go _ (by unfold wan; rw [if_neg q.2.1, if_neg q.2.2])
              · rw [cc]; exact go _ (by unfold wan; rw [if_neg q.2.1, if_pos q.2.2])
              · rw [cc]; exact go _ (by unfold wan; rw [if_pos q.2])
        · rw [show m - m = 0 by omega, rdw] at eA
          refine vM_read_75 rfl (mr41 hmN) (mr42 hmN) ⟨fun _ => ?_, fun q => absurd (nself rfl) q⟩
          rw [eA]; exact fin
  · rw [ce] at q
    have := h1 M (qf_rf W M)
    rw [if_neg q.2.1, if_neg q.2.2] at this
    exact this
  · rw [ce] at q
    have := h1 M (qf_rf W M)
    rw [if_neg q.2.1, if_pos q.2.2] at this
    exact this
theorem pz_read {k l f n w : Int32} {Z : Int32 → Int32 → Mm → Prop} (i0 : INY M) (h : ∀ r s N, INY N → r = s → Z r s N) : CI mC_read [.ref 10, .int k, .int l, .int f, .int n, .int w] M (fun r N => CI mM_read [.ref 6027, .int k, .int l, .int f, .int n, .int w] N (fun s O => Z r s O)) := by
  obtain ⟨L, P, R, S, U, D, W, t, i, ez⟩ := i0
  have c := i.1.1
  have hW : W ≤ 24 := i.2.1.2.1
  obtain ⟨G, ey⟩ := ez.2
  have js : JS M := i.2.2.2
  have key : ∀ N r, CQ M N → r = mRead N W k l f n w → CI mM_read [.ref 6027, .int k, .int l, .int f, .int n, .int w] N (fun s O => Z r s O) := fun N r f e => uM_read (iv_cq f i).2.1.1 (iv_cq f i).2.1.2.2.1 (fun e he => by obtain ⟨⟨n, a, b, x⟩, -⟩ := (iv_cq f i).2.2.2 e he; exact ⟨n, a, x⟩) (fun O g => h _ _ O ⟨L, P, R, S, U, D, W, t, iv_qf g (iv_cq f i), ez_qf g (ez_cq f ez)⟩ e)
  have g13 := cxg c (10, 13, 5459) (by decide)
  have bad : ¬ ((isS k && isL l) = true ∧ (¬ n < 0 ∧ ¬ 40 < n) ∧ ¬ w < 0 ∧ ¬ 2 < w) → CI mM_read [.ref 6027, .int k, .int l, .int f, .int n, .int w] M (fun s O => Z (-1) s O) := fun q => key M _ (cq_rf M) (by rw [mRead, if_neg q])
  refine call_of rfl (Nat.le_of_ble_eq_true rfl) rfl (vC_read_0 (sC_isSheet (fun q => vC_read_4 ⟨fun _ => bad (fun y => by rw [nS q, Bool.false_and] at y; exact absurd y.1 (by decide)), fun q => absurd rfl q⟩) (fun e he ek => vC_read_4 ⟨fun q => absurd q (by decide), fun _ => sC_isLane (fun q => vC_read_11 rfl g13 ⟨fun _ => bad (fun y => by rw [nL q, Bool.and_false] at y; exact absurd y.1 (by decide)), fun q => absurd rfl q.1⟩) (fun l1 l2 => vC_read_11 rfl g13 ⟨fun q => bad (fun y => ?_), fun q => ?_⟩)⟩)))
  · rcases q with q | q | q | q | q
    · exact absurd q (by decide)
    · exact y.2.1.1 q.2
    · exact y.2.1.2 q.2.2
    · exact y.2.2.1 q.2.2.2
    · exact y.2.2.2 (Int32.not_le.mp q.2.2.2.2)
  obtain ⟨s1, s2, s3, s4⟩ := sag c he
  obtain ⟨m, hm, em⟩ := rngL (c := 40) (n := 40) rfl (by decide) q.2.1 q.2.2.1
  obtain ⟨⟨z, hz, ez1, ez2⟩, el, ec⟩ := js e he
  have yes : (isS k && isL l) = true ∧ (¬ n < 0 ∧ ¬ 40 < n) ∧ ¬ w < 0 ∧ ¬ 2 < w := ⟨by rw [ek, yS he, yL l1 l2]; rfl, ⟨q.2.1, q.2.2.1⟩, q.2.2.2.1, Int32.not_lt.mpr q.2.2.2.2⟩
  have l4 : ¬ l = -4 := fun y => l1 (by rw [y]; decide)
  have b97 : ∀ x, x = wan w → gi M (sa e) 1 = l → X mC_read 97 [] [.int x, .int n, .int f, .ref (sa e), .ref 10] M (mC mC_read, mS mC_read) (QI (fun r N => CI mM_read [.ref 6027, .int k, .int l, .int f, .int n, .int w] N (fun s O => Z r s O))) := by
    intro x ex' hl
    have ex2 : x = wan w := ex'
    rw [em]
    rw [em] at key yes
    refine vC_read_97 rfl (eC_readCells c he (by omega) hz ez1 (fun N fN => vC_read_100 (key N _ fN ?_)))
    have gN : ∀ a, ¬ (a = 5192 ∨ a = 5261 ∨ a = 5392) → gi N a = gi M a := fN.2.2
    have ml := cmp_of i ez.1 ey fN
    rw [mRead, if_pos yes, ek, ncl (by omega), gN 7644 (by decide), gN 7708 (by decide), gN 7773 (by decide), ← el, if_pos hl, ez2, ncl (by omega), ncl (by omega), ex2]
    exact rdA_cg (fun c hc => heC_e ml hW hc) (fun j hj => ec j (by omega))
  refine ⟨by rw [ek]; exact vin he (by decide), sa e, by rw [ek]; exact s1, call_of rfl (Nat.le_of_ble_eq_true rfl) rfl (vSh_isNothing_0 s3 (vC_read_52 s3 ⟨fun y => b97 _ (by unfold wan; rw [if_neg y.2.2.1, if_neg y.2.2.2]) y.2.1, fun y => b97 _ (by unfold wan; rw [if_neg y.2.2.1, if_pos y.2.2.2]) y.2.1, fun y => b97 _ (by unfold wan; rw [if_pos y.2.2]) y.2.1, fun y => key M _ (cq_rf M) ?_, fun y => key M _ (cq_rf M) ?_⟩))⟩
  · have n4 : ¬ gi M (sa e) 1 = -4 := fun x => by
      rw [if_pos x] at y; exact absurd y.1 (by decide)
    rw [mRead, if_pos yes, ek, ncl (by omega), ← el, if_neg y.2, if_neg n4]
  · have n4 : gi M (sa e) 1 = -4 := by
      by_cases x : gi M (sa e) 1 = -4
      · exact x
      · rw [if_neg x] at y; exact absurd rfl y
    rw [mRead, if_pos yes, ek, ncl (by omega), ← el, n4, if_neg (fun x => l4 x.symm), if_pos rfl]
end EW7
end MG92
section MG93
/-! ===== a found word: what a doctor says then, on both sides ===== -/
def bet (W v : Nat) : Nat := if v < W then v else 24
section EX2
variable {A M N S : Mm} {L P R U D W t d m : Nat} {G : Nat → Nat → Int32} {a : Int32}
end EX2
end MG93
