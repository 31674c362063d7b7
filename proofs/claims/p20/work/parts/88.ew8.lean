/-! ===== near, widest: the same on both sides (draft, never compiled) ===== -/
theorem xr_64 : ∀ a, a < 64 → ∀ b, b < 64 → (nI a ^^^ nI b) = nI (a ^^^ b) := by decide +kernel
theorem pc_6 : ∀ x, x < 64 → pc8 x ≤ 6 := by decide +kernel
theorem co_x {a b : Nat} (ha : a < 64) (hb : b < 64) : ∃ k, k ≤ 6 ∧ co (nI a ^^^ nI b) 32 = nI k := by
  have l : a ^^^ b < 64 := Nat.xor_lt_two_pow (n := 6) ha hb
  exact ⟨pc8 (a ^^^ b), pc_6 _ l, by rw [xr_64 a ha b hb, co_64 _ l]⟩
theorem nrs_cg {H H' : Nat → Int32} {c : Nat} {a : Int32} : ∀ k, (∀ o, o < k → H o = H' o) → nrs H c a k = nrs H' c a k
  | 0, _ => rfl
  | k + 1, h => by rw [nrs, nrs, nrs_cg k (fun o ho => h o (by omega)), h k (by omega)]
theorem nrs_in {H : Nat → Int32} {c : Nat} {a : Int32} : ∀ k, nrs H c a k = -4 ∨ ∃ o, o < k ∧ nrs H c a k = nI o
  | 0 => Or.inl rfl
  | k + 1 => by
    rw [nrs]
    split
    · exact Or.inr ⟨k, by omega, rfl⟩
    · rcases nrs_in (H := H) (c := c) (a := a) k with h | ⟨o, ho, h⟩
      · exact Or.inl h
      · exact Or.inr ⟨o, by omega, h⟩
section EV2
variable {M N : Mm} {L P R S U D W t : Nat} {G : Nat → Nat → Int32}
theorem pz_near {v w x : Int32} {Z : Int32 → Int32 → Mm → Prop} (i0 : INY M) (h : ∀ r s N, INY N → r = s → Z r s N) : CI mC_near [.ref 10, .int v, .int w, .int x] M (fun r N => CI mM_near [.ref 6027, .int v, .int w, .int x] N (fun s O => Z r s O)) := by
  obtain ⟨L, P, R, S, U, D, W, t, i, ez⟩ := i0
  have c := i.1.1
  have hW : W ≤ 24 := i.2.1.2.1
  obtain ⟨G, ey⟩ := ez.2
  have key : ∀ N r, CQ M N → r = mNear N W v w x → CI mM_near [.ref 6027, .int v, .int w, .int x] N (fun s O => Z r s O) := fun N r f e => tM_near (iv_cq f i).2.1.1 (iv_cq f i).2.1.2.2.1 (fun O g => h _ _ O ⟨L, P, R, S, U, D, W, t, iv_af g (iv_cq f i), ez_af g (ez_cq f ez)⟩ e)
  refine call_of rfl (Nat.le_of_ble_eq_true rfl) rfl (vC_near_0 (sC_isCase (fun q => vC_near_4 ⟨fun _ => key M _ (cq_rf M) ?_, fun q => absurd rfl q⟩) (fun j hj ej => vC_near_4 ⟨fun q => absurd q (by decide), fun _ => sC_isEither (fun q1 q2 => vC_near_11 ⟨fun _ => key M _ (cq_rf M) ?_, fun q => absurd rfl q⟩) (fun ea => vC_near_11 ⟨fun q => absurd q (by decide), fun _ => sC_isEither (fun q1 q2 => vC_near_18 rfl ⟨fun q => absurd rfl q, fun _ => key M _ (cq_rf M) ?_⟩) (fun ew => vC_near_18 rfl ⟨fun _ => lC_weighNow c (vC_near_27 ?_), fun q => absurd q (by decide)⟩)⟩)⟩)))
  · rw [mNear, nC q, Bool.false_and, if_neg (by decide)]
  · rw [mNear, nE q1 q2, Bool.false_and, Bool.and_false, if_neg (by decide)]
  · rw [mNear, nE q1 q2, Bool.and_false, Bool.and_false, if_neg (by decide)]
  · subst ej
    generalize eB : bgn M L R (gi M 10 9) = B
    have wB : WH B L R := by rw [← eB]; exact cxw c _
    have same : ∀ N, WQ B N → ∀ o, o < 64 → hev (EO N W) W o = heC B L R o := fun N qN o ho => by
      have f : CQ M N := by rw [← eB] at qN; exact cqb qN
      have := (held_e (cmp_of i ez.1 ey f) hW (iv_cq f i).2.1.2.2.1 ho).2.2.2
      rw [eB] at this
      exact this.symm
    refine lp 64 (P := fun k => ∀ N, WQ B N → X mC_near 38 [(0, .ref 10), (1, .int (nI j)), (2, .int w), (3, .int x), (4, .int (nrs (heC B L R) j w k)), (5, .int (if nrs (heC B L R) j w k = -4 then 7 else co (nrs (heC B L R) j w k ^^^ nI j) 32)), (6, .int (nI k))] [] N (mC mC_near, mS mC_near) (QI (fun r N => CI mM_near [.ref 6027, .int (nI j), .int w, .int x] N (fun s O => Z r s O)))) (fun k hk ih N qN => ?_) (fun N qN => ?_) B (wq_rf B)
    · have fN : CQ M N := by rw [← eB] at qN; exact cqb qN
      have wN := wh_gr wB qN.1
      have nk := nge (c := 64) (i := k) (n := 64) rfl (by decide) hk
      obtain ⟨m, hm, em⟩ := co_x hk hj
      have sym : (nI j ^^^ nI k) = (nI k ^^^ nI j) := Int32.xor_comm ..
      -- is it nearer
      have cond : ((if nrs (heC B L R) j w k = -4 then (7 : Int32) else co (nrs (heC B L R) j w k ^^^ nI j) 32) ≤ co (nI k ^^^ nI j) 32) ↔ ¬ (nrs (heC B L R) j w k = -4 ∨ ¬ co (nrs (heC B L R) j w k ^^^ nI j) 32 ≤ co (nI k ^^^ nI j) 32) := by
        by_cases z : nrs (heC B L R) j w k = -4
        · rw [if_pos z, em, show (7 : Int32) = nI 7 from rfl, nle (by omega) (by decide)]
          exact ⟨fun y => by omega, fun y => absurd (Or.inl z) y⟩
        · rw [if_neg z]
          constructor
          · intro y q
            rcases q with q | q
            · exact z q
            · exact q y
          · intro y
            by_cases q : co (nrs (heC B L R) j w k ^^^ nI j) 32 ≤ co (nI k ^^^ nI j) 32
            · exact q
            · exact absurd (Or.inr q) y
      refine vC_near_38 ⟨fun q => ?_, fun q => absurd q.1 nk, fun _ => sJi_bitCount (fun r er => ?_)⟩
      · exfalso
        rcases q with q | q <;> exact nk q.1
      · have er' : r = co (nI k ^^^ nI j) 32 := by rw [er, bc_co, sym]
        subst er'
        refine vC_near_52 rfl (cx11 (cx_cq fN c)) ⟨fun p => ?_, fun p => eWe_heldIn wN (cxL c) (cxR c) hk (fun O qO _ => ?_)⟩
        · have e : nrs (heC B L R) j w (k + 1) = nrs (heC B L R) j w k := by rw [nrs, if_neg (fun z => cond.mp p z.2)]
          rw [e] at ih
          rw [nI_s]; exact ih N qN
        · rw [heC_wq qN (cxL c) (cxR c)]
          have np : nrs (heC B L R) j w k = -4 ∨ ¬ co (nrs (heC B L R) j w k ^^^ nI j) 32 ≤ co (nI k ^^^ nI j) 32 := by
            by_cases z : nrs (heC B L R) j w k = -4 ∨ ¬ co (nrs (heC B L R) j w k ^^^ nI j) 32 ≤ co (nI k ^^^ nI j) 32
            · exact z
            · exact absurd (cond.mpr z) p
          refine vC_near_70 ⟨fun z => ?_, fun z => ?_⟩
          · have e : nrs (heC B L R) j w (k + 1) = nrs (heC B L R) j w k := by rw [nrs, if_neg (fun y => z y.1)]
            rw [e] at ih
            rw [nI_s]; exact ih O (wq_tr qN qO)
          · have e : nrs (heC B L R) j w (k + 1) = nI k := by rw [nrs, if_pos ⟨z, np⟩]
            have n4 : ¬ nI k = -4 := fun y => by
              have := n0 k (by omega)
              rw [y] at this
              exact this (by decide)
            rw [e, if_neg n4] at ih
            rw [nI_s]; exact ih O (wq_tr qN qO)
    · have fN : CQ M N := by rw [← eB] at qN; exact cqb qN
      have l : (64 : Int32) ≤ nI 64 := nself rfl
      have en : nrs (hev (EO N W) W) j w 64 = nrs (heC B L R) j w 64 := nrs_cg 64 (fun o ho => same N qN o ho)
      have cl : (nI j).toNatClampNeg = j := ncl (by omega)
      refine vC_near_38 ⟨fun q => key N _ fN ?_, fun q => key N _ fN ?_, fun q => absurd l q⟩
      · rw [mNear, yC hj, yE ea, yE ew, if_pos (show (true && (true && true)) = true from rfl), cl, en]
        rcases q with q | q
        · rw [if_pos q.2, q.2]
        · rw [if_neg q.2.1, if_pos q.2.2]
      · rw [mNear, yC hj, yE ea, yE ew, if_pos (show (true && (true && true)) = true from rfl), cl, en, if_neg q.2.1, if_neg q.2.1, if_neg q.2.2]
/-- how many say a thing is no more than eight -/
theorem ocn_n (o : Nat → Int32) (v : Int32) : ∀ k, ∃ n, n ≤ k ∧ ocn o v k = nI n
  | 0 => ⟨0, by omega, rfl⟩
  | k + 1 => by
    obtain ⟨n, hn, e⟩ := ocn_n o v k
    rw [ocn, e]
    by_cases q : o k = v
    · rw [if_pos q]; exact ⟨n + 1, by omega, nI_s n⟩
    · rw [if_neg q]; exact ⟨n, by omega, by rw [Int32.add_zero]⟩
theorem wds_cg {Y Y' V V' : Nat → Int32} : ∀ k, (∀ o, o < k → Y o = Y' o ∧ V o = V' o) → wds Y V k = wds Y' V' k
  | 0, _ => rfl
  | k + 1, h => by
    have e : wdv Y V k = wdv Y' V' k := by unfold wdv; rw [(h k (by omega)).1, (h k (by omega)).2]
    rw [wds, wds, wds_cg k (fun o ho => h o (by omega)), e]
theorem dv_100 : ∀ g, g < 9 → ∀ s, s < 17 → nI (100 * g + s) / 100 = nI g := by decide +kernel
theorem wdv_n {Y V : Nat → Int32} {k y n : Nat} (ey : Y k = nI y) (en : V k = nI n) (hy : y ≤ 8) (hn : n ≤ 8) : wdv Y V k = nI (100 * (if n ≤ y then n else y) + (y + n)) ∧ (if V k < Y k then V k else Y k) = nI (if n ≤ y then n else y) ∧ Y k + V k = nI (y + n) := by
  unfold wdv
  rw [ey, en]
  have a : (nI n ≤ nI y) ↔ n ≤ y := nle (by omega) (by omega)
  have b : (nI n < nI y) ↔ n < y := nlt (by omega) (by omega)
  refine ⟨?_, ?_, nadd y n⟩
  · by_cases q : n ≤ y
    · rw [if_pos (a.mpr q), if_pos q, show (100 : Int32) = nI 100 from rfl, pk_mul, nadd, nadd, Nat.add_assoc]
    · rw [if_neg (fun z => q (a.mp z)), if_neg q, show (100 : Int32) = nI 100 from rfl, pk_mul, nadd, nadd, Nat.add_assoc]
  · by_cases q : n ≤ y
    · rw [if_pos q]
      by_cases z : n < y
      · rw [if_pos (b.mpr z)]
      · rw [if_neg (fun w => z (b.mp w)), show y = n by omega]
    · rw [if_neg q, if_neg (fun w => q (by have := b.mp w; omega))]
theorem pz_widest {v : Int32} {Z : Int32 → Int32 → Mm → Prop} (i0 : INY M) (h : ∀ r s N, INY N → r = s → Z r s N) : CI mC_widest [.ref 10, .int v] M (fun r N => CI mM_widest [.ref 6027, .int v] N (fun s O => Z r s O)) := by
  obtain ⟨L, P, R, S, U, D, W, t, i, ez⟩ := i0
  have c := i.1.1
  have hW : W ≤ 24 := i.2.1.2.1
  obtain ⟨G, ey⟩ := ez.2
  have key : ∀ N r, CQ M N → r = mWidest N W v → CI mM_widest [.ref 6027, .int v] N (fun s O => Z r s O) := fun N r f e => tM_widest (iv_cq f i).2.1.1 (iv_cq f i).2.1.2.2.1 (fun O g => h _ _ O ⟨L, P, R, S, U, D, W, t, iv_af g (iv_cq f i), ez_af g (ez_cq f ez)⟩ e)
  refine call_of rfl (Nat.le_of_ble_eq_true rfl) rfl (vC_widest_0 (sC_isEither (fun q1 q2 => vC_widest_4 rfl ⟨fun q => absurd rfl q, fun _ => key M _ (cq_rf M) ?_⟩) (fun ew => vC_widest_4 rfl ⟨fun _ => lC_weighNow c (vC_widest_13 ?_), fun q => absurd q (by decide)⟩)))
  · rw [mWidest, nE q1 q2, if_neg (by decide)]
  · generalize eB : bgn M L R (gi M 10 9) = B
    have wB : WH B L R := by rw [← eB]; exact cxw c _
    have same : ∀ N, WQ B N → ∀ o, o < 64 → ysE N W o = ysC B L R o ∧ nsE N W o = nsC B L R o := fun N qN o ho => by
      have f : CQ M N := by rw [← eB] at qN; exact cqb qN
      have := held_e (cmp_of i ez.1 ey f) hW (iv_cq f i).2.1.2.2.1 ho
      rw [eB] at this
      exact ⟨this.1.symm, this.2.1.symm⟩
    refine lp 64 (P := fun k => ∀ N g s, WQ B N → g ≤ 8 → s ≤ 16 → (wds (ysC B L R) (nsC B L R) k).2 = nI (100 * g + s) → X mC_widest 24 [(0, .ref 10), (1, .int v), (2, .int (wds (ysC B L R) (nsC B L R) k).1), (3, .int (nI g)), (4, .int (nI s)), (5, .int (nI k))] [] N (mC mC_widest, mS mC_widest) (QI (fun r N => CI mM_widest [.ref 6027, .int v] N (fun s O => Z r s O)))) (fun k hk ih N g s qN hg hs eM => ?_) (fun N g s qN hg hs eM => ?_) B 0 0 (wq_rf B) (by omega) (by omega) rfl
    · have fN : CQ M N := by rw [← eB] at qN; exact cqb qN
      have wN := wh_gr wB qN.1
      have nk := nge (c := 64) (i := k) (n := 64) rfl (by decide) hk
      refine vC_widest_24 rfl (cx11 (cx_cq fN c)) ⟨fun q => ?_, fun q => absurd q.1 nk, fun _ => eWe_weigh wN (cxL c) (cxR c) hk (fun O qO vO => uC_widest_40 rfl (cx11 (cx_cq (by have := wq_tr qN qO; rw [← eB] at this; exact cqb this) c)) ?_)⟩
      · exfalso
        rcases q with q | q <;> exact nk q.1
      · have o6 : gi O 5192 6 = ysC B L R k := (show gi O 5192 6 = ysC N L R k from vO.2.2.2.1).trans (ysC_wq qN (cxL c) (cxR c) k)
        have o7 : gi O 5192 7 = nsC B L R k := (show gi O 5192 7 = nsC N L R k from vO.2.2.2.2.1).trans (nsC_wq qN (cxL c) (cxR c) k)
        obtain ⟨y, hy, ey'⟩ := ocn_n (fun d => opn B L R d k) 1 8
        obtain ⟨n, hn, en'⟩ := ocn_n (fun d => opn B L R d k) 0 8
        obtain ⟨w1, w2, w3⟩ := wdv_n (Y := ysC B L R) (V := nsC B L R) (k := k) ey' en' hy hn
        rw [o6, o7, w2, w3]
        generalize el : (if n ≤ y then n else y) = l at w1 w2
        have hl : l ≤ 8 := by rw [← el]; split <;> omega
        have cmp : (wdv (ysC B L R) (nsC B L R) k ≤ (wds (ysC B L R) (nsC B L R) k).2) ↔ 100 * l + (y + n) ≤ 100 * g + s := by rw [w1, eM, nle (by omega) (by omega)]
        have c1 : (nI g < nI l) ↔ g < l := nlt (by omega) (by omega)
        have c2 : (nI l = nI g) ↔ l = g := ninj (by omega) (by omega)
        have c3 : (nI (y + n) ≤ nI s) ↔ y + n ≤ s := nle (by omega) (by omega)
        refine ⟨fun p => ?_, fun p => ?_⟩
        · have up : ¬ 100 * l + (y + n) ≤ 100 * g + s := by
            rcases p with p | p
            · have := c1.mp p; omega
            · have a := c2.mp p.2.1
              have b : ¬ y + n ≤ s := fun z => p.2.2 (c3.mpr z)
              omega
          have ncmp : ¬ wdv (ysC B L R) (nsC B L R) k ≤ (wds (ysC B L R) (nsC B L R) k).2 := fun z => up (cmp.mp z)
          have e1 : (wds (ysC B L R) (nsC B L R) (k + 1)).1 = nI k := by rw [wds]; exact if_neg ncmp
          have e2 : (wds (ysC B L R) (nsC B L R) (k + 1)).2 = nI (100 * l + (y + n)) := by rw [wds, ← w1]; exact if_neg ncmp
          have := ih O l (y + n) (wq_tr qN qO) hl (by omega) e2
          rw [e1] at this
          rw [nI_s]; exact this
        · have dn' : 100 * l + (y + n) ≤ 100 * g + s := by
            rcases p with p | p
            · have a : ¬ g < l := fun z => p.1 (c1.mpr z)
              have b : ¬ l = g := fun z => p.2 (c2.mpr z)
              omega
            · have a := c2.mp p.2.1
              have b := c3.mp p.2.2
              omega
          have ycmp := cmp.mpr dn'
          have e1 : (wds (ysC B L R) (nsC B L R) (k + 1)).1 = (wds (ysC B L R) (nsC B L R) k).1 := by rw [wds]; exact if_pos ycmp
          have e2 : (wds (ysC B L R) (nsC B L R) (k + 1)).2 = nI (100 * g + s) := by rw [wds, ← eM]; exact if_pos ycmp
          have := ih O g s (wq_tr qN qO) hg hs e2
          rw [e1] at this
          rw [nI_s]; exact this
    · have fN : CQ M N := by rw [← eB] at qN; exact cqb qN
      have l : (64 : Int32) ≤ nI 64 := nself rfl
      have en : wds (ysE N W) (nsE N W) 64 = wds (ysC B L R) (nsC B L R) 64 := wds_cg 64 (fun o ho => same N qN o ho)
      refine vC_widest_24 rfl (cx11 (cx_cq fN c)) ⟨fun q => key N _ fN ?_, fun q => key N _ fN ?_, fun q => absurd l q⟩
      · rw [mWidest, yE ew, if_pos rfl, en]
        rcases q with q | q
        · rw [if_pos q.2, q.2]
        · rw [if_neg q.2.1, if_pos q.2.2]
      · rw [mWidest, yE ew, if_pos rfl, en, if_neg q.2.1, if_neg q.2.2, eM, dv_100 g (by omega) s (by omega)]
end EV2
