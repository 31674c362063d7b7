def co (v : Int32) : Nat → Int32
  | 0 => 0
  | k + 1 => co v k + ((v >>> (nI k &&& 31)) &&& 1)
theorem sM_countOf {M : Mm} {v : Int32} {K : Int32 → Mm → Prop} (h : K (co v 32) M) : CI mM_countOf [.int v] M K := by
  refine call_of rfl (Nat.le_of_ble_eq_true rfl) rfl (vM_countOf_0 ?_)
  have key := lp 32 (P := fun k => X mM_countOf 4 [(0, .int v), (1, .int (co v k)), (2, .int (nI k))] [] M (mC mM_countOf, mS mM_countOf) (QI K)) (fun k hk ih => ?_) ?_
  · exact key
  · refine vM_countOf_4 ⟨fun q => absurd q (nge rfl (by decide) hk), fun _ => ?_⟩
    rw [nI_s]; exact ih
  · exact vM_countOf_4 ⟨fun _ => h, fun q => absurd (nself rfl) q⟩
def bti (s b w : Nat) : Int32 := (4 * (nI s ||| ((1 : Int32) <<< (nI b &&& 31)))) + (2 * (1 - nI w))
theorem bti_in : ∀ s, s < 64 → ∀ b, b < 6 → ∀ w, w < 2 → ¬ (bti s b w < 0 ∨ 256 ≤ (bti s b w).toNatClampNeg) := by decide +kernel
theorem bt0 : ∀ b, b < 6 → ((nI 0 >>> (nI b &&& 31)) &&& 1) = 0 := by decide +kernel
/-- a turn changes the first turn alone -/
def FT (M N : Mm) : Prop := (∀ a, a ≠ 6027 → gi N a = gi M a) ∧ (∀ j, j ≠ 39 → gi N 6027 j = gi M 6027 j) ∧ gl N = gl M ∧ gr N = gr M
theorem ft_si {M N : Mm} {v : Int32} (f : FT M N) : FT M (si N 6027 39 v) := by
  refine ⟨fun a ha => ?_, fun j hj => ?_, f.2.2.1, f.2.2.2⟩
  · rw [← f.1 a ha]; funext k; rw [giR _ _ _ _ _ _ ha]
  · rw [gi_si, if_neg (fun q => hj q.2)]; exact f.2.1 j hj
theorem sM_bestTurn {M : Mm} {s w : Nat} {K : Int32 → Mm → Prop} (hm : MR M) (hz : ∀ j, j < 256 → gi M 7582 j = 0) (hs : s < 64) (hw : w < 2) (h : ∀ N, FT M N → (s = 0 → gi N 6027 39 = 0) → K 0 N) : CI mM_bestTurn [.ref 6027, .int (nI s), .int (nI w), .int 0] M K := by
  refine call_of rfl (Nat.le_of_ble_eq_true rfl) rfl (vM_bestTurn_0 rfl ?_)
  rw [show (if nI w = 1 then (0 : Int32) else -0) = 0 from by split <;> rfl]
  have key := lp 6 (P := fun b => ∀ N (f : Int32), FT M N → (s = 0 → 0 < b → f = 1 ∧ gi N 6027 39 = 0) → (s = 0 → b = 0 → f = 0) → X mM_bestTurn 25 [(0, .ref 6027), (1, .int (nI s)), (2, .int (nI w)), (4, .int 0), (5, .int f), (6, .int (nI b))] [] N (mC mM_bestTurn, mS mM_bestTurn) (QI K)) (fun b hb ih N f ft h1 h2 => ?_) (fun N f ft h1 h2 => ?_)
  · refine key _ 0 (ft_si ⟨fun _ _ => rfl, fun _ _ => rfl, rfl, rfl⟩) (fun _ q => absurd q (Nat.lt_irrefl 0)) (fun _ _ => rfl)
  · have hm2 := mr_w hm ft.2.2.2
    have hi := bti_in s hs b hb w hw
    have nq := nge (c := 6) (i := b) (n := 6) rfl (by decide) hb
    have hv0 : gi N 7582 (bti s b w).toNatClampNeg = 0 := by
      rw [ft.1 7582 (by decide)]
      exact hz _ (by
        by_cases q : (bti s b w).toNatClampNeg < 256
        · exact q
        · exact absurd (Or.inr (Nat.le_of_not_lt q)) hi)
    have vv : (if nI w = 1 then gi N 7582 (bti s b w).toNatClampNeg else -gi N 7582 (bti s b w).toNatClampNeg) = 0 := by
      rw [hv0]; split <;> rfl
    have go : ∀ x, (x = 0 ∨ x = 1) → (s = 0 → b = 0 → x = 1) → (s = 0 → 0 < b → x = 0) → X mM_bestTurn 101 [(0, .ref 6027), (1, .int (nI s)), (2, .int (nI w)), (4, .int 0), (5, .int f), (6, .int (nI b)), (7, .int 0)] [.int x] N (mC mM_bestTurn, mS mM_bestTurn) (QI K) := by
      intro x hx x1 x2
      have fin : ∀ g, (s = 0 → g = 1) → X mM_bestTurn 136 [(0, .ref 6027), (1, .int (nI s)), (2, .int (nI w)), (4, .int 0), (6, .int (nI b)), (7, .int 0)] [.int g] (si N 6027 39 (if x = 0 then gi N 6027 39 else nI b)) (mC mM_bestTurn, mS mM_bestTurn) (QI K) := by
        intro g hg
        refine vM_bestTurn_136 ?_
        rw [if_pos (by decide), nI_s]
        refine ih _ g (ft_si ft) (fun s0 _ => ⟨hg s0, ?_⟩) (fun _ q => absurd q (Nat.succ_ne_zero b))
        rw [gi_si, if_pos ⟨rfl, rfl⟩]
        by_cases b0 : b = 0
        · rw [x1 s0 b0, if_neg (by decide), b0]; rfl
        · rw [x2 s0 (by omega), if_pos rfl]; exact (h1 s0 (by omega)).2
      refine vM_bestTurn_101 rfl ⟨fun _ => fin 1 (fun _ => rfl), fun q => fin 0 (fun s0 => ?_)⟩
      by_cases b0 : b = 0
      · exact absurd (q.2.symm.trans (x1 s0 b0)) (by decide)
      · exact absurd (q.1.symm.trans (h1 s0 (by omega)).1) (by decide)
    refine vM_bestTurn_25 rfl (mr38 hm2) ⟨fun _ => hi, fun q => absurd q.1 nq, fun q => absurd q.1 nq, fun q => ?_, fun q => ⟨fun p => ?_, fun p => ?_⟩⟩
    · rw [nI_s]
      refine ih N f ft (fun s0 => ?_) (fun s0 => ?_)
      · subst s0; exact absurd (bt0 b hb) q.2
      · subst s0; exact absurd (bt0 b hb) q.2
    · have p2 : f = 0 := by
        rcases p with p | p
        · exact absurd (show (0 : Int32) < 0 from by have := p; erw [vv] at this; exact this) (by decide)
        · exact p.2.2
      erw [vv]
      refine go 1 (Or.inr rfl) (fun _ _ => rfl) (fun s0 b1 => ?_)
      exact absurd (p2.symm.trans (h1 s0 b1).1) (by decide)
    · have p2 : ¬ f = 0 := by
        rcases p with p | p
        · exact absurd (show (0 : Int32) = 0 from rfl) (by have := p.2; erw [vv] at this; exact this)
        · exact p.2.2
      erw [vv]
      refine go 0 (Or.inl rfl) (fun s0 b0 => absurd (h2 s0 b0) p2) (fun _ _ => rfl)
  · have hm2 := mr_w hm ft.2.2.2
    have nq : (6 : Int32) ≤ nI 6 := nself rfl
    have e := h N ft (fun s0 => (h1 s0 (by decide)).2)
    exact vM_bestTurn_25 rfl (mr38 hm2) ⟨fun q => absurd nq q.1, fun _ => e, fun _ => e, fun q => absurd nq q.1, fun q => absurd nq q.1⟩
