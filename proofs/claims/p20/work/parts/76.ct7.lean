/-! ===== the class's readers: a library, a rule ===== -/
theorem tc_gi {M N : Mm} {T : Nat → Int32} {t : Nat} (h1 : gr N = gr M) (h2 : gi N 70 = gi M 70) (h3 : gi N 145 = gi M 145) (h : TC M T t) : TC N T t := by
  unfold TC; rw [h1, h2, h3]; exact h
theorem td_gi {M N : Mm} {T : Nat → Int32} {t : Nat} {s : Tst} (h1 : gr N = gr M) (h2 : gi N 70 = gi M 70) (h3 : gi N 145 = gi M 145) (h4 : gi N 199 = gi M 199) (h : TD M T t s) : TD N T t s := by
  unfold TD; rw [h4]; exact ⟨tc_gi h1 h2 h3 h.1, h.2⟩
/-- a library that was told without a fault -/
def LD (M : Mm) (r D : Nat) : Prop := LR M r ∧ gi M r 1 = nI D ∧ D ≤ 24 ∧ ∀ w, w < D → WK D M (r + 776 + 64 * w)
theorem nLr_readInto {M : Mm} {T : Nat → Int32} {t r : Nat} {K : Int32 → Mm → Prop} (hl : LR M r) (hr : 258 < r) (g0 : gr M 258 0 = some 199) (tc : TC M T t)
    (hF : ∀ N, PC r M N → ¬ gi N 199 5 = 0 → K (-1) N) (hS : ∀ N l D, PC r M N → l ≤ 400 → gi N 199 5 = 0 → LD N r D → K (nI l) N) : CI mLr_readInto [.ref 258, .ref r] M K := by
  refine call_of rfl (Nat.le_of_ble_eq_true rfl) rfl (vLr_readInto_0 hl.1 (sLi_clear hl (vLr_readInto_4 rfl g0 ?_)))
  generalize eA : fl (si M r 1 0) (r + 140) 8 2 = A
  have pA : PC r M A := by
    rw [← eA]
    refine ⟨rfl, rfl, fun a h1 h2 h3 => ?_⟩
    funext k
    rw [flR _ _ _ _ _ _ (by omega), giR _ _ _ _ _ _ (by omega)]
  have a1 : gi A r 1 = nI 0 := by rw [← eA, flR _ _ _ _ _ _ (by omega), gi_si, if_pos ⟨rfl, rfl⟩]; rfl
  have rA : gr A = gr M := pA.1
  have tA : TC A T t := tc_gi rA (pA.2.2 70 (by decide) (by decide) (by omega)) (pA.2.2 145 (by decide) (by decide) (by omega)) tc
  refine nTo_begin tA rfl (fun B pB tB => vLr_readInto_11 rfl (by rw [pB.1, rA]; exact g0) ?_)
  refine nTo_advance (td_si (by decide) (by decide) (by decide) tB) (fun C pC tC => ?_)
  have pMC : PC r M C := pc_tr pA (pc_tr (pc_pt pB) (pc_tr (pc_si (Or.inl rfl)) (pc_pt pC)))
  have lC : LK' C r 0 := by
    refine ⟨lr_gr hl pMC.1, ?_, by decide, ⟨0, by decide, ?_⟩, fun w hw => absurd hw (by omega)⟩
    · rw [pC.2.2 r (by omega), gi_ne (by omega), pB.2.2 r (by omega), a1]
    · rw [pC.2.2 258 (by decide), gi_si, if_pos ⟨rfl, rfl⟩]; rfl
  have bout : ∀ N s v, PC r M N → TD N T t s → (s.2.2.2.2.1 = 0 → ∃ D, LK' N r D) → v ≤ 400 → CV mLr_findWrongFollowers [.ref 258, .ref r] N (fun N => X mLr_readInto 165 [(0, .ref 258), (3, .int (nI v))] [] N (mC mLr_readInto, mS mLr_readInto) (QI K)) := by
    intro N s v pN tN lk hv
    have gN : gr N 258 0 = some 199 := by rw [pN.1]; exact g0
    have lN := lr_gr hl pN.1
    have n5 := tN.2.2.2.2.2.1
    by_cases z : s.2.2.2.2.1 = 0
    · obtain ⟨D, lk⟩ := lk z
      refine sLr_findWrong lN (by omega) gN tN (fun _ => ⟨lk.2.1, lk.2.2.1⟩) (fun y => absurd z y) (fun _ nb => ?_) (fun _ w hw b1 b2 O pO o5 o6 o4 => ?_)
      · refine vLr_readInto_165 rfl gN ?_
        rw [n5, if_pos z]
        refine hS N v D pN hv (n5.trans z) ⟨lN, lk.2.1, lk.2.2.1, fun w hw => ?_⟩
        obtain ⟨k1, k2, k3, k4⟩ := lk.2.2.2.2 w hw
        refine ⟨k1, k2, k3, ?_⟩
        by_cases y : gi N (r + 776 + 64 * w) 6 < 0
        · exact Or.inl y
        · right
          have nbw := nb w hw
          have m : mfc N r D w := by
            by_cases m : mfc N r D w
            · exact m
            · exact absurd ⟨y, m⟩ nbw
          have hD := lk.2.2.1
          exact rng (n := D) rfl (by omega) m.1 m.2.1
      · refine vLr_readInto_165 rfl (by rw [pO.1]; exact gN) ?_
        have nz : ¬ gi O 199 5 = 0 := by rw [o5]; decide
        rw [if_neg nz]
        exact hF O (pc_tr pN (pc_pt pO)) nz
    · have nz : ¬ gi N 199 5 = 0 := by rw [n5]; exact z
      refine sLr_findWrong (D := 0) lN (by omega) gN tN (fun y => absurd y z) (fun _ => ?_) (fun y => absurd y z) (fun y => absurd y z)
      refine vLr_readInto_165 rfl gN ?_
      rw [if_neg nz]
      exact hF N pN nz
  have key : ∀ n v N s u, v + n = 400 → PC r M N → TD N T t s → (s.2.2.2.2.1 = 0 → ∃ D, LK' N r D) → X mLr_readInto 27 [(0, .ref 258), (1, .ref r), (2, .int u), (3, .int (nI v))] [] N (mC mLr_readInto, mS mLr_readInto) (QI K) := by
    intro n
    induction n with
    | zero =>
      intro v N s u hv pN tN lk
      have gN : gr N 258 0 = some 199 := by rw [pN.1]; exact g0
      have e : v = 400 := by omega
      have l : (400 : Int32) ≤ nI v := by rw [e]; exact Int32.le_refl _
      exact vLr_readInto_27 rfl gN ⟨fun _ => bout N s v pN tN lk (by omega), fun q => absurd l q.1, fun q => absurd l q.1⟩
    | succ n ih =>
      intro v N s u hv pN tN lk
      have gN : gr N 258 0 = some 199 := by rw [pN.1]; exact g0
      have n5 := tN.2.2.2.2.2.1
      have b147 : ∀ O s' u', PC r M O → TD O T t s' → (s'.2.2.2.2.1 = 0 → ∃ D, LK' O r D) → X mLr_readInto 147 [(0, .ref 258), (1, .ref r), (2, .int u'), (3, .int (nI v))] [] O (mC mLr_readInto, mS mLr_readInto) (QI K) := by
        intro O s' u' pO tO lO
        refine vLr_readInto_147 rfl (by rw [pO.1]; exact g0) (nTo_closeLine tO (fun P pP tP => vLr_readInto_154 ?_))
        rw [nI_s]
        refine ih (v + 1) P _ u' (by omega) (pc_tr pO (pc_pt pP)) tP (fun z => ?_)
        obtain ⟨D, lk⟩ := lO (tkC_ok z)
        exact ⟨D, lk_pt (by omega) pP lk⟩
      have b79 : s.2.2.2.2.1 = 0 → ∀ k, X mLr_readInto 79 [(0, .ref 258), (1, .ref r), (2, .int u), (3, .int (nI v))] [.int k] N (mC mLr_readInto, mS mLr_readInto) (QI K) := by
        intro z k
        obtain ⟨D, lk⟩ := lk z
        obtain ⟨k1, k2, k3, ⟨b, hb, eb⟩, k5⟩ := lk
        refine vLr_readInto_79 rfl gN ⟨fun q => ?_, fun q => ?_, fun q => ?_, fun q => ?_⟩
        · refine nLr_tellCopies k1 (by omega) gN tN (fun O pO tO nf => vLr_readInto_145 (b147 O _ _ (pc_tr pN (pc_pt pO)) tO (fun y => ?_))) (fun O i pO tO nf hi ei => vLr_readInto_145 (b147 _ (tcE T t u s) _ (pc_tr pN (pc_tr (pc_pt pO) (pc_si (Or.inr (by omega))))) (td_si (by omega) (by omega) (by omega) tO) (fun y => ⟨D, ?_⟩)))
          · unfold tcE at y; rw [if_neg nf] at y; exact absurd y nf
          · have l2 := lk_pt (by omega) pO ⟨k1, k2, k3, ⟨b, hb, eb⟩, k5⟩
            refine ⟨lr_gr l2.1 rfl, by rw [gi_ne (by omega)]; exact l2.2.1, l2.2.2.1, by rw [gi_ne (by omega)]; exact l2.2.2.2.1, fun w hw => wk_eq (gi_ne (by omega)) (l2.2.2.2.2 w hw)⟩
        · refine nTo_takeNumber tN (fun O pO tO => vLr_readInto_132 rfl (b147 _ _ u (pc_tr pN (pc_tr (pc_pt pO) (pc_si (Or.inl rfl)))) (td_si (by decide) (by decide) (by decide) tO) (fun y => ⟨D, ?_⟩)))
          have l2 := lk_pt (by omega) pO ⟨k1, k2, k3, ⟨b, hb, eb⟩, k5⟩
          obtain ⟨c, hc, ec⟩ := (tkN_ok (g := 7) (by decide) tN.1 y).1
          refine ⟨lr_gr l2.1 rfl, by rw [gi_ne (by omega)]; exact l2.2.1, l2.2.2.1, ⟨c, by omega, by rw [gi_si, if_pos ⟨rfl, rfl⟩]; exact ec⟩, fun w hw => wk_eq (gi_ne (by omega)) (l2.2.2.2.2 w hw)⟩
        · refine nLr_tellWord k1 (by omega) gN tN k2 k3 (fun _ O pO tO => vLr_readInto_112 (b147 O _ u (pc_tr pN (pc_pt pO)) tO (fun y => absurd y (tfl_ne (by decide))))) (fun hD O pO tO nf => vLr_readInto_112 (b147 _ _ u (pc_tr pN (pc_tr (pc_px (by omega) pO) (pc_si (Or.inr (by omega))))) (td_si (by omega) (by omega) (by omega) tO) (fun y => absurd y nf))) (fun hD O pO tO nf ew => vLr_readInto_112 (b147 _ _ u (pc_tr pN (pc_tr (pc_px (by omega) pO) (pc_si (Or.inr (by omega))))) (td_si (by omega) (by omega) (by omega) tO) (fun y => ⟨D + 1, ?_⟩)))
          refine ⟨lr_gr k1 pO.1, ?_, hD, ⟨b, hb, ?_⟩, fun w hw => ?_⟩
          · rw [gi_si, if_pos ⟨rfl, rfl⟩]
          · rw [gi_ne (by omega), pO.2.2 258 (by decide) (by omega)]; exact eb
          · by_cases e : w = D
            · subst e
              have wk := wb2_ok tN.1 hb eb y
              unfold WK
              rw [gi_ne (by omega), ew 1 (by decide), ew 2 (by decide), ew 3 (by decide), ew 6 (by decide)]
              exact wk
            · refine wk_eq ?_ (k5 w (by omega))
              rw [gi_ne (by omega), pO.2.2 _ (by omega) (by omega)]
        · exact nTo_fail tN (fun O pO tO => vLr_readInto_94 (b147 O _ u (pc_tr pN (pc_pt pO)) tO (fun y => absurd y (tfl_ne (by decide)))))
      refine vLr_readInto_27 rfl gN ⟨fun q => bout N s v pN tN lk (by omega), fun q => b79 (n5.symm.trans q.2.1) _, fun q => sTo_among (j := 0) tN (by decide) (vLr_readInto_75 (b79 (n5.symm.trans q.2.1) _))⟩
  exact key 400 0 C _ 0 (by omega) pMC tC (fun _ => ⟨0, lC⟩)
/-- what the reading of a rule may change -/
def PQ (r : Nat) (M N : Mm) : Prop := gr N = gr M ∧ gl N = gl M ∧ ∀ a, a ≠ 199 → a ≠ r → gi N a = gi M a
theorem pq_px {r : Nat} {M N : Mm} : PQ r M N ↔ PX r M N := Iff.rfl
/-- a rule's notes are told or not -/
def RN (M : Mm) (r : Nat) : Prop := gi M r 2 = 0 ∨ gi M r 2 = 1
theorem nRr_tell {M : Mm} {T : Nat → Int32} {t r : Nat} {k : Int32} {s : Tst} {K : Mm → Prop} (hk : r % 64 = 3) (g0 : gr M 324 0 = some 199) (td : TD M T t s) (rn : RN M r) (h : ∀ N u, PX r M N → TD N T t u → RN N r → K N) : CV mRr_tell [.ref 324, .ref r, .int k] M K := by
  have x1 : r ≠ 199 := by omega
  have x2 : r ≠ 70 := by omega
  have x3 : r ≠ 145 := by omega
  have rs : ∀ {N : Mm} {j : Nat} {v : Int32}, PT M N → j ≠ 2 → RN (si N r j v) r := by
    intro N j v pN hj
    unfold RN
    rw [gxs, if_neg (Ne.symm hj), pN.2.2 r x1]; exact rn
  refine call_of rfl (Nat.le_of_ble_eq_true rfl) rfl (vRr_tell_0 rfl hk g0 ⟨fun _ => nTo_takeDoctors td (fun N pN tN => vRr_tell_48 hk (h _ _ (px_tr (px_pt pN) px_si) (td_si x1 x2 x3 tN) (rs pN (by decide)))), fun _ => nTo_takeNumber td (fun N pN tN => vRr_tell_64 hk (h _ _ (px_tr (px_pt pN) px_si) (td_si x1 x2 x3 tN) (rs pN (by decide)))), fun _ => h _ s px_si (td_si x1 x2 x3 td) ?_, fun _ => nTo_takeOneOf (j := 3) td (by decide) (fun N pN tN => vRr_tell_88 hk (h _ _ (px_tr (px_pt pN) px_si) (td_si x1 x2 x3 tN) (rs pN (by decide)))), fun _ => nTo_takeDoctor td (fun N pN tN => vRr_tell_102 hk (h _ _ (px_tr (px_pt pN) px_si) (td_si x1 x2 x3 tN) (rs pN (by decide)))), fun _ => nTo_takeOneOf (j := 4) td (by decide) (fun N pN tN => vRr_tell_118 hk hk (h _ _ (px_tr (px_pt pN) (px_tr px_si px_si)) (td_si x1 x2 x3 (td_si x1 x2 x3 tN)) ?_)), fun _ => nTo_takeOneOf (j := 5) td (by decide) (fun N pN tN => vRr_tell_155 hk (h _ _ (px_tr (px_pt pN) px_si) (td_si x1 x2 x3 tN) (rs pN (by decide))))⟩)
  · unfold RN; rw [gxs, if_pos rfl]; exact Or.inr rfl
  · have := rs (v := tk1v T t 4 (adv T t s)) pN (show (5 : Nat) ≠ 2 by decide)
    unfold RN at this ⊢
    rw [gxs, if_neg (by decide)]; exact this
theorem nRr_readInto {M : Mm} {T : Nat → Int32} {t r : Nat} {K : Int32 → Mm → Prop} (hk : r % 64 = 3) (g0 : gr M 324 0 = some 199) (tc : TC M T t) (h : ∀ v N, PX r M N → RN N r → K v N) : CI mRr_readInto [.ref 324, .ref r] M K := by
  have x1 : r ≠ 199 := by omega
  have x2 : r ≠ 70 := by omega
  have x3 : r ≠ 145 := by omega
  have pA : PX r M (si (si (si (si (si (si (si M r 0 31) r 1 2) r 2 0) r 3 0) r 4 (-4)) r 5 (-4)) r 6 1) := px_tr px_si (px_tr px_si (px_tr px_si (px_tr px_si (px_tr px_si (px_tr px_si px_si)))))
  have rA : RN (si (si (si (si (si (si (si M r 0 31) r 1 2) r 2 0) r 3 0) r 4 (-4)) r 5 (-4)) r 6 1) r := by
    unfold RN; simp only [gxs]; exact Or.inl rfl
  refine call_of rfl (Nat.le_of_ble_eq_true rfl) rfl (vRr_readInto_0 hk (call_of rfl (Nat.le_of_ble_eq_true rfl) rfl (vRu_clear_0 hk (vRr_readInto_4 rfl g0 ?_))))
  generalize si (si (si (si (si (si (si M r 0 31) r 1 2) r 2 0) r 3 0) r 4 (-4)) r 5 (-4)) r 6 1 = A at pA rA ⊢
  have tA : TC A T t := tc_gi pA.1 (pA.2.2 70 (by decide) (Ne.symm x2)) (pA.2.2 145 (by decide) (Ne.symm x3)) tc
  refine nTo_begin tA rfl (fun B pB tB => vRr_readInto_11 rfl (by rw [pB.1, pA.1]; exact g0) (nTo_advance tB (fun C pC tC => ?_)))
  have pMC : PX r M C := px_tr pA (px_pt (pt_tr pB pC))
  have rC : RN C r := by unfold RN; rw [pC.2.2 r x1, pB.2.2 r x1]; exact rA
  have rp : ∀ {N O : Mm}, PT N O → RN N r → RN O r := fun p a => by unfold RN; rw [p.2.2 r x1]; exact a
  have key : ∀ n v N s u, v + n = 400 → PX r M N → TD N T t s → RN N r → X mRr_readInto 22 [(0, .ref 324), (1, .ref r), (2, .int u), (3, .int (nI v))] [] N (mC mRr_readInto, mS mRr_readInto) (QI K) := by
    intro n
    induction n with
    | zero =>
      intro v N s u hv pN tN rN
      have gN : gr N 324 0 = some 199 := by rw [pN.1]; exact g0
      have e : v = 400 := by omega
      have l : (400 : Int32) ≤ nI v := by rw [e]; exact Int32.le_refl _
      exact vRr_readInto_22 rfl gN ⟨fun _ => h _ N pN rN, fun q => absurd l q.1, fun q => absurd l q.1⟩
    | succ n ih =>
      intro v N s u hv pN tN rN
      have gN : gr N 324 0 = some 199 := by rw [pN.1]; exact g0
      have b128 : ∀ O s' u', PX r M O → TD O T t s' → RN O r → X mRr_readInto 128 [(0, .ref 324), (1, .ref r), (2, .int u'), (3, .int (nI v))] [] O (mC mRr_readInto, mS mRr_readInto) (QI K) := by
        intro O s' u' pO tO rO
        refine vRr_readInto_128 rfl (by rw [pO.1]; exact g0) (nTo_closeLine tO (fun P pP tP => vRr_readInto_135 ?_))
        rw [nI_s]
        exact ih (v + 1) P _ u' (by omega) (px_tr pO (px_pt pP)) tP (rp pP rO)
      have b74 : ∀ k, X mRr_readInto 74 [(0, .ref 324), (1, .ref r), (2, .int u), (3, .int (nI v))] [.int k] N (mC mRr_readInto, mS mRr_readInto) (QI K) := by
        intro k
        refine vRr_readInto_74 rfl gN ⟨fun q => sC_holds (vRr_readInto_99 rfl gN ⟨fun _ => nRr_tell hk gN tN rN (fun O s' pO tO rO => b128 O s' _ (px_tr pN pO) tO rO), fun _ => nTo_fail tN (fun O pO tO => vRr_readInto_110 (b128 O _ u (px_tr pN (px_pt pO)) tO (rp pO rN)))⟩), fun q => nTo_fail tN (fun O pO tO => vRr_readInto_89 (b128 O _ u (px_tr pN (px_pt pO)) tO (rp pO rN)))⟩
      exact vRr_readInto_22 rfl gN ⟨fun _ => h _ N pN rN, fun _ => b74 _, fun _ => sTo_among (j := 2) tN (by decide) (vRr_readInto_70 (b74 _))⟩
  exact key 400 0 C _ 0 (by omega) pMC tC rC
