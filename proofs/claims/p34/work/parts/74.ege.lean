section MG38
/-! ===== the class's reader of a library: a word ===== -/
theorem td_si {M : Mm} {T : Nat → Int32} {t : Nat} {s : Tst} {a j : Nat} {v : Int32} (h1 : a ≠ 199) (h2 : a ≠ 70) (h3 : a ≠ 145) (td : TD M T t s) : TD (si M a j v) T t s := by
  obtain ⟨⟨m1, m2, m3, m4, m5⟩, r⟩ := td
  have e1 : gi (si M a j v) 199 = gi M 199 := gi_ne (Ne.symm h1)
  have e2 : gi (si M a j v) 70 = gi M 70 := gi_ne (Ne.symm h2)
  have e3 : gi (si M a j v) 145 = gi M 145 := gi_ne (Ne.symm h3)
  unfold TD TC
  rw [e1, e2, e3]
  exact ⟨⟨m1, m2, m3, m4, m5⟩, r⟩
/-- the tokens and one cell may change -/
def PX (x : Nat) (M N : Mm) : Prop := gr N = gr M ∧ gl N = gl M ∧ ∀ a, a ≠ 199 → a ≠ x → gi N a = gi M a
theorem px_pt {x : Nat} {M N : Mm} (f : PT M N) : PX x M N := ⟨f.1, f.2.1, fun a h _ => f.2.2 a h⟩
theorem px_tr {x : Nat} {M N O : Mm} (f : PX x M N) (g : PX x N O) : PX x M O := ⟨g.1.trans f.1, g.2.1.trans f.2.1, fun a h h2 => (g.2.2 a h h2).trans (f.2.2 a h h2)⟩
theorem px_si {x j : Nat} {M : Mm} {v : Int32} : PX x M (si M x j v) := ⟨rfl, rfl, fun a _ h => gi_ne h⟩
theorem gxs (M : Mm) (x k i : Nat) (v : Int32) : gi (si M x k v) x i = if i = k then v else gi M x i := by
  rw [gi_si]
  by_cases h : i = k
  · rw [if_pos ⟨rfl, h⟩, if_pos h]
  · rw [if_neg (fun q => h q.2), if_neg h]
section CT8
variable (T : Nat → Int32) (t : Nat) (k : Int32) (s : Tst)
abbrev k13 : Prop := k = 1 ∨ k = 2 ∨ k = 3
def sy1 : Tst := tkM T t (adv T t s)
def sy2 : Tst := tkM T t (adv T t (sy1 T t s))
def sy3 : Tst := if (tkMv T t (adv T t s) &&& tkMv T t (adv T t (sy1 T t s))) = 0 then sy2 T t s else tfl 4 (sy2 T t s)
def sy4 : Tst := if (sy3 T t s).2.2.2.2.1 = 0 then tkA T t (adv T t (sy3 T t s)) else sy3 T t s
def syE : Tst := if k13 k then tkN 23 (adv T t s) else if k = 4 then sy1 T t s else if (sy1 T t s).2.2.2.2.1 = 0 then sy4 T t s else sy1 T t s
/-- the row of a word behind what it says -/
def syr (R : Nat → Int32) (i : Nat) : Int32 := if k13 k then (if i = 7 then nI (syE T t k s).2.1 else if i = 6 then tkNv 23 (adv T t s) else R i) else
  if k = 4 then (if i = 3 then tkMv T t (adv T t s) else R i) else
  (if i = 5 then tkAv T t (adv T t (sy3 T t s)) else if i = 4 then tkMv T t (adv T t (sy1 T t s)) else if i = 3 then tkMv T t (adv T t s) else R i)
end CT8
theorem nLr_tellSaying {M : Mm} {T : Nat → Int32} {t : Nat} {k : Int32} {s : Tst} {x : Nat} {K : Mm → Prop} (kx : x % 64 = 9) (g0 : gr M 258 0 = some 199) (td : TD M T t s) (hk : gi M x 0 = k) (h : ∀ N, PX x M N → TD N T t (syE T t k s) → ((syE T t k s).2.2.2.2.1 = 0 → ∀ i, gi N x i = syr T t k s (gi M x) i) → K N) : CV mLr_tellSaying [.ref 258, .ref x] M K := by
  have x1 : x ≠ 199 := by omega
  have x2 : x ≠ 70 := by omega
  have x3 : x ≠ 145 := by omega
  refine call_of rfl (Nat.le_of_ble_eq_true rfl) rfl (vLr_tellSaying_0 kx rfl g0 ⟨fun q => ?_, fun q => ?_⟩)
  · rw [hk] at q
    have c : k13 k := q.imp id (fun q => q.imp (fun q => q.2) (fun q => q.2.2))
    have e : syE T t k s = tkN 23 (adv T t s) := by unfold syE; rw [if_pos c]
    refine nTo_takeNumber td (fun N pN tN => vLr_tellSaying_34 kx rfl kx (by rw [pN.1]; exact g0) ?_)
    rw [← e] at tN
    have e2 : gi (si N x 6 (tkNv 23 (adv T t s))) 199 2 = nI (syE T t k s).2.1 := by rw [gi_ne (Ne.symm x1)]; exact tN.2.2.1
    rw [e2]
    refine h _ (px_tr (px_pt pN) (px_tr px_si px_si)) (td_si x1 x2 x3 (td_si x1 x2 x3 tN)) (fun _ i => ?_)
    rw [gxs, gxs, pN.2.2 x x1]
    unfold syr
    rw [if_pos c]
  · rw [hk] at q
    have c : ¬ k13 k := fun z => z.elim q.1 (fun z => z.elim q.2.1 q.2.2)
    refine nTo_takeMarks td (fun N pN tN => ?_)
    have tN1 : TD N T t (sy1 T t s) := by unfold sy1; exact tN
    clear tN
    have tA := td_si (j := 3) (v := tkMv T t (adv T t s)) x1 x2 x3 tN1
    have pA : PX x M (si N x 3 (tkMv T t (adv T t s))) := px_tr (px_pt pN) px_si
    have eA : ∀ i, gi (si N x 3 (tkMv T t (adv T t s))) x i = if i = 3 then tkMv T t (adv T t s) else gi M x i := fun i => by rw [gxs, pN.2.2 x x1]
    refine vLr_tellSaying_57 kx kx rfl (by rw [pN.1]; exact g0) ?_
    generalize si N x 3 (tkMv T t (adv T t s)) = A at tA pA eA ⊢
    have a0 : gi A x 0 = k := by rw [eA, if_neg (by decide)]; exact hk
    have a5 := tA.2.2.2.2.2.1
    have gA : gr A 258 0 = some 199 := by rw [pA.1]; exact g0
    rw [a0, a5]
    refine ⟨fun r => ?_, fun r => ?_⟩
    · by_cases k4 : k = 4
      · have e : syE T t k s = sy1 T t s := by unfold syE; rw [if_neg c, if_pos k4]
        refine h A pA (by rw [e]; exact tA) (fun _ i => ?_)
        rw [eA]; unfold syr; rw [if_neg c, if_pos k4]
      · have f1 : ¬ (sy1 T t s).2.2.2.2.1 = 0 := by
          rcases r with r | r
          · exact absurd r k4
          · exact r.2
        have e : syE T t k s = sy1 T t s := by unfold syE; rw [if_neg c, if_neg k4, if_neg f1]
        exact h A pA (by rw [e]; exact tA) (fun z => absurd (by rw [e] at z; exact z) f1)
    · have e : syE T t k s = sy4 T t s := by unfold syE; rw [if_neg c, if_neg r.1, if_pos r.2]
      have er : ∀ R i, syr T t k s R i = if i = 5 then tkAv T t (adv T t (sy3 T t s)) else if i = 4 then tkMv T t (adv T t (sy1 T t s)) else if i = 3 then tkMv T t (adv T t s) else R i := fun R i => by unfold syr; rw [if_neg c, if_neg r.1]
      simp only [er] at h
      rw [e] at h
      refine nTo_takeMarks tA (fun B pB tB => ?_)
      have tB2 : TD B T t (sy2 T t s) := by unfold sy2; exact tB
      clear tB
      have tC := td_si (j := 4) (v := tkMv T t (adv T t (sy1 T t s))) x1 x2 x3 tB2
      have pC : PX x M (si B x 4 (tkMv T t (adv T t (sy1 T t s)))) := px_tr pA (px_tr (px_pt pB) px_si)
      have eC : ∀ i, gi (si B x 4 (tkMv T t (adv T t (sy1 T t s)))) x i = if i = 4 then tkMv T t (adv T t (sy1 T t s)) else if i = 3 then tkMv T t (adv T t s) else gi M x i := fun i => by rw [gxs, pB.2.2 x x1, eA]
      refine vLr_tellSaying_87 kx rfl kx (by rw [pB.1]; exact gA) ?_
      generalize si B x 4 (tkMv T t (adv T t (sy1 T t s))) = C at tC pC eC ⊢
      have gC : gr C 258 0 = some 199 := by rw [pC.1]; exact g0
      have c5 := tC.2.2.2.2.2.1
      have c3 : gi C x 3 = tkMv T t (adv T t s) := by rw [eC, if_neg (by decide), if_pos rfl]
      have c4 : gi C x 4 = tkMv T t (adv T t (sy1 T t s)) := by rw [eC, if_pos rfl]
      rw [c5, c3, c4]
      have b121 : ∀ D, PT C D → TD D T t (sy3 T t s) → X mLr_tellSaying 121 [(0, .ref 258), (1, .ref x)] [] D (mC mLr_tellSaying, mS mLr_tellSaying) (QV K) := by
        intro D pD tD
        have d5 := tD.2.2.2.2.2.1
        refine vLr_tellSaying_121 rfl (by rw [pD.1]; exact gC) ⟨fun z => ?_, fun z => ?_⟩
        · rw [d5] at z
          have e4 : sy4 T t s = sy3 T t s := by unfold sy4; rw [if_neg z]
          exact h D (px_tr pC (px_pt pD)) (by rw [e4]; exact tD) (fun y => absurd (by rw [e4] at y; exact y) z)
        · rw [d5] at z
          have e4 : sy4 T t s = tkA T t (adv T t (sy3 T t s)) := by unfold sy4; rw [if_pos z]
          refine nTo_takeAnswer tD (fun E pE tE => vLr_tellSaying_139 kx (h _ (px_tr pC (px_tr (px_pt pD) (px_tr (px_pt pE) px_si))) (by rw [e4]; exact td_si x1 x2 x3 tE) (fun _ i => ?_)))
          rw [gxs, pE.2.2 x x1, pD.2.2 x x1, eC]
      refine ⟨fun z => b121 C (pt_rf C) ?_, fun z => nTo_fail tC (fun D pD tD => vLr_tellSaying_120 (b121 D pD ?_))⟩
      · unfold sy3
        by_cases y : (tkMv T t (adv T t s) &&& tkMv T t (adv T t (sy1 T t s))) = 0
        · rw [if_pos y]; exact tC
        · rw [if_neg y]
          have f2 : ¬ (sy2 T t s).2.2.2.2.1 = 0 := by
            rcases z with z | z
            · exact z
            · exact absurd z.2 y
          unfold tfl; rw [if_neg f2]; exact tC
      · unfold sy3; rw [if_neg z.2]; exact tD
section CT9
variable (T : Nat → Int32) (t : Nat) (k : Int32) (s : Tst)
def tw1 : Tst := if k = 5 then tkN 999 (adv T t s) else tkO T t (adv T t s)
def tw2 : Tst := if (tw1 T t k s).2.2.2.2.1 = 0 then syE T t k (tw1 T t k s) else tw1 T t k s
/-- a word's row as it begins -/
def wb0 (b : Int32) (i : Nat) : Int32 := if i = 0 then k else if i = 2 then b else if i = 1 ∨ i = 5 ∨ i = 6 ∨ i = 8 then -4 else 0
def wb1 (b : Int32) (i : Nat) : Int32 := if k = 5 then (if i = 8 then tkNv 999 (adv T t s) else wb0 k b i) else (if i = 1 then tkOv T t (adv T t s) else wb0 k b i)
def wb2 (b : Int32) : Nat → Int32 := syr T t k (tw1 T t k s) (wb1 T t k s b)
end CT9
theorem nLr_tellWord {M : Mm} {T : Nat → Int32} {t D r : Nat} {k : Int32} {s : Tst} {K : Mm → Prop} (hl : LR M r) (hr : 145 < r) (g0 : gr M 258 0 = some 199) (td : TD M T t s) (hD : gi M r 1 = nI D) (hD2 : D ≤ 24)
    (h5 : D = 24 → ∀ N, PT M N → TD N T t (tfl 5 s) → K N)
    (h0 : D < 24 → ∀ N, PX (r + 776 + 64 * D) M N → TD N T t (tw2 T t k s) → ¬ (tw2 T t k s).2.2.2.2.1 = 0 → K (si N r 1 (nI D)))
    (h1 : D < 24 → ∀ N, PX (r + 776 + 64 * D) M N → TD N T t (tw2 T t k s) → (tw2 T t k s).2.2.2.2.1 = 0 → (∀ i, i < 11 → gi N (r + 776 + 64 * D) i = wb2 T t k s (gi M 258 1) i) → K (si N r 1 (nI (D + 1)))) : CV mLr_tellWord [.ref 258, .ref r, .int k] M K := by
  refine call_of rfl (Nat.le_of_ble_eq_true rfl) rfl (vLr_tellWord_0 hl.1 rfl (lr0 hl) g0 ⟨fun q => ?_, fun q => nTo_fail td (fun N pN tN => vLr_tellWord_17 (h5 ?_ N pN tN))⟩)
  · rw [hD] at q
    rw [show (24 : Int32) = nI 24 from rfl, nlt (by decide) (by omega)] at q
    have hx : (r + 776 + 64 * D) % 64 = 9 := by have := hl.1; omega
    have x1 : r + 776 + 64 * D ≠ 199 := by omega
    have x2 : r + 776 + 64 * D ≠ 70 := by omega
    have x3 : r + 776 + 64 * D ≠ 145 := by omega
    have x4 : r ≠ r + 776 + 64 * D := by omega
    have hg := hl.2.2 D q
    have h0' := h0 q
    have h1' := h1 q
    rw [hD]
    refine ⟨vin q (by decide), r + 776 + 64 * D, by rw [ncl (by omega)]; exact hg, call_of rfl (Nat.le_of_ble_eq_true rfl) rfl (vWo_begin_0 hx ?_)⟩
    generalize r + 776 + 64 * D = x at hx x1 x2 x3 x4 hg h0' h1' ⊢
    have pA : ∀ b : Int32, PX x M (si (si (si (si (si (si (si (si (si (si (si M x 0 k) x 1 (-4)) x 2 b) x 3 0) x 4 0) x 5 (-4)) x 6 (-4)) x 7 0) x 8 (-4)) x 9 0) x 10 0) := fun b => px_tr px_si (px_tr px_si (px_tr px_si (px_tr px_si (px_tr px_si (px_tr px_si (px_tr px_si (px_tr px_si (px_tr px_si (px_tr px_si px_si)))))))))
    have tA : ∀ b : Int32, TD (si (si (si (si (si (si (si (si (si (si (si M x 0 k) x 1 (-4)) x 2 b) x 3 0) x 4 0) x 5 (-4)) x 6 (-4)) x 7 0) x 8 (-4)) x 9 0) x 10 0) T t s := fun b => td_si x1 x2 x3 (td_si x1 x2 x3 (td_si x1 x2 x3 (td_si x1 x2 x3 (td_si x1 x2 x3 (td_si x1 x2 x3 (td_si x1 x2 x3 (td_si x1 x2 x3 (td_si x1 x2 x3 (td_si x1 x2 x3 (td_si x1 x2 x3 td))))))))))
    have eA : ∀ b : Int32, ∀ i, i < 11 → gi (si (si (si (si (si (si (si (si (si (si (si M x 0 k) x 1 (-4)) x 2 b) x 3 0) x 4 0) x 5 (-4)) x 6 (-4)) x 7 0) x 8 (-4)) x 9 0) x 10 0) x i = wb0 k b i := by
      intro b i hi
      simp only [gxs]
      unfold wb0
      match i, hi with
      | 0, _ => rfl
      | 1, _ => rfl
      | 2, _ => rfl
      | 3, _ => rfl
      | 4, _ => rfl
      | 5, _ => rfl
      | 6, _ => rfl
      | 7, _ => rfl
      | 8, _ => rfl
      | 9, _ => rfl
      | 10, _ => rfl
    have pA := pA (gi M 258 1)
    have tA := tA (gi M 258 1)
    have eA := eA (gi M 258 1)
    generalize si (si (si (si (si (si (si (si (si (si (si M x 0 k) x 1 (-4)) x 2 (gi M 258 1)) x 3 0) x 4 0) x 5 (-4)) x 6 (-4)) x 7 0) x 8 (-4)) x 9 0) x 10 0 = A at pA tA eA ⊢
    have gA : gr A 258 0 = some 199 := by rw [pA.1]; exact g0
    have b71 : ∀ N, PX x M N → TD N T t (tw1 T t k s) → (∀ i, i < 11 → gi N x i = wb1 T t k s (gi M 258 1) i) → X mLr_tellWord 71 [(0, .ref 258), (1, .ref r), (3, .ref x)] [] N (mC mLr_tellWord, mS mLr_tellWord) (QV K) := by
      intro N pN tN eN
      have n5 := tN.2.2.2.2.2.1
      have gN : gr N 258 0 = some 199 := by rw [pN.1]; exact g0
      have hr1 : r ≠ 199 := by have := hl.1; omega
      refine vLr_tellWord_71 rfl gN ⟨fun z => ?_, fun z => ?_⟩
      · rw [n5] at z
        have e : tw2 T t k s = tw1 T t k s := by unfold tw2; rw [if_neg z]
        refine vLr_tellWord_86 hl.1 rfl gN ?_
        rw [n5, if_neg z, pN.2.2 r hr1 x4, hD, Int32.add_zero]
        rw [← e] at tN z
        exact h0' N pN tN z
      · rw [n5] at z
        have e : tw2 T t k s = syE T t k (tw1 T t k s) := by unfold tw2; rw [if_pos z]
        have ek : gi N x 0 = k := by
          rw [eN 0 (by decide)]
          unfold wb1
          by_cases y : k = 5
          · rw [if_pos y, if_neg (by decide)]; rfl
          · rw [if_neg y, if_neg (by decide)]; rfl
        refine nLr_tellSaying hx gN tN ek (fun O pO tO hO => ?_)
        have gO : gr O 258 0 = some 199 := by rw [pO.1]; exact gN
        have o5 := tO.2.2.2.2.2.1
        have pMO := px_tr pN pO
        refine vLr_tellWord_86 hl.1 rfl gO ?_
        rw [o5, pMO.2.2 r hr1 x4, hD]
        rw [← e] at tO hO ⊢
        by_cases y : (tw2 T t k s).2.2.2.2.1 = 0
        · rw [if_pos y, nI_s]
          refine h1' O pMO tO y (fun i hi => ?_)
          rw [hO y]
          have sy : ∀ R R' : Nat → Int32, R i = R' i → syr T t k (tw1 T t k s) R i = syr T t k (tw1 T t k s) R' i := by
            intro R R' e
            unfold syr
            rw [e]
          exact sy _ _ (eN i hi)
        · rw [if_neg y, Int32.add_zero]
          exact h0' O pMO tO y
    refine vLr_tellWord_38 rfl gA ⟨fun z => nTo_takeDoctor tA (fun N pN tN => vLr_tellWord_68 hx (b71 _ (px_tr pA (px_tr (px_pt pN) px_si)) ?_ (fun i hi => ?_))), fun z => nTo_takeNumber tA (fun N pN tN => vLr_tellWord_54 hx (b71 _ (px_tr pA (px_tr (px_pt pN) px_si)) ?_ (fun i hi => ?_)))⟩
    · unfold tw1; rw [if_neg z]; exact td_si x1 x2 x3 tN
    · rw [gxs, pN.2.2 x x1, eA i hi]; unfold wb1; rw [if_neg z]
    · unfold tw1; rw [if_pos z]; exact td_si x1 x2 x3 tN
    · rw [gxs, pN.2.2 x x1, eA i hi]; unfold wb1; rw [if_pos z]
  · rw [hD] at q
    rw [show (24 : Int32) = nI 24 from rfl, nlt (by decide) (by omega)] at q
    omega
end MG38
section MG39
/-! ===== the class's reader of a library: copies, what words follow, lines ===== -/
section CT10
variable (T : Nat → Int32) (t : Nat) (v : Int32) (s : Tst)
def tc1 : Tst := if tkNv 7 (adv T t s) < 0 then tkN 7 (adv T t s) else if ((ushr v (tkNv 7 (adv T t s))) &&& 1) = 1 then tfl 4 (tkN 7 (adv T t s)) else tkN 7 (adv T t s)
def tcE : Tst := if (tc1 T t v s).2.2.2.2.1 = 0 then tkN 9 (adv T t (tc1 T t v s)) else tc1 T t v s
end CT10
theorem tc1_ok {T : Nat → Int32} {t : Nat} {v : Int32} {s : Tst} (h : (tc1 T t v s).2.2.2.2.1 = 0) : (tkN 7 (adv T t s)).2.2.2.2.1 = 0 ∧ tc1 T t v s = tkN 7 (adv T t s) := by
  unfold tc1 at h ⊢
  by_cases q : tkNv 7 (adv T t s) < 0
  · rw [if_pos q] at h ⊢; exact ⟨h, rfl⟩
  · rw [if_neg q] at h ⊢
    by_cases r : ((ushr v (tkNv 7 (adv T t s))) &&& 1) = 1
    · rw [if_pos r] at h; exact absurd h (tfl_ne (by decide))
    · rw [if_neg r] at h ⊢; exact ⟨h, rfl⟩
theorem nLr_tellCopies {M : Mm} {T : Nat → Int32} {t r : Nat} {v : Int32} {s : Tst} {K : Int32 → Mm → Prop} (hl : LR M r) (hr : 145 < r) (g0 : gr M 258 0 = some 199) (td : TD M T t s)
    (h0 : ∀ N, PT M N → TD N T t (tcE T t v s) → ¬ (tc1 T t v s).2.2.2.2.1 = 0 → K 0 N)
    (h1 : ∀ N i, PT M N → TD N T t (tcE T t v s) → (tc1 T t v s).2.2.2.2.1 = 0 → i < 8 → tkNv 7 (adv T t s) = nI i → K ((1 : Int32) <<< (nI i &&& 31)) (si N (r + 140) i (tkNv 9 (adv T t (tc1 T t v s))))) : CI mLr_tellCopies [.ref 258, .ref r, .int v] M K := by
  refine call_of rfl (Nat.le_of_ble_eq_true rfl) rfl (vLr_tellCopies_0 rfl g0 (nTo_takeNumber td (fun N pN tN => ?_)))
  have tcM := td.1
  have gN : gr N 258 0 = some 199 := by rw [pN.1]; exact g0
  have b31 : ∀ O, PT M O → TD O T t (tc1 T t v s) → X mLr_tellCopies 31 [(0, .ref 258), (1, .ref r), (3, .int (tkNv 7 (adv T t s)))] [] O (mC mLr_tellCopies, mS mLr_tellCopies) (QI K) := by
    intro O pO tO
    have o5 := tO.2.2.2.2.2.1
    have gO : gr O 258 0 = some 199 := by rw [pO.1]; exact g0
    have lO : gr O r 2 = some (r + 140) := by rw [pO.1]; exact lr2 hl
    refine vLr_tellCopies_31 rfl hl.1 gO lO ⟨fun q => ?_, fun q => ?_⟩
    · rw [o5] at q
      obtain ⟨i, hi, ei⟩ := (tkN_ok (g := 7) (by decide) tcM (tc1_ok q).1).1
      have e : tcE T t v s = tkN 9 (adv T t (tc1 T t v s)) := by unfold tcE; rw [if_pos q]
      refine nTo_takeNumber tO (fun P pP tP => ?_)
      rw [← e] at tP
      have ei' : tkNv 7 (adv T t s) = nI i := ei
      rw [ei']
      have := h1 P i (pt_tr pO pP) tP q (by omega) ei'
      refine vLr_tellCopies_57 (lrk hl 140 13 rfl (by decide)) ⟨vin (by omega) (by decide), ?_⟩
      rw [ncl (by omega)]; exact this
    · rw [o5] at q
      have e : tcE T t v s = tc1 T t v s := by unfold tcE; rw [if_neg q]
      exact h0 O pO (by rw [e]; exact tO) q
  refine vLr_tellCopies_9 ⟨fun q => b31 N pN ?_, fun q => sC_holds (vLr_tellCopies_19 rfl gN ⟨fun z => b31 N pN ?_, fun z => nTo_fail tN (fun O pO tO => vLr_tellCopies_30 (b31 O (pt_tr pN pO) ?_))⟩)⟩
  · unfold tc1; rw [if_pos q]; exact tN
  · have c : ¬ ((ushr v (tkNv 7 (adv T t s))) &&& 1) = 1 := fun y => by rw [if_pos y] at z; exact absurd z (by decide)
    unfold tc1; rw [if_neg q, if_neg c]; exact tN
  · have c : ((ushr v (tkNv 7 (adv T t s))) &&& 1) = 1 := by
      by_cases y : ((ushr v (tkNv 7 (adv T t s))) &&& 1) = 1
      · exact y
      · rw [if_neg y] at z; exact absurd rfl z
    unfold tc1; rw [if_neg q, if_pos c]; exact tO
/-- whether a word follows as it may -/
def mfc (M : Mm) (r D w : Nat) : Prop := ¬ gi M (r + 776 + 64 * w) 6 < 0 ∧ ¬ nI D ≤ gi M (r + 776 + 64 * w) 6 ∧ ¬ gi M (r + 776 + 64 * w) 6 = nI w ∧ ¬ gi M (r + 776 + 64 * (gi M (r + 776 + 64 * w) 6).toNatClampNeg) 0 = 5
theorem sLi_mayFollow {M : Mm} {r D w : Nat} {K : Int32 → Mm → Prop} (hl : LR M r) (hD : gi M r 1 = nI D) (hD2 : D ≤ 24) (hw : w < D) (h0 : ¬ mfc M r D w → K 0 M) (h1 : mfc M r D w → K 1 M) : CI mLi_mayFollow [.ref r, .int (nI w)] M K := by
  refine call_of rfl (Nat.le_of_ble_eq_true rfl) rfl (vLi_mayFollow_0 hl.1 (lr0 hl) ⟨vin (show w < 24 by omega) (by decide), r + 776 + 64 * w, by rw [ncl (by omega)]; exact hl.2.2 w (by omega), fun q => h0 (fun z => ?_), fun q => ?_⟩)
  · rw [hD] at q
    rcases q with q | q | q
    · exact z.1 q
    · exact z.2.1 q.2
    · exact z.2.2.1 q.2.2
  · rw [hD] at q
    obtain ⟨f, hf, ef⟩ := rng (n := D) rfl (by omega) q.1 q.2.1
    rw [ef]
    refine ⟨vin (show f < 24 by omega) (by decide), r + 776 + 64 * f, by rw [ncl (by omega)]; exact hl.2.2 f (by omega), fun z => h0 (fun y => ?_), fun z => h1 ⟨q.1, q.2.1, q.2.2, ?_⟩⟩
    · have := y.2.2.2
      rw [ef, ncl (by omega)] at this
      exact this z
    · rw [ef, ncl (by omega)]; exact z
def badc (M : Mm) (r D w : Nat) : Prop := ¬ gi M (r + 776 + 64 * w) 6 < 0 ∧ ¬ mfc M r D w
theorem sLr_findWrong {M : Mm} {T : Nat → Int32} {t r D : Nat} {s : Tst} {K : Mm → Prop} (hl : LR M r) (hr : 199 < r) (g0 : gr M 258 0 = some 199) (td : TD M T t s) (hD : s.2.2.2.2.1 = 0 → gi M r 1 = nI D ∧ D ≤ 24) (hf : ¬ s.2.2.2.2.1 = 0 → K M) (h0 : s.2.2.2.2.1 = 0 → (∀ w, w < D → ¬ badc M r D w) → K M) (h1 : s.2.2.2.2.1 = 0 → ∀ w, w < D → badc M r D w → (∀ v, v < w → ¬ badc M r D v) → ∀ N, PT M N → gi N 199 5 = 6 → gi N 199 6 = gi M (r + 776 + 64 * w) 7 → gi N 199 4 = s.2.2.2.1 → K N) : CV mLr_findWrongFollowers [.ref 258, .ref r] M K := by
  have t5 := td.2.2.2.2.2.1
  refine call_of rfl (Nat.le_of_ble_eq_true rfl) rfl (vLr_findWrongFollowers_0 ?_)
  by_cases z : s.2.2.2.2.1 = 0
  · obtain ⟨hD, hD2⟩ := hD z
    have key : ∀ n i, i + n = D → (∀ v, v < i → ¬ badc M r D v) → X mLr_findWrongFollowers 2 [(0, .ref 258), (1, .ref r), (2, .int (nI i))] [] M (mC mLr_findWrongFollowers, mS mLr_findWrongFollowers) (QV K) := by
      intro n
      induction n with
      | zero =>
        intro i hi hb
        rw [Nat.add_zero] at hi
        subst hi
        have l : gi M r 1 ≤ nI i := by rw [hD]; exact Int32.le_refl _
        exact vLr_findWrongFollowers_2 hl.1 rfl g0 (lr0 hl) ⟨fun _ => h0 z hb, fun q => absurd l q.1⟩
      | succ n ih =>
        intro i hi hb
        have hi2 : i < D := by omega
        have l : ¬ gi M r 1 ≤ nI i := by rw [hD]; exact nge rfl (by omega) hi2
        have go : ¬ badc M r D i → X mLr_findWrongFollowers 2 [(0, .ref 258), (1, .ref r), (2, .int (nI i + 1))] [] M (mC mLr_findWrongFollowers, mS mLr_findWrongFollowers) (QV K) := by
          intro nb
          rw [nI_s]
          refine ih (i + 1) (by omega) (fun v hv => ?_)
          by_cases e : v = i
          · rw [e]; exact nb
          · exact hb v (by omega)
        have gw : gr M (r + 81) (nI i).toNatClampNeg = some (r + 776 + 64 * i) := by rw [ncl (by omega)]; exact hl.2.2 i (by omega)
        refine vLr_findWrongFollowers_2 hl.1 rfl g0 (lr0 hl) ⟨fun q => ?_, fun _ => ⟨vin (show i < 24 by omega) (by decide), r + 776 + 64 * i, gw, fun q => go (fun b => b.1 q), fun q => sLi_mayFollow hl hD hD2 hi2 (fun m => ?_) (fun m => ?_)⟩⟩
        · exfalso
          rcases q with q | q
          · exact l q
          · exact q.2 (t5.trans z)
        · refine vLr_findWrongFollowers_37 rfl hl.1 g0 (lr0 hl) ⟨fun y => absurd rfl y, fun _ => ⟨vin (show i < 24 by omega) (by decide), r + 776 + 64 * i, gw, nTo_failAt td (fun N pN n5 n6 n4 => vLr_findWrongFollowers_58 ?_)⟩⟩
          rw [if_pos z] at n5 n6
          have k := h1 z i hi2 ⟨q, m⟩ hb N pN n5 n6 n4
          have gN : gr N 258 0 = some 199 := by rw [pN.1]; exact g0
          have lN : gr N r 0 = some (r + 81) := by rw [pN.1]; exact lr0 hl
          have nz : ¬ gi N 199 5 = 0 := by rw [n5]; decide
          have k2 : ∀ v, X mLr_findWrongFollowers 2 [(0, .ref 258), (1, .ref r), (2, .int v)] [] N (mC mLr_findWrongFollowers, mS mLr_findWrongFollowers) (QV K) := fun v => vLr_findWrongFollowers_2 hl.1 rfl gN lN ⟨fun _ => k, fun y => absurd y.2 nz⟩
          exact k2 _
        · exact vLr_findWrongFollowers_37 rfl hl.1 g0 (lr0 hl) ⟨fun _ => go (fun b => b.2 m), fun y => absurd y (by decide)⟩
    exact key D 0 (by omega) (fun v hv => absurd hv (by omega))
  · have nz : ¬ gi M 199 5 = 0 := by rw [t5]; exact z
    refine vLr_findWrongFollowers_2 hl.1 rfl g0 (lr0 hl) ⟨fun _ => hf z, fun q => absurd q.2 nz⟩
/-- a word's row is as it should be -/
def WK (F : Nat) (M : Mm) (x : Nat) : Prop := (∃ b, b < 8 ∧ gi M x 2 = nI b) ∧ (gi M x 1 < 0 ∨ ∃ d, d < 8 ∧ gi M x 1 = nI d) ∧ (∃ m, m < 64 ∧ gi M x 3 = nI m) ∧ (gi M x 6 < 0 ∨ ∃ f, f < F ∧ gi M x 6 = nI f)
def LK' (M : Mm) (r D : Nat) : Prop := LR M r ∧ gi M r 1 = nI D ∧ D ≤ 24 ∧ (∃ b, b < 8 ∧ gi M 258 1 = nI b) ∧ ∀ w, w < D → WK 24 M (r + 776 + 64 * w)
/-- what the reading of a library may change -/
def PC (r : Nat) (M N : Mm) : Prop := gr N = gr M ∧ gl N = gl M ∧ ∀ a, a ≠ 199 → a ≠ 258 → ¬ (r ≤ a ∧ a < r + 2304) → gi N a = gi M a
theorem pc_pt {r : Nat} {M N : Mm} (f : PT M N) : PC r M N := ⟨f.1, f.2.1, fun a h _ _ => f.2.2 a h⟩
theorem pc_px {r x : Nat} {M N : Mm} (h : r ≤ x ∧ x < r + 2304) (f : PX x M N) : PC r M N := ⟨f.1, f.2.1, fun a h1 _ h3 => f.2.2 a h1 (fun e => h3 (by omega))⟩
theorem pc_tr {r : Nat} {M N O : Mm} (f : PC r M N) (g : PC r N O) : PC r M O := ⟨g.1.trans f.1, g.2.1.trans f.2.1, fun a h h2 h3 => (g.2.2 a h h2 h3).trans (f.2.2 a h h2 h3)⟩
theorem pc_si {r x j : Nat} {M : Mm} {v : Int32} (h : x = 258 ∨ (r ≤ x ∧ x < r + 2304)) : PC r M (si M x j v) := ⟨rfl, rfl, fun a _ h2 h3 => gi_ne (fun e => by subst e; exact h.elim h2 h3)⟩
theorem lr_gr {M N : Mm} {r : Nat} (h : LR M r) (e : gr N = gr M) : LR N r := ⟨h.1, fun q hq => by rw [e]; exact h.2.1 q hq, fun w hw => by rw [e]; exact h.2.2 w hw⟩
theorem wk_eq {F : Nat} {M N : Mm} {x : Nat} (h : gi N x = gi M x) (w : WK F M x) : WK F N x := by unfold WK; rw [h]; exact w
theorem lk_pt {M N : Mm} {r D : Nat} (hr : 199 < r) (f : PT M N) (l : LK' M r D) : LK' N r D := by
  refine ⟨lr_gr l.1 f.1, by rw [f.2.2 r (by omega)]; exact l.2.1, l.2.2.1, by rw [f.2.2 258 (by decide)]; exact l.2.2.2.1, fun w hw => wk_eq (f.2.2 _ (by omega)) (l.2.2.2.2 w hw)⟩
theorem tkC_ok {T : Nat → Int32} {t : Nat} {s : Tst} (h : (tkC T t s).2.2.2.2.1 = 0) : s.2.2.2.2.1 = 0 := by
  by_cases q : s.2.2.2.2.1 = 0
  · exact q
  · unfold tkC at h; rw [if_neg q] at h; exact h
/-- the row of a word that was told without a fault -/
theorem wb2_ok {M : Mm} {T : Nat → Int32} {t : Nat} {k b0 : Int32} {s : Tst} {b : Nat} (tc : TC M T t) (hb : b < 8) (eb : b0 = nI b) (h : (tw2 T t k s).2.2.2.2.1 = 0) : (∃ b, b < 8 ∧ wb2 T t k s b0 2 = nI b) ∧ (wb2 T t k s b0 1 < 0 ∨ ∃ d, d < 8 ∧ wb2 T t k s b0 1 = nI d) ∧ (∃ m, m < 64 ∧ wb2 T t k s b0 3 = nI m) ∧ (wb2 T t k s b0 6 < 0 ∨ ∃ f, f < 24 ∧ wb2 T t k s b0 6 = nI f) := by
  have h1 : (tw1 T t k s).2.2.2.2.1 = 0 := by
    unfold tw2 at h
    by_cases q : (tw1 T t k s).2.2.2.2.1 = 0
    · exact q
    · rw [if_neg q] at h; exact h
  unfold tw2 at h
  rw [if_pos h1] at h
  have w1 : ∀ i, i ≠ 8 → i ≠ 1 → wb1 T t k s b0 i = wb0 k b0 i := by
    intro i a c
    unfold wb1
    by_cases q : k = 5
    · rw [if_pos q, if_neg a]
    · rw [if_neg q, if_neg c]
  unfold wb2
  generalize tw1 T t k s = u at h h1
  have sy : ∀ i, i = 1 ∨ i = 2 → syr T t k u (wb1 T t k s b0) i = wb1 T t k s b0 i := by
    intro i hi
    unfold syr
    rcases hi with rfl | rfl
    · by_cases q : k13 k
      · rw [if_pos q, if_neg (by decide), if_neg (by decide)]
      · rw [if_neg q]
        by_cases q4 : k = 4
        · rw [if_pos q4, if_neg (by decide)]
        · rw [if_neg q4, if_neg (by decide), if_neg (by decide), if_neg (by decide)]
    · by_cases q : k13 k
      · rw [if_pos q, if_neg (by decide), if_neg (by decide)]
      · rw [if_neg q]
        by_cases q4 : k = 4
        · rw [if_pos q4, if_neg (by decide)]
        · rw [if_neg q4, if_neg (by decide), if_neg (by decide), if_neg (by decide)]
  refine ⟨⟨b, hb, ?_⟩, ?_, ?_, ?_⟩
  · rw [sy 2 (Or.inr rfl), w1 2 (by decide) (by decide)]; exact eb
  · rw [sy 1 (Or.inl rfl)]
    unfold wb1
    by_cases q : k = 5
    · rw [if_pos q, if_neg (by decide)]; exact Or.inl (by show (-4 : Int32) < 0; decide)
    · rw [if_neg q, if_pos rfl]
      rcases tkOv_c tc (adv T t s) with e | e
      · rw [e]; exact Or.inl (by decide)
      · exact Or.inr e
  · unfold syE at h
    unfold syr
    by_cases q : k13 k
    · rw [if_pos q, if_neg (by decide), if_neg (by decide), w1 3 (by decide) (by decide)]
      exact ⟨0, by decide, rfl⟩
    · rw [if_neg q] at h ⊢
      have f1 : (sy1 T t u).2.2.2.2.1 = 0 := by
        by_cases q4 : k = 4
        · rw [if_pos q4] at h; exact h
        · rw [if_neg q4] at h
          by_cases y : (sy1 T t u).2.2.2.2.1 = 0
          · exact y
          · rw [if_neg y] at h; exact h
      obtain ⟨m, hm, em⟩ := (tkM_ok tc f1).1
      refine ⟨m, hm, ?_⟩
      by_cases q4 : k = 4
      · rw [if_pos q4, if_pos rfl]; exact em
      · rw [if_neg q4, if_neg (by decide), if_neg (by decide), if_pos rfl]; exact em
  · unfold syE at h
    unfold syr
    by_cases q : k13 k
    · rw [if_pos q] at h ⊢
      rw [if_neg (by decide), if_pos rfl]
      obtain ⟨f, hf, ef⟩ := (tkN_ok (g := 23) (by decide) tc h).1
      exact Or.inr ⟨f, by omega, ef⟩
    · rw [if_neg q]
      left
      by_cases q4 : k = 4
      · rw [if_pos q4, if_neg (by decide), w1 6 (by decide) (by decide)]; show (-4 : Int32) < 0; decide
      · rw [if_neg q4, if_neg (by decide), if_neg (by decide), if_neg (by decide), w1 6 (by decide) (by decide)]; show (-4 : Int32) < 0; decide
end MG39
section MG40
/-! ===== the class's readers: a library, a rule ===== -/
theorem tc_gi {M N : Mm} {T : Nat → Int32} {t : Nat} (h1 : gr N = gr M) (h2 : gi N 70 = gi M 70) (h3 : gi N 145 = gi M 145) (h : TC M T t) : TC N T t := by
  unfold TC; rw [h1, h2, h3]; exact h
/-- a library that was told without a fault -/
def LD (M : Mm) (r D : Nat) : Prop := LR M r ∧ gi M r 1 = nI D ∧ D ≤ 24 ∧ ∀ w, w < D → WK D M (r + 776 + 64 * w)
theorem nLr_readInto {M : Mm} {T : Nat → Int32} {t r : Nat} {K : Int32 → Mm → Prop} (hl : LR M r) (hr : 258 < r) (g0 : gr M 258 0 = some 199) (tc : TC M T t)
    (hF : ∀ N, PC r M N → ¬ gi N 199 5 = 0 → K (-1) N) (hS : ∀ N l D, PC r M N → l ≤ 400 → gi N 199 5 = 0 → LD N r D → K (nI l) N) : CI mLr_readInto [.ref 258, .ref r] M K := by
  refine call_of rfl (Nat.le_of_ble_eq_true rfl) rfl (vLr_readInto_0 hl.1 (sLi_clear hl (vLr_readInto_4 rfl g0 ?_)))
  generalize eA : fl (si M r 1 0) (r + 140) 8 2 = A
  have pA : PC r M A := by
    rw [← eA]
    refine ⟨rfl, rfl, fun a h1 h2 h3 => ?_⟩
    funext k
    rw [flR _ _ _ _ _ _ (by omega), giR _ _ _ _ _ _ (by omega)]
  have a1 : gi A r 1 = nI 0 := by rw [← eA, flR _ _ _ _ _ _ (by omega), gi_si, if_pos ⟨rfl, rfl⟩]; rfl
  have rA : gr A = gr M := pA.1
  have tA : TC A T t := tc_gi rA (pA.2.2 70 (by decide) (by decide) (by omega)) (pA.2.2 145 (by decide) (by decide) (by omega)) tc
  refine nTo_begin tA rfl (fun B pB tB => vLr_readInto_11 rfl (by rw [pB.1, rA]; exact g0) ?_)
  refine nTo_advance (td_si (by decide) (by decide) (by decide) tB) (fun C pC tC => ?_)
  have pMC : PC r M C := pc_tr pA (pc_tr (pc_pt pB) (pc_tr (pc_si (Or.inl rfl)) (pc_pt pC)))
  have lC : LK' C r 0 := by
    refine ⟨lr_gr hl pMC.1, ?_, by decide, ⟨0, by decide, ?_⟩, fun w hw => absurd hw (by omega)⟩
    · rw [pC.2.2 r (by omega), gi_ne (by omega), pB.2.2 r (by omega), a1]
    · rw [pC.2.2 258 (by decide), gi_si, if_pos ⟨rfl, rfl⟩]; rfl
  have bout : ∀ N s v, PC r M N → TD N T t s → (s.2.2.2.2.1 = 0 → ∃ D, LK' N r D) → v ≤ 400 → CV mLr_findWrongFollowers [.ref 258, .ref r] N (fun N => X mLr_readInto 165 [(0, .ref 258), (3, .int (nI v))] [] N (mC mLr_readInto, mS mLr_readInto) (QI K)) := by
    intro N s v pN tN lk hv
    have gN : gr N 258 0 = some 199 := by rw [pN.1]; exact g0
    have lN := lr_gr hl pN.1
    have n5 := tN.2.2.2.2.2.1
    by_cases z : s.2.2.2.2.1 = 0
    · obtain ⟨D, lk⟩ := lk z
      refine sLr_findWrong lN (by omega) gN tN (fun _ => ⟨lk.2.1, lk.2.2.1⟩) (fun y => absurd z y) (fun _ nb => ?_) (fun _ w hw b1 b2 O pO o5 o6 o4 => ?_)
      · refine vLr_readInto_165 rfl gN ?_
        rw [n5, if_pos z]
        refine hS N v D pN hv (n5.trans z) ⟨lN, lk.2.1, lk.2.2.1, fun w hw => ?_⟩
        obtain ⟨k1, k2, k3, k4⟩ := lk.2.2.2.2 w hw
        refine ⟨k1, k2, k3, ?_⟩
        by_cases y : gi N (r + 776 + 64 * w) 6 < 0
        · exact Or.inl y
        · right
          have nbw := nb w hw
          have m : mfc N r D w := by
            by_cases m : mfc N r D w
            · exact m
            · exact absurd ⟨y, m⟩ nbw
          have hD := lk.2.2.1
          exact rng (n := D) rfl (by omega) m.1 m.2.1
      · refine vLr_readInto_165 rfl (by rw [pO.1]; exact gN) ?_
        have nz : ¬ gi O 199 5 = 0 := by rw [o5]; decide
        rw [if_neg nz]
        exact hF O (pc_tr pN (pc_pt pO)) nz
    · have nz : ¬ gi N 199 5 = 0 := by rw [n5]; exact z
      refine sLr_findWrong (D := 0) lN (by omega) gN tN (fun y => absurd y z) (fun _ => ?_) (fun y => absurd y z) (fun y => absurd y z)
      refine vLr_readInto_165 rfl gN ?_
      rw [if_neg nz]
      exact hF N pN nz
  have key : ∀ n v N s u, v + n = 400 → PC r M N → TD N T t s → (s.2.2.2.2.1 = 0 → ∃ D, LK' N r D) → X mLr_readInto 27 [(0, .ref 258), (1, .ref r), (2, .int u), (3, .int (nI v))] [] N (mC mLr_readInto, mS mLr_readInto) (QI K) := by
    intro n
    induction n with
    | zero =>
      intro v N s u hv pN tN lk
      have gN : gr N 258 0 = some 199 := by rw [pN.1]; exact g0
      have e : v = 400 := by omega
      have l : (400 : Int32) ≤ nI v := by rw [e]; exact Int32.le_refl _
      exact vLr_readInto_27 rfl gN ⟨fun _ => bout N s v pN tN lk (by omega), fun q => absurd l q.1, fun q => absurd l q.1⟩
    | succ n ih =>
      intro v N s u hv pN tN lk
      have gN : gr N 258 0 = some 199 := by rw [pN.1]; exact g0
      have n5 := tN.2.2.2.2.2.1
      have b147 : ∀ O s' u', PC r M O → TD O T t s' → (s'.2.2.2.2.1 = 0 → ∃ D, LK' O r D) → X mLr_readInto 147 [(0, .ref 258), (1, .ref r), (2, .int u'), (3, .int (nI v))] [] O (mC mLr_readInto, mS mLr_readInto) (QI K) := by
        intro O s' u' pO tO lO
        refine vLr_readInto_147 rfl (by rw [pO.1]; exact g0) (nTo_closeLine tO (fun P pP tP => vLr_readInto_154 ?_))
        rw [nI_s]
        refine ih (v + 1) P _ u' (by omega) (pc_tr pO (pc_pt pP)) tP (fun z => ?_)
        obtain ⟨D, lk⟩ := lO (tkC_ok z)
        exact ⟨D, lk_pt (by omega) pP lk⟩
      have b79 : s.2.2.2.2.1 = 0 → ∀ k, X mLr_readInto 79 [(0, .ref 258), (1, .ref r), (2, .int u), (3, .int (nI v))] [.int k] N (mC mLr_readInto, mS mLr_readInto) (QI K) := by
        intro z k
        obtain ⟨D, lk⟩ := lk z
        obtain ⟨k1, k2, k3, ⟨b, hb, eb⟩, k5⟩ := lk
        refine vLr_readInto_79 rfl gN ⟨fun q => ?_, fun q => ?_, fun q => ?_, fun q => ?_⟩
        · refine nLr_tellCopies k1 (by omega) gN tN (fun O pO tO nf => vLr_readInto_145 (b147 O _ _ (pc_tr pN (pc_pt pO)) tO (fun y => ?_))) (fun O i pO tO nf hi ei => vLr_readInto_145 (b147 _ (tcE T t u s) _ (pc_tr pN (pc_tr (pc_pt pO) (pc_si (Or.inr (by omega))))) (td_si (by omega) (by omega) (by omega) tO) (fun y => ⟨D, ?_⟩)))
          · unfold tcE at y; rw [if_neg nf] at y; exact absurd y nf
          · have l2 := lk_pt (by omega) pO ⟨k1, k2, k3, ⟨b, hb, eb⟩, k5⟩
            refine ⟨lr_gr l2.1 rfl, by rw [gi_ne (by omega)]; exact l2.2.1, l2.2.2.1, by rw [gi_ne (by omega)]; exact l2.2.2.2.1, fun w hw => wk_eq (gi_ne (by omega)) (l2.2.2.2.2 w hw)⟩
        · refine nTo_takeNumber tN (fun O pO tO => vLr_readInto_132 rfl (b147 _ _ u (pc_tr pN (pc_tr (pc_pt pO) (pc_si (Or.inl rfl)))) (td_si (by decide) (by decide) (by decide) tO) (fun y => ⟨D, ?_⟩)))
          have l2 := lk_pt (by omega) pO ⟨k1, k2, k3, ⟨b, hb, eb⟩, k5⟩
          obtain ⟨c, hc, ec⟩ := (tkN_ok (g := 7) (by decide) tN.1 y).1
          refine ⟨lr_gr l2.1 rfl, by rw [gi_ne (by omega)]; exact l2.2.1, l2.2.2.1, ⟨c, by omega, by rw [gi_si, if_pos ⟨rfl, rfl⟩]; exact ec⟩, fun w hw => wk_eq (gi_ne (by omega)) (l2.2.2.2.2 w hw)⟩
        · refine nLr_tellWord k1 (by omega) gN tN k2 k3 (fun _ O pO tO => vLr_readInto_112 (b147 O _ u (pc_tr pN (pc_pt pO)) tO (fun y => absurd y (tfl_ne (by decide))))) (fun hD O pO tO nf => vLr_readInto_112 (b147 _ _ u (pc_tr pN (pc_tr (pc_px (by omega) pO) (pc_si (Or.inr (by omega))))) (td_si (by omega) (by omega) (by omega) tO) (fun y => absurd y nf))) (fun hD O pO tO nf ew => vLr_readInto_112 (b147 _ _ u (pc_tr pN (pc_tr (pc_px (by omega) pO) (pc_si (Or.inr (by omega))))) (td_si (by omega) (by omega) (by omega) tO) (fun y => ⟨D + 1, ?_⟩)))
          refine ⟨lr_gr k1 pO.1, ?_, hD, ⟨b, hb, ?_⟩, fun w hw => ?_⟩
          · rw [gi_si, if_pos ⟨rfl, rfl⟩]
          · rw [gi_ne (by omega), pO.2.2 258 (by decide) (by omega)]; exact eb
          · by_cases e : w = D
            · subst e
              have wk := wb2_ok tN.1 hb eb y
              unfold WK
              rw [gi_ne (by omega), ew 1 (by decide), ew 2 (by decide), ew 3 (by decide), ew 6 (by decide)]
              exact wk
            · refine wk_eq ?_ (k5 w (by omega))
              rw [gi_ne (by omega), pO.2.2 _ (by omega) (by omega)]
        · exact nTo_fail tN (fun O pO tO => vLr_readInto_94 (b147 O _ u (pc_tr pN (pc_pt pO)) tO (fun y => absurd y (tfl_ne (by decide)))))
      refine vLr_readInto_27 rfl gN ⟨fun q => bout N s v pN tN lk (by omega), fun q => b79 (n5.symm.trans q.2.1) _, fun q => sTo_among (j := 0) tN (by decide) (vLr_readInto_75 (b79 (n5.symm.trans q.2.1) _))⟩
  exact key 400 0 C _ 0 (by omega) pMC tC (fun _ => ⟨0, lC⟩)
/-- a rule's notes are told or not -/
def RN (M : Mm) (r : Nat) : Prop := gi M r 2 = 0 ∨ gi M r 2 = 1
theorem nRr_tell {M : Mm} {T : Nat → Int32} {t r : Nat} {k : Int32} {s : Tst} {K : Mm → Prop} (hk : r % 64 = 3) (g0 : gr M 324 0 = some 199) (td : TD M T t s) (rn : RN M r) (h : ∀ N u, PX r M N → TD N T t u → RN N r → K N) : CV mRr_tell [.ref 324, .ref r, .int k] M K := by
  have x1 : r ≠ 199 := by omega
  have x2 : r ≠ 70 := by omega
  have x3 : r ≠ 145 := by omega
  have rs : ∀ {N : Mm} {j : Nat} {v : Int32}, PT M N → j ≠ 2 → RN (si N r j v) r := by
    intro N j v pN hj
    unfold RN
    rw [gxs, if_neg (Ne.symm hj), pN.2.2 r x1]; exact rn
  refine call_of rfl (Nat.le_of_ble_eq_true rfl) rfl (vRr_tell_0 rfl hk g0 ⟨fun _ => nTo_takeDoctors td (fun N pN tN => vRr_tell_48 hk (h _ _ (px_tr (px_pt pN) px_si) (td_si x1 x2 x3 tN) (rs pN (by decide)))), fun _ => nTo_takeNumber td (fun N pN tN => vRr_tell_64 hk (h _ _ (px_tr (px_pt pN) px_si) (td_si x1 x2 x3 tN) (rs pN (by decide)))), fun _ => h _ s px_si (td_si x1 x2 x3 td) ?_, fun _ => nTo_takeOneOf (j := 3) td (by decide) (fun N pN tN => vRr_tell_88 hk (h _ _ (px_tr (px_pt pN) px_si) (td_si x1 x2 x3 tN) (rs pN (by decide)))), fun _ => nTo_takeDoctor td (fun N pN tN => vRr_tell_102 hk (h _ _ (px_tr (px_pt pN) px_si) (td_si x1 x2 x3 tN) (rs pN (by decide)))), fun _ => nTo_takeOneOf (j := 4) td (by decide) (fun N pN tN => vRr_tell_118 hk hk (h _ _ (px_tr (px_pt pN) (px_tr px_si px_si)) (td_si x1 x2 x3 (td_si x1 x2 x3 tN)) ?_)), fun _ => nTo_takeOneOf (j := 5) td (by decide) (fun N pN tN => vRr_tell_155 hk (h _ _ (px_tr (px_pt pN) px_si) (td_si x1 x2 x3 tN) (rs pN (by decide))))⟩)
  · unfold RN; rw [gxs, if_pos rfl]; exact Or.inr rfl
  · have := rs (v := tk1v T t 4 (adv T t s)) pN (show (5 : Nat) ≠ 2 by decide)
    unfold RN at this ⊢
    rw [gxs, if_neg (by decide)]; exact this
theorem nRr_readInto {M : Mm} {T : Nat → Int32} {t r : Nat} {K : Int32 → Mm → Prop} (hk : r % 64 = 3) (g0 : gr M 324 0 = some 199) (tc : TC M T t) (h : ∀ v N, PX r M N → RN N r → K v N) : CI mRr_readInto [.ref 324, .ref r] M K := by
  have x1 : r ≠ 199 := by omega
  have x2 : r ≠ 70 := by omega
  have x3 : r ≠ 145 := by omega
  have pA : PX r M (si (si (si (si (si (si (si M r 0 31) r 1 2) r 2 0) r 3 0) r 4 (-4)) r 5 (-4)) r 6 1) := px_tr px_si (px_tr px_si (px_tr px_si (px_tr px_si (px_tr px_si (px_tr px_si px_si)))))
  have rA : RN (si (si (si (si (si (si (si M r 0 31) r 1 2) r 2 0) r 3 0) r 4 (-4)) r 5 (-4)) r 6 1) r := by
    unfold RN; simp only [gxs]; exact Or.inl rfl
  refine call_of rfl (Nat.le_of_ble_eq_true rfl) rfl (vRr_readInto_0 hk (call_of rfl (Nat.le_of_ble_eq_true rfl) rfl (vRu_clear_0 hk (vRr_readInto_4 rfl g0 ?_))))
  generalize si (si (si (si (si (si (si M r 0 31) r 1 2) r 2 0) r 3 0) r 4 (-4)) r 5 (-4)) r 6 1 = A at pA rA ⊢
  have tA : TC A T t := tc_gi pA.1 (pA.2.2 70 (by decide) (Ne.symm x2)) (pA.2.2 145 (by decide) (Ne.symm x3)) tc
  refine nTo_begin tA rfl (fun B pB tB => vRr_readInto_11 rfl (by rw [pB.1, pA.1]; exact g0) (nTo_advance tB (fun C pC tC => ?_)))
  have pMC : PX r M C := px_tr pA (px_pt (pt_tr pB pC))
  have rC : RN C r := by unfold RN; rw [pC.2.2 r x1, pB.2.2 r x1]; exact rA
  have rp : ∀ {N O : Mm}, PT N O → RN N r → RN O r := fun p a => by unfold RN; rw [p.2.2 r x1]; exact a
  have key : ∀ n v N s u, v + n = 400 → PX r M N → TD N T t s → RN N r → X mRr_readInto 22 [(0, .ref 324), (1, .ref r), (2, .int u), (3, .int (nI v))] [] N (mC mRr_readInto, mS mRr_readInto) (QI K) := by
    intro n
    induction n with
    | zero =>
      intro v N s u hv pN tN rN
      have gN : gr N 324 0 = some 199 := by rw [pN.1]; exact g0
      have e : v = 400 := by omega
      have l : (400 : Int32) ≤ nI v := by rw [e]; exact Int32.le_refl _
      exact vRr_readInto_22 rfl gN ⟨fun _ => h _ N pN rN, fun q => absurd l q.1, fun q => absurd l q.1⟩
    | succ n ih =>
      intro v N s u hv pN tN rN
      have gN : gr N 324 0 = some 199 := by rw [pN.1]; exact g0
      have b128 : ∀ O s' u', PX r M O → TD O T t s' → RN O r → X mRr_readInto 128 [(0, .ref 324), (1, .ref r), (2, .int u'), (3, .int (nI v))] [] O (mC mRr_readInto, mS mRr_readInto) (QI K) := by
        intro O s' u' pO tO rO
        refine vRr_readInto_128 rfl (by rw [pO.1]; exact g0) (nTo_closeLine tO (fun P pP tP => vRr_readInto_135 ?_))
        rw [nI_s]
        exact ih (v + 1) P _ u' (by omega) (px_tr pO (px_pt pP)) tP (rp pP rO)
      have b74 : ∀ k, X mRr_readInto 74 [(0, .ref 324), (1, .ref r), (2, .int u), (3, .int (nI v))] [.int k] N (mC mRr_readInto, mS mRr_readInto) (QI K) := by
        intro k
        refine vRr_readInto_74 rfl gN ⟨fun q => sC_holds (vRr_readInto_99 rfl gN ⟨fun _ => nRr_tell hk gN tN rN (fun O s' pO tO rO => b128 O s' _ (px_tr pN pO) tO rO), fun _ => nTo_fail tN (fun O pO tO => vRr_readInto_110 (b128 O _ u (px_tr pN (px_pt pO)) tO (rp pO rN)))⟩), fun q => nTo_fail tN (fun O pO tO => vRr_readInto_89 (b128 O _ u (px_tr pN (px_pt pO)) tO (rp pO rN)))⟩
      exact vRr_readInto_22 rfl gN ⟨fun _ => h _ N pN rN, fun _ => b74 _, fun _ => sTo_among (j := 2) tN (by decide) (vRr_readInto_70 (b74 _))⟩
  exact key 400 0 C _ 0 (by omega) pMC tC rC
end MG40
section MG41
/-! ===== a library of any words is settled: nothing but its own rows changes ===== -/
def ST (r : Nat) (M N : Mm) : Prop := gr N = gr M ∧ gl N = gl M ∧ gi N r 1 = gi M r 1 ∧ (∀ w, w < 24 → ∀ i, i < 9 → gi N (r + 776 + 64 * w) i = gi M (r + 776 + 64 * w) i) ∧ (∀ a, ¬ (r ≤ a ∧ a < r + 2304) → gi N a = gi M a) ∧ gi N (r + 140) = gi M (r + 140)
theorem st_rf (r : Nat) (M : Mm) : ST r M M := ⟨rfl, rfl, rfl, fun _ _ _ _ => rfl, fun _ _ => rfl, rfl⟩
theorem st_tr {r : Nat} {M N O : Mm} (f : ST r M N) (g : ST r N O) : ST r M O := ⟨g.1.trans f.1, g.2.1.trans f.2.1, g.2.2.1.trans f.2.2.1, fun w hw i hi => (g.2.2.2.1 w hw i hi).trans (f.2.2.2.1 w hw i hi), fun a h => (g.2.2.2.2.1 a h).trans (f.2.2.2.2.1 a h), g.2.2.2.2.2.trans f.2.2.2.2.2⟩
/-- a row of the library's own -/
def ox (r x j : Nat) : Prop := (r ≤ x ∧ x < r + 2304) ∧ ¬ (x = r ∧ j = 1) ∧ x ≠ r + 140 ∧ (x < r + 776 ∨ 9 ≤ j)
theorem st_si {r x j : Nat} {M : Mm} {v : Int32} (h : ox r x j) : ST r M (si M x j v) := by
  obtain ⟨h1, h2, h3, h4⟩ := h
  refine ⟨rfl, rfl, ?_, fun w hw i hi => ?_, fun a ha => gi_ne (fun e => ha (by omega)), gi_ne (Ne.symm h3)⟩
  · rw [gi_si, if_neg (fun e => h2 (by omega))]
  · rw [gi_si, if_neg (fun e => by omega)]
theorem st_fl {r x n : Nat} {M : Mm} {v : Int32} (h : r < x ∧ x < r + 776) (h2 : x ≠ r + 140) : ST r M (fl M x n v) := by
  refine ⟨rfl, rfl, ?_, fun w hw i hi => ?_, fun a ha => ?_, ?_⟩
  · rw [flR _ _ _ _ _ _ (by omega)]
  · rw [flR _ _ _ _ _ _ (by omega)]
  · funext k; rw [flR _ _ _ _ _ _ (by omega)]
  · funext k; rw [flR _ _ _ _ _ _ (Ne.symm h2)]
theorem ld_st {r D : Nat} {M N : Mm} (f : ST r M N) (l : LD M r D) : LD N r D := by
  obtain ⟨k1, k2, k3, k4⟩ := l
  refine ⟨lr_gr k1 f.1, f.2.2.1.trans k2, k3, fun w hw => ?_⟩
  have e : ∀ i, i < 9 → gi N (r + 776 + 64 * w) i = gi M (r + 776 + 64 * w) i := f.2.2.2.1 w (by omega)
  unfold WK
  rw [e 1 (by decide), e 2 (by decide), e 3 (by decide), e 6 (by decide)]
  exact k4 w hw
section CS1
variable {M : Mm} {r D : Nat}
theorem ld_le (l : LD M r D) {i : Nat} (hi : i < D) : ¬ gi M r 1 ≤ nI i := by have := l.2.2.1; rw [l.2.1]; exact nge rfl (by omega) hi
theorem ld_se (l : LD M r D) : gi M r 1 ≤ nI D := by rw [l.2.1]; exact Int32.le_refl _
theorem ld_gw (l : LD M r D) {i : Nat} (hi : i < 24) : gr M (r + 81) (nI i).toNatClampNeg = some (r + 776 + 64 * i) := by rw [ncl (by omega)]; exact l.1.2.2 i hi
theorem ld_v (l : LD M r D) {i : Nat} (hi : i < D) : vp_in (nI i) 24 := by have := l.2.2.1; exact vin (by omega) (by decide)
theorem wkk (l : LD M r D) (w : Nat) : (r + 776 + 64 * w) % 64 = 9 := by have := l.1.1; omega
theorem lS_sortWords {K : Mm → Prop} (l : LD M r D) (h : ∀ N, ST r M N → K N) : CV mLi_sortWords [.ref r] M K := by
  have hl := l.1
  have hD := l.2.2.1
  refine call_of rfl (Nat.le_of_ble_eq_true rfl) rfl (vLi_sortWords_0 hl.1 (lr7 hl) (sJr_fill (lrk hl 460 13 rfl (by decide)) ak_13 (by decide) (vLi_sortWords_8 hl.1 (lr8 hl) (sJr_fill (lrk hl 524 13 rfl (by decide)) ak_13 (by decide) (vLi_sortWords_16 hl.1 ?_)))))
  have s0 : ST r M (si (si (fl (fl M (r + 460) 8 0) (r + 524) 8 0) r 10 0) r 11 0) := st_tr (st_fl (by omega) (by omega)) (st_tr (st_fl (by omega) (by omega)) (st_tr (st_si ⟨by omega, by omega, by omega, by omega⟩) (st_si ⟨by omega, by omega, by omega, by omega⟩)))
  refine lp D (P := fun i => ∀ N, ST r M N → X mLi_sortWords 28 [(0, .ref r), (1, .int (nI i))] [] N (mC mLi_sortWords, mS mLi_sortWords) (QV K)) (fun i hi ih N sN => ?_) (fun N sN => ?_) _ s0
  · have lN := ld_st sN l
    have hN := lN.1
    obtain ⟨⟨b, hb, eb⟩, hd, -, -⟩ := lN.2.2.2 i hi
    have b80 : ∀ O, ST r M O → X mLi_sortWords 80 [(0, .ref r), (1, .int (nI i)), (2, .ref (r + 776 + 64 * i))] [] O (mC mLi_sortWords, mS mLi_sortWords) (QV K) := by
      intro O sO
      refine vLi_sortWords_80 hl.1 (wkk l i) ?_
      rw [nI_s]
      exact ih _ (st_tr sO (st_tr (st_si ⟨by omega, by omega, by omega, by omega⟩) (st_si ⟨by omega, by omega, by omega, by omega⟩)))
    refine vLi_sortWords_28 hl.1 (lr0 hN) (lr8 hN) (lr7 hN) ⟨fun q => absurd q (ld_le lN hi), fun _ => ⟨ld_v lN hi, r + 776 + 64 * i, ld_gw lN (by omega), ?_⟩⟩
    have vb : vp_in (gi N (r + 776 + 64 * i) 2) 8 := by rw [eb]; exact vin hb (by decide)
    refine ⟨vb, vb, ?_⟩
    have s1 : ∀ v, ST r M (si N (r + 524) (gi N (r + 776 + 64 * i) 2).toNatClampNeg v) := fun v => st_tr sN (st_si ⟨by omega, by omega, by omega, by omega⟩)
    have e1 : ∀ v, gi (si N (r + 524) (gi N (r + 776 + 64 * i) 2).toNatClampNeg v) (r + 776 + 64 * i) 1 = gi N (r + 776 + 64 * i) 1 := fun v => by rw [giR _ _ _ _ _ _ (by omega)]
    rw [e1]
    have vd : ¬ gi N (r + 776 + 64 * i) 1 < 0 → vp_in (gi N (r + 776 + 64 * i) 1) 8 := fun q => by
      obtain ⟨d, hd, ed⟩ := hd.resolve_left q
      rw [ed]; exact vin hd (by decide)
    exact ⟨vd, fun _ => b80 _ (s1 _), fun q => ⟨vd q, b80 _ (st_tr (s1 _) (st_si ⟨by omega, by omega, by omega, by omega⟩))⟩⟩
  · have lN := ld_st sN l
    exact vLi_sortWords_28 hl.1 (lr0 lN.1) (lr8 lN.1) (lr7 lN.1) ⟨fun _ => h N sN, fun q => absurd (ld_se lN) q⟩
theorem lS_findFollowed {K : Mm → Prop} (l : LD M r D) (h : ∀ N, ST r M N → K N) : CV mLi_findFollowed [.ref r] M K := by
  have hl := l.1
  have hD := l.2.2.1
  refine call_of rfl (Nat.le_of_ble_eq_true rfl) rfl (vLi_findFollowed_0 ?_)
  refine lp D (P := fun i => ∀ N, ST r M N → X mLi_findFollowed 2 [(0, .ref r), (1, .int (nI i))] [] N (mC mLi_findFollowed, mS mLi_findFollowed) (QV K)) (fun i hi ih N sN => ?_) (fun N sN => ?_) _ (st_rf r M)
  · have lN := ld_st sN l
    have hN := lN.1
    obtain ⟨-, hd, -, -⟩ := lN.2.2.2 i hi
    have b89 : ∀ O, ST r M O → X mLi_findFollowed 89 [(0, .ref r), (1, .int (nI i))] [] O (mC mLi_findFollowed, mS mLi_findFollowed) (QV K) := by
      intro O sO
      have lO := ld_st sO l
      refine vLi_findFollowed_89 hl.1 (lr15 lO.1) (lr14 lO.1) ⟨ld_v lO hi, ld_v lO hi, ?_⟩
      rw [nI_s]
      exact ih _ (st_tr sO (st_si ⟨by omega, by omega, by omega, by omega⟩))
    have s1 : ∀ v, ST r M (si N (r + 651) (nI i).toNatClampNeg v) := fun v => st_tr sN (st_si ⟨by omega, by omega, by omega, by omega⟩)
    have s2 : ∀ v w, ST r M (si (si N (r + 651) (nI i).toNatClampNeg v) (r + 651) (nI i).toNatClampNeg w) := fun v w => st_tr (s1 v) (st_si ⟨by omega, by omega, by omega, by omega⟩)
    refine vLi_findFollowed_2 hl.1 (lr0 hN) (lr14 hN) (lr7 hN) ⟨fun q => absurd q (ld_le lN hi), fun _ => ⟨ld_v lN hi, r + 776 + 64 * i, ld_gw lN (by omega), ld_v lN hi, fun q => ?_, fun _ => b89 _ (s1 _), fun _ => ⟨ld_v lN hi, b89 _ (s2 _ _)⟩, fun _ => ⟨ld_v lN hi, b89 _ (s2 _ _)⟩⟩⟩
    have e1 : gi (si N (r + 651) (nI i).toNatClampNeg 0) (r + 776 + 64 * i) 1 = gi N (r + 776 + 64 * i) 1 := by rw [giR _ _ _ _ _ _ (by omega)]
    rw [e1] at q ⊢
    obtain ⟨d, hd, ed⟩ := hd.resolve_left q.2.2
    rw [ed]; exact vin hd (by decide)
  · have lN := ld_st sN l
    exact vLi_findFollowed_2 hl.1 (lr0 lN.1) (lr14 lN.1) (lr7 lN.1) ⟨fun _ => h N sN, fun q => absurd (ld_se lN) q⟩
theorem lS_findRings {K : Mm → Prop} (l : LD M r D) (h : ∀ N, ST r M N → K N) : CV mLi_findRings [.ref r] M K := by
  have hl := l.1
  have hD := l.2.2.1
  refine call_of rfl (Nat.le_of_ble_eq_true rfl) rfl (vLi_findRings_0 ?_)
  have k3 : ∀ N, ST r M N → X mLi_findRings 110 [(0, .ref r), (1, .int 0)] [] N (mC mLi_findRings, mS mLi_findRings) (QV K) := by
    intro N sN
    refine lp D (P := fun i => ∀ N, ST r M N → X mLi_findRings 110 [(0, .ref r), (1, .int (nI i))] [] N (mC mLi_findRings, mS mLi_findRings) (QV K)) (fun i hi ih N sN => ?_) (fun N sN => ?_) N sN
    · have lN := ld_st sN l
      have b144 : ∀ x y, X mLi_findRings 144 [(0, .ref r), (1, .int (nI i))] [.int x, .int y, .ref r] N (mC mLi_findRings, mS mLi_findRings) (QV K) := by
        intro x y
        refine vLi_findRings_144 hl.1 ?_
        rw [nI_s]
        exact ih _ (st_tr sN (st_si ⟨by omega, by omega, by omega, by omega⟩))
      exact vLi_findRings_110 hl.1 (lr15 lN.1) ⟨fun _ => ld_v lN hi, fun q => absurd q (ld_le lN hi), fun _ => b144 _ _, fun _ => b144 _ _⟩
    · have lN := ld_st sN l
      exact vLi_findRings_110 hl.1 (lr15 lN.1) ⟨fun q => absurd (ld_se lN) q, fun _ => h N sN, fun q => absurd (ld_se lN) q.1, fun q => absurd (ld_se lN) q.1⟩
  have k2 : ∀ N, ST r M N → X mLi_findRings 67 [(0, .ref r), (1, .int 0)] [] N (mC mLi_findRings, mS mLi_findRings) (QV K) := by
    intro N sN
    refine lp D (P := fun i => ∀ N, ST r M N → X mLi_findRings 67 [(0, .ref r), (1, .int (nI i))] [] N (mC mLi_findRings, mS mLi_findRings) (QV K)) (fun i hi ih N sN => ?_) (fun N sN => ?_) N sN
    · have lN := ld_st sN l
      refine vLi_findRings_67 hl.1 (lr15 lN.1) ⟨fun _ => ld_v lN hi, fun q => absurd q (ld_le lN hi), fun _ => ?_⟩
      rw [nI_s]
      exact ih _ (st_tr sN (st_si ⟨by omega, by omega, by omega, by omega⟩))
    · have lN := ld_st sN l
      exact vLi_findRings_67 hl.1 (lr15 lN.1) ⟨fun q => absurd (ld_se lN) q, fun _ => k3 _ (st_tr sN (st_si ⟨by omega, by omega, by omega, by omega⟩)), fun q => absurd (ld_se lN) q⟩
  refine lp D (P := fun m => ∀ N, ST r M N → X mLi_findRings 2 [(0, .ref r), (1, .int (nI m))] [] N (mC mLi_findRings, mS mLi_findRings) (QV K)) (fun m hm ih N sN => ?_) (fun N sN => ?_) _ (st_rf r M)
  · have lN := ld_st sN l
    refine vLi_findRings_2 hl.1 ⟨fun q => absurd q (ld_le lN hm), fun _ => ?_⟩
    refine lp D (P := fun i => ∀ N, ST r M N → X mLi_findRings 12 [(0, .ref r), (1, .int (nI m)), (2, .int (nI i))] [] N (mC mLi_findRings, mS mLi_findRings) (QV K)) (fun i hi ih2 N sN => ?_) (fun N sN => ?_) N sN
    · have lN := ld_st sN l
      refine vLi_findRings_12 hl.1 (lr15 lN.1) ⟨fun _ => ld_v lN hi, fun q => absurd q (ld_le lN hi), fun _ => sC_holds (vLi_findRings_30 hl.1 (lr15 lN.1) ⟨fun _ => ld_v lN hi, fun _ => ld_v lN hm, fun _ => ?_, fun _ => ⟨ld_v lN hi, ?_⟩⟩)⟩
      · rw [nI_s]; exact ih2 N sN
      · rw [nI_s]; exact ih2 _ (st_tr sN (st_si ⟨by omega, by omega, by omega, by omega⟩))
    · have lN := ld_st sN l
      refine vLi_findRings_12 hl.1 (lr15 lN.1) ⟨fun q => absurd (ld_se lN) q, fun _ => ?_, fun q => absurd (ld_se lN) q⟩
      rw [nI_s]; exact ih N sN
  · have lN := ld_st sN l
    exact vLi_findRings_2 hl.1 ⟨fun _ => k2 _ (st_tr sN (st_si ⟨by omega, by omega, by omega, by omega⟩)), fun q => absurd (ld_se lN) q⟩
def sav (M : Mm) (r : Nat) (w : Int32) (c : Nat) : Int32 := if ((ushr (gi M (r + 205) c) w) &&& 1) = 1 then 1 else if ((ushr (gi M (r + 269) c) w) &&& 1) = 1 then 0 else -4
theorem sLi_saying {w : Int32} {c : Nat} {K : Int32 → Mm → Prop} (hl : LR M r) (hc : c < 64) (h : K (sav M r w c) M) : CI mLi_saying [.ref r, .int w, .int (nI c)] M K := by
  have cc : (nI c).toNatClampNeg = c := ncl (by omega)
  unfold sav at h
  refine call_of rfl (Nat.le_of_ble_eq_true rfl) rfl (vLi_saying_0 hl.1 (lr3 hl) (lr4 hl) ⟨vin hc (by decide), fun _ => vin hc (by decide), fun q => ?_, fun q => ?_, fun q => ?_⟩)
  · rw [cc] at q
    rw [if_neg q.1, if_neg q.2] at h; exact h
  · rw [cc] at q
    rw [if_neg q.1, if_pos q.2] at h; exact h
  · rw [cc] at q
    rw [if_pos q] at h; exact h
theorem lS_speak {w : Nat} {K : Mm → Prop} (l : LD M r D) (hw : w < D) (h : ∀ N, ST r M N → K N) : CV mLi_speak [.ref r, .int (nI w)] M K := by
  have hl := l.1
  have hD := l.2.2.1
  obtain ⟨-, -, ⟨m, hm, em⟩, hf⟩ := l.2.2.2 w hw
  have vm : vp_in (gi M (r + 776 + 64 * w) 3) 64 := by rw [em]; exact vin hm (by decide)
  have b84 : ∀ N v, ST r M N → X mLi_speak 84 [(0, .ref r), (1, .int (nI w)), (2, .ref (r + 776 + 64 * w)), (3, .int v), (4, .int 0)] [] N (mC mLi_speak, mS mLi_speak) (QV K) := by
    intro N v sN
    refine lp 64 (P := fun c => ∀ N, ST r M N → X mLi_speak 84 [(0, .ref r), (1, .int (nI w)), (2, .ref (r + 776 + 64 * w)), (3, .int v), (4, .int (nI c))] [] N (mC mLi_speak, mS mLi_speak) (QV K)) (fun c hc ih N sN => ?_) (fun N sN => ?_) N sN
    · have lN := ld_st sN l
      have b115 : ∀ x, X mLi_speak 115 [(0, .ref r), (1, .int (nI w)), (2, .ref (r + 776 + 64 * w)), (3, .int v), (4, .int (nI c))] [.int x] N (mC mLi_speak, mS mLi_speak) (QV K) := by
        intro x
        have vc := vin hc (show 64 < 2 ^ 31 by decide)
        refine vLi_speak_115 hl.1 (lr3 lN.1) (lr4 lN.1) ⟨vc, vc, vc, vc, ?_⟩
        rw [nI_s]
        exact ih _ (st_tr sN (st_tr (st_si ⟨by omega, by omega, by omega, by omega⟩) (st_si ⟨by omega, by omega, by omega, by omega⟩)))
      refine vLi_speak_84 (wkk l w) hl.1 ⟨fun q => absurd q (nge rfl (by decide) hc), fun _ => call_of rfl (Nat.le_of_ble_eq_true rfl) rfl (vLi_ownSaying_0 (wkk l w) ⟨fun _ => b115 _, fun _ => b115 _⟩), fun _ => call_of rfl (Nat.le_of_ble_eq_true rfl) rfl (vLi_followedSaying_0 (wkk l w) hl.1 (sLi_saying lN.1 hc (vLi_followedSaying_9 (wkk l w) ⟨fun _ => vLi_speak_105 (b115 _), fun _ => vLi_speak_105 (b115 _)⟩)))⟩
    · exact vLi_speak_84 (wkk l w) hl.1 ⟨fun _ => h N sN, fun q => absurd (nself rfl) q.1, fun q => absurd (nself rfl) q.1⟩
  have b56 : ∀ v, X mLi_speak 56 [(0, .ref r), (1, .int (nI w)), (2, .ref (r + 776 + 64 * w)), (3, .int v)] [] M (mC mLi_speak, mS mLi_speak) (QV K) := by
    intro v
    refine vLi_speak_56 (wkk l w) hl.1 (lr0 hl) ⟨fun _ => vLi_speak_81 (b84 M v (st_rf r M)), fun q => ?_⟩
    obtain ⟨f, hf, ef⟩ := hf.resolve_left q
    rw [ef]
    exact ⟨vin (show f < 24 by omega) (by decide), r + 776 + 64 * f, ld_gw l (by omega), vLi_speak_81 (b84 _ v (st_si ⟨by omega, by omega, by omega, by omega⟩))⟩
  refine call_of rfl (Nat.le_of_ble_eq_true rfl) rfl (vLi_speak_0 hl.1 (lr0 hl) (lr3 hl) (lr14 hl) (lr4 hl) ⟨ld_v l hw, r + 776 + 64 * w, ld_gw l (by omega), fun _ => vm, fun _ => ld_v l hw, fun _ => vm, fun _ => ld_v l hw, fun _ => b56 _, fun _ => sC_agreed (vLi_speak_55 (b56 _))⟩)
theorem lS_speakInOrder {K : Mm → Prop} (l : LD M r D) (h : ∀ N, ST r M N → K N) : CV mLi_speakInOrder [.ref r] M K := by
  have hl := l.1
  have hD := l.2.2.1
  refine call_of rfl (Nat.le_of_ble_eq_true rfl) rfl (vLi_speakInOrder_0 hl.1 (lr3 hl) (sJr_fill (lrk hl 205 14 rfl (by decide)) ak_14 (by decide) (vLi_speakInOrder_8 hl.1 (lr4 hl) (sJr_fill (lrk hl 269 14 rfl (by decide)) ak_14 (by decide) (vLi_speakInOrder_16 hl.1 ?_)))))
  have s0 : ST r M (fl (fl M (r + 205) 64 0) (r + 269) 64 0) := st_tr (st_fl (by omega) (by omega)) (st_fl (by omega) (by omega))
  have k2 : ∀ N, ST r M N → X mLi_speakInOrder 87 [(0, .ref r), (2, .int 0)] [] N (mC mLi_speakInOrder, mS mLi_speakInOrder) (QV K) := by
    intro N sN
    refine lp D (P := fun i => ∀ N, ST r M N → X mLi_speakInOrder 87 [(0, .ref r), (2, .int (nI i))] [] N (mC mLi_speakInOrder, mS mLi_speakInOrder) (QV K)) (fun i hi ih N sN => ?_) (fun N sN => ?_) N sN
    · have lN := ld_st sN l
      refine vLi_speakInOrder_87 hl.1 ⟨fun q => absurd q (ld_le lN hi), fun _ => sC_holds (vLi_speakInOrder_103 hl.1 (lr0 lN.1) ⟨fun _ => ?_, fun _ => ⟨ld_v lN hi, r + 776 + 64 * i, ld_gw lN (by omega), ?_⟩⟩)⟩
      · rw [nI_s]; exact ih N sN
      · rw [nI_s]; exact ih _ (st_tr sN (st_si ⟨by omega, by omega, by omega, by omega⟩))
    · have lN := ld_st sN l
      exact vLi_speakInOrder_87 hl.1 ⟨fun _ => h N sN, fun q => absurd (ld_se lN) q⟩
  refine lp D (P := fun i => ∀ N v, ST r M N → X mLi_speakInOrder 23 [(0, .ref r), (1, .int v), (2, .int (nI i))] [] N (mC mLi_speakInOrder, mS mLi_speakInOrder) (QV K)) (fun i hi ih N v sN => ?_) (fun N v sN => ?_) _ _ s0
  · have lN := ld_st sN l
    refine vLi_speakInOrder_23 hl.1 ⟨fun q => absurd q (ld_le lN hi), fun _ => ?_⟩
    refine lp D (P := fun w => ∀ N v, ST r M N → X mLi_speakInOrder 33 [(0, .ref r), (1, .int v), (2, .int (nI i)), (3, .int (nI w))] [] N (mC mLi_speakInOrder, mS mLi_speakInOrder) (QV K)) (fun w hw ih2 N v sN => ?_) (fun N v sN => ?_) N v sN
    · have lN := ld_st sN l
      refine vLi_speakInOrder_33 hl.1 ⟨fun q => absurd q (ld_le lN hw), fun _ => sC_holds (vLi_speakInOrder_46 hl.1 (lr14 lN.1) ⟨fun _ => ld_v lN hw, fun _ => ?_, fun _ => lS_speak lN hw (fun O sO => vLi_speakInOrder_67 ?_)⟩)⟩
      · rw [nI_s]; exact ih2 N v sN
      · rw [nI_s]; exact ih2 O _ (st_tr sN sO)
    · have lN := ld_st sN l
      refine vLi_speakInOrder_33 hl.1 ⟨fun _ => ?_, fun q => absurd (ld_se lN) q⟩
      rw [nI_s]; exact ih N v sN
  · have lN := ld_st sN l
    exact vLi_speakInOrder_23 hl.1 ⟨fun _ => k2 N sN, fun q => absurd (ld_se lN) q⟩
theorem lS_weightOf {w : Nat} {K : Int32 → Mm → Prop} (l : LD M r D) (hw : w < D) (h : ∀ v, K v M) : CI mLi_weightOf [.ref r, .int (nI w)] M K := by
  have hl := l.1
  have hD := l.2.2.1
  have b65 : ∀ v, v < D → X mLi_weightOf 65 [(0, .ref r), (2, .int (nI v))] [] M (mC mLi_weightOf, mS mLi_weightOf) (QI K) := by
    intro v hv
    exact vLi_weightOf_65 hl.1 (lr0 hl) ⟨ld_v l hv, r + 776 + 64 * v, ld_gw l (by omega), sJi_bitCount (fun x _ => vLi_weightOf_77 hl.1 (lr0 hl) ⟨ld_v l hv, r + 776 + 64 * v, ld_gw l (by omega), sJi_bitCount (fun y _ => vLi_weightOf_89 (h _))⟩)⟩
  have b25 : X mLi_weightOf 25 [(0, .ref r), (1, .int (nI w))] [] M (mC mLi_weightOf, mS mLi_weightOf) (QI K) := by
    refine vLi_weightOf_25 ?_
    refine lp D (P := fun i => ∀ v, v < D → X mLi_weightOf 29 [(0, .ref r), (2, .int (nI v)), (3, .int (nI i))] [] M (mC mLi_weightOf, mS mLi_weightOf) (QI K)) (fun i hi ih v hv => ?_) (fun v hv => ?_) w hw
    · obtain ⟨-, -, -, hf⟩ := l.2.2.2 v hv
      refine vLi_weightOf_29 hl.1 (lr0 hl) ⟨fun q => absurd q (ld_le l hi), fun _ => ⟨ld_v l hv, r + 776 + 64 * v, ld_gw l (by omega), fun _ => b65 v hv, fun q => ⟨ld_v l hv, r + 776 + 64 * v, ld_gw l (by omega), ?_⟩⟩⟩
      obtain ⟨f, hf, ef⟩ := hf.resolve_left q
      rw [ef, nI_s]
      exact ih f hf
    · exact vLi_weightOf_29 hl.1 (lr0 hl) ⟨fun _ => b65 v hv, fun q => absurd (ld_se l) q⟩
  exact call_of rfl (Nat.le_of_ble_eq_true rfl) rfl (vLi_weightOf_0 hl.1 (lr0 hl) ⟨ld_v l hw, r + 776 + 64 * w, ld_gw l (by omega), fun _ => b25, fun _ => sC_holds (vLi_weightOf_20 ⟨fun _ => b25, fun _ => h _⟩)⟩)
theorem lS_weighAll {K : Mm → Prop} (l : LD M r D) (h : ∀ N, ST r M N → K N) : CV mLi_weighAll [.ref r] M K := by
  have hl := l.1
  have hD := l.2.2.1
  refine call_of rfl (Nat.le_of_ble_eq_true rfl) rfl (vLi_weighAll_0 hl.1 (lr9 hl) (sJr_fill (lrk hl 590 15 rfl (by decide)) ak_15 (by decide) (vLi_weighAll_8 ?_)))
  refine lp D (P := fun i => ∀ N, ST r M N → X mLi_weighAll 10 [(0, .ref r), (1, .int (nI i))] [] N (mC mLi_weighAll, mS mLi_weighAll) (QV K)) (fun i hi ih N sN => ?_) (fun N sN => ?_) _ (st_fl (by omega) (by omega))
  · have lN := ld_st sN l
    refine vLi_weighAll_10 hl.1 ⟨fun q => absurd q (ld_le lN hi), fun _ => lS_weightOf lN hi (fun v => vLi_weighAll_23 hl.1 (lr0 lN.1) (lr9 lN.1) ⟨ld_v lN hi, r + 776 + 64 * i, ld_gw lN (by omega), fun q => ?_, fun q => ?_, fun q => ⟨?_, ?_⟩⟩)⟩
    · obtain ⟨k, hk, ek⟩ := rng (c := 7) (n := 7) rfl (by decide) q.1 q.2
      rw [ek]; exact vin hk (by decide)
    · rw [nI_s]; exact ih _ (st_tr sN (st_si ⟨by omega, by omega, by omega, by omega⟩))
    · obtain ⟨k, hk, ek⟩ := rng (c := 7) (n := 7) rfl (by decide) q.1 q.2
      rw [ek]; exact vin hk (by decide)
    · rw [nI_s]; exact ih _ (st_tr sN (st_tr (st_si ⟨by omega, by omega, by omega, by omega⟩) (st_si ⟨by omega, by omega, by omega, by omega⟩)))
  · have lN := ld_st sN l
    exact vLi_weighAll_10 hl.1 ⟨fun _ => h N sN, fun q => absurd (ld_se lN) q⟩
theorem lS_lawSaying {c : Nat} {b : Int32} {K : Int32 → Mm → Prop} (l : LD M r D) (hc : c < 64) (h : ∀ v, K v M) : CI mLi_lawSaying [.ref r, .int (nI c), .int b] M K := by
  have hl := l.1
  have hD := l.2.2.1
  refine call_of rfl (Nat.le_of_ble_eq_true rfl) rfl (vLi_lawSaying_0 hl.1 (sLi_speaking hl hc (vLi_lawSaying_5 hl.1 ?_)))
  have fin : ∀ x y, vp_in (nI c) 64 ∧ vp_in (nI c) 64 ∧ CI mC_agreed [.int x, .int y] M (fun rv N => X mLi_lawSaying 135 [] [.int rv] N (mC mLi_lawSaying, mS mLi_lawSaying) (QI K)) := fun x y => ⟨vin hc (by decide), vin hc (by decide), sC_agreed (vLi_lawSaying_135 (h _))⟩
  refine lp D (P := fun i => ∀ v x y, X mLi_lawSaying 21 [(0, .ref r), (1, .int (nI c)), (2, .int b), (3, .int v), (4, .int x), (5, .int y), (6, .int (nI i))] [] M (mC mLi_lawSaying, mS mLi_lawSaying) (QI K)) (fun i hi ih v x y => ?_) (fun v x y => ?_) _ _ _
  · refine vLi_lawSaying_21 hl.1 (lr3 hl) (lr4 hl) ⟨fun _ => fin _ _, fun _ => sC_holds (vLi_lawSaying_40 hl.1 (lr0 hl) ⟨fun _ => ?_, fun _ => ⟨ld_v l hi, r + 776 + 64 * i, ld_gw l (by omega), fun _ => vLi_lawSaying_88 ?_, fun _ => vLi_lawSaying_88 ?_⟩⟩)⟩
    · rw [nI_s]; exact ih _ _ _
    · rw [nI_s]; exact ih _ _ _
    · rw [nI_s]; exact ih _ _ _
  · exact vLi_lawSaying_21 hl.1 (lr3 hl) (lr4 hl) ⟨fun _ => fin _ _, fun q => absurd (ld_se l) q.1⟩
theorem lS_askLaws {K : Mm → Prop} (l : LD M r D) (h : ∀ N, ST r M N → K N) : CV mLi_askLaws [.ref r] M K := by
  have hl := l.1
  refine call_of rfl (Nat.le_of_ble_eq_true rfl) rfl (vLi_askLaws_0 ?_)
  refine lp 64 (P := fun c => ∀ N, ST r M N → X mLi_askLaws 2 [(0, .ref r), (1, .int (nI c))] [] N (mC mLi_askLaws, mS mLi_askLaws) (QV K)) (fun c hc ih N sN => ?_) (fun N sN => ?_) _ (st_rf r M)
  · have lN := ld_st sN l
    refine vLi_askLaws_2 hl.1 (lr5 lN.1) ⟨fun q => absurd q (nge rfl (by decide) hc), fun _ => lS_lawSaying lN hc (fun v => vLi_askLaws_19 (lrk hl 333 14 rfl (by decide)) hl.1 (lr6 lN.1) ⟨vin hc (by decide), ?_⟩)⟩
    have s1 : ST r M (si N (r + 333) (nI c).toNatClampNeg v) := st_tr sN (st_si ⟨by omega, by omega, by omega, by omega⟩)
    refine lS_lawSaying (ld_st s1 l) hc (fun v2 => vLi_askLaws_31 (lrk hl 397 14 rfl (by decide)) ⟨vin hc (by decide), ?_⟩)
    rw [nI_s]
    exact ih _ (st_tr s1 (st_si ⟨by omega, by omega, by omega, by omega⟩))
  · exact vLi_askLaws_2 hl.1 (lr5 (ld_st sN l).1) ⟨fun _ => h N sN, fun q => absurd (nself rfl) q⟩
theorem lS_settle {K : Mm → Prop} (l : LD M r D) (h : ∀ N, ST r M N → K N) : CV mLi_settle [.ref r] M K := by
  have hl := l.1
  refine call_of rfl (Nat.le_of_ble_eq_true rfl) rfl (vLi_settle_0 hl.1 (lS_sortWords l (fun N1 s1 => vLi_settle_4 hl.1 (lS_findFollowed (ld_st s1 l) (fun N2 s2 => vLi_settle_8 hl.1 (lS_findRings (ld_st (st_tr s1 s2) l) (fun N3 s3 => vLi_settle_12 hl.1 (lS_speakInOrder (ld_st (st_tr s1 (st_tr s2 s3)) l) (fun N4 s4 => vLi_settle_16 hl.1 (lS_weighAll (ld_st (st_tr s1 (st_tr s2 (st_tr s3 s4))) l) (fun N5 s5 => vLi_settle_20 hl.1 (lS_askLaws (ld_st (st_tr s1 (st_tr s2 (st_tr s3 (st_tr s4 s5)))) l) (fun N6 s6 => vLi_settle_24 (h N6 (st_tr s1 (st_tr s2 (st_tr s3 (st_tr s4 (st_tr s5 s6)))))))))))))))))))
end CS1
end MG41
section MG42
/-! ===== the class weighs: exact ===== -/
def WH (M : Mm) (L R : Nat) : Prop := gr M 5192 0 = some L ∧ gr M 5192 1 = some R ∧ gr M 5192 3 = some 5261 ∧ LR M L ∧ R % 64 = 3
def agr (y n : Int32) : Int32 := if n = 0 then (if y = 0 then -4 else 1) else (if y = 0 then 0 else -4)
/-- the heaviest of some words, of weights below k -/
def hvs (M : Mm) (L : Nat) (ws fw : Int32) : Nat → Int32
  | 0 => 0
  | k + 1 => if (ws &&& (gi M (L + 590) k ||| (if nI k = fw then 16777216 else 0))) = 0 then hvs M L ws fw k else ws &&& (gi M (L + 590) k ||| (if nI k = fw then 16777216 else 0))
def stl (M : Mm) (L R : Nat) (y n fw : Int32) : Int32 := if y = 0 ∨ n = 0 then agr y n else if gi M R 3 = 1 then (if y ≤ n then 0 else 1) else if gi M R 3 = 2 then agr (y &&& hvs M L (y ||| n) fw 7) (n &&& hvs M L (y ||| n) fw 7) else -4
def his (M : Mm) (L d : Nat) : Int32 := gi M (L + 460) d &&& gi M 5192 2
def opn (M : Mm) (L R d c : Nat) : Int32 := stl M L R (his M L d &&& gi M (L + 205) c) (his M L d &&& gi M (L + 269) c) 0
/-- what weighing may change -/
def WQ (M N : Mm) : Prop := gr N = gr M ∧ gl N = gl M ∧ (∀ a, ¬ (a = 5192 ∨ a = 5261) → gi N a = gi M a) ∧ gi N 5192 2 = gi M 5192 2
theorem wq_rf (M : Mm) : WQ M M := ⟨rfl, rfl, fun _ _ => rfl, rfl⟩
theorem wq_tr {M N O : Mm} (f : WQ M N) (g : WQ N O) : WQ M O := ⟨g.1.trans f.1, g.2.1.trans f.2.1, fun a h => (g.2.2.1 a h).trans (f.2.2.1 a h), g.2.2.2.trans f.2.2.2⟩
theorem wq_si {M : Mm} {a j : Nat} {v : Int32} (h : (a = 5192 ∧ j ≠ 2) ∨ a = 5261) : WQ M (si M a j v) := by
  refine ⟨rfl, rfl, fun b n => gi_ne (fun e => n (by omega)), ?_⟩
  rw [gi_si, if_neg (fun e => by omega)]
theorem wh_gr {M N : Mm} {L R : Nat} (w : WH M L R) (e : gr N = gr M) : WH N L R := ⟨by rw [e]; exact w.1, by rw [e]; exact w.2.1, by rw [e]; exact w.2.2.1, lr_gr w.2.2.2.1 e, w.2.2.2.2⟩
/-- a library lies away from what weighing changes -/
def LA (L : Nat) : Prop := L = 385 ∨ L = 2689
def RA (R : Nat) : Prop := R = 4995 ∨ R = 5059 ∨ R = 5123
section CW1
variable {M N : Mm} {L R : Nat}
theorem la_ne (h : LA L) {o : Nat} (ho : o < 2304) : ¬ (L + o = 5192 ∨ L + o = 5261) := by unfold LA at h; omega
theorem ra_ne (h : RA R) : ¬ (R = 5192 ∨ R = 5261) := by unfold RA at h; omega
theorem hvs_wq (f : WQ M N) (hL : LA L) (ws fw : Int32) : ∀ k, hvs N L ws fw k = hvs M L ws fw k
  | 0 => rfl
  | k + 1 => by rw [hvs, hvs, hvs_wq f hL ws fw k, f.2.2.1 (L + 590) (la_ne hL (by decide))]
theorem stl_wq (f : WQ M N) (hL : LA L) (hR : RA R) (y n fw : Int32) : stl N L R y n fw = stl M L R y n fw := by
  unfold stl; rw [hvs_wq f hL, f.2.2.1 R (ra_ne hR)]
theorem his_wq (f : WQ M N) (hL : LA L) (d : Nat) : his N L d = his M L d := by unfold his; rw [f.2.2.1 (L + 460) (la_ne hL (by decide)), f.2.2.2]
theorem opn_wq (f : WQ M N) (hL : LA L) (hR : RA R) (d c : Nat) : opn N L R d c = opn M L R d c := by
  unfold opn; rw [stl_wq f hL hR, his_wq f hL, f.2.2.1 (L + 205) (la_ne hL (by decide)), f.2.2.1 (L + 269) (la_ne hL (by decide))]
theorem sWe_heaviest {ws fw : Int32} {K : Int32 → Mm → Prop} (w : WH M L R) (h : K (hvs M L ws fw 7) M) : CI mWe_heaviest [.ref 5192, .int ws, .int fw] M K := by
  refine call_of rfl (Nat.le_of_ble_eq_true rfl) rfl (vWe_heaviest_0 ?_)
  have key : ∀ k, k ≤ 7 → K (hvs M L ws fw k) M → X mWe_heaviest 3 [(0, .ref 5192), (1, .int ws), (2, .int fw), (3, .int (nI k + (-1)))] [] M (mC mWe_heaviest, mS mWe_heaviest) (QI K) := by
    intro k
    induction k with
    | zero =>
      intro _ h
      have l : nI 0 + (-1) < 0 := by decide
      exact vWe_heaviest_3 rfl w.1 (lr9 w.2.2.2.1) ⟨fun q => absurd l q, fun _ => h, fun q => absurd l q.1, fun q => absurd l q.1⟩
    | succ k ih =>
      intro hk h
      have e : nI (k + 1) + (-1) = nI k := pk_m1 k
      rw [e]
      rw [hvs] at h
      have b28 : ∀ x, x = (if nI k = fw then 16777216 else 0) → X mWe_heaviest 28 [(0, .ref 5192), (1, .int ws), (2, .int fw), (3, .int (nI k))] [.int x, .int (gi M (L + 590) k), .int ws] M (mC mWe_heaviest, mS mWe_heaviest) (QI K) := by
        rintro x rfl
        refine vWe_heaviest_28 ⟨fun q => ?_, fun q => ?_⟩
        · rw [if_pos q] at h
          exact ih (by omega) h
        · rw [if_neg q] at h; exact h
      refine vWe_heaviest_3 rfl w.1 (lr9 w.2.2.2.1) ⟨fun _ => vin (by omega) (by decide), fun q => absurd q (n0 k (by omega)), fun q => ?_, fun q => ?_⟩
      · rw [ncl (by omega)]; exact b28 0 (by rw [if_neg q.2])
      · rw [ncl (by omega)]; exact b28 _ (by rw [if_pos q.2])
  exact key 7 (Nat.le_refl _) h
theorem sWe_settled {y n fw : Int32} {K : Int32 → Mm → Prop} (w : WH M L R) (h : K (stl M L R y n fw) M) : CI mWe_settled [.ref 5192, .int y, .int n, .int fw] M K := by
  unfold stl at h
  refine call_of rfl (Nat.le_of_ble_eq_true rfl) rfl (vWe_settled_0 rfl w.2.1 ⟨fun q => sC_agreed (vWe_settled_13 ?_), fun q => ?_, fun q => sWe_heaviest w (vWe_settled_55 (sC_agreed (vWe_settled_68 ?_))), fun q => ?_, fun q => ?_⟩)
  · rw [if_pos (q.imp id (fun q => q.2))] at h; exact h
  · rw [if_neg (fun z => z.elim q.1 q.2.1), if_neg q.2.2.1, if_neg q.2.2.2] at h; exact h
  · rw [if_neg (fun z => z.elim q.1 q.2.1), if_neg q.2.2.1, if_pos q.2.2.2] at h; exact h
  · rw [if_neg (fun z => z.elim q.1 q.2.1), if_pos q.2.2.1, if_pos q.2.2.2] at h; exact h
  · rw [if_neg (fun z => z.elim q.1 q.2.1), if_pos q.2.2.1, if_neg q.2.2.2] at h; exact h
theorem sWe_opinion {d c : Nat} {K : Int32 → Mm → Prop} (w : WH M L R) (hd : d < 8) (hc : c < 64) (h : K (opn M L R d c) M) : CI mWe_opinion [.ref 5192, .int (nI d), .int (nI c)] M K := by
  have l := w.2.2.2.1
  refine call_of rfl (Nat.le_of_ble_eq_true rfl) rfl (vWe_opinion_0 rfl w.1 (lr7 l) (lr3 l) (lr4 l) ⟨vin hd (by decide), vin hc (by decide), vin hc (by decide), ?_⟩)
  rw [ncl (show d < 2 ^ 31 by omega), ncl (show c < 2 ^ 31 by omega)]
  exact sWe_settled w (vWe_opinion_42 h)
def cls (M : Mm) (L d c : Nat) : Int32 := if (his M L d &&& gi M (L + 205) c) = 0 ∨ (his M L d &&& gi M (L + 269) c) = 0 then 0 else 1
theorem sWe_clashes {d c : Nat} {K : Int32 → Mm → Prop} (w : WH M L R) (hd : d < 8) (hc : c < 64) (h : K (cls M L d c) M) : CI mWe_clashes [.ref 5192, .int (nI d), .int (nI c)] M K := by
  have l := w.2.2.2.1
  have cd : (nI d).toNatClampNeg = d := ncl (by omega)
  have cc : (nI c).toNatClampNeg = c := ncl (by omega)
  unfold cls his at h
  refine call_of rfl (Nat.le_of_ble_eq_true rfl) rfl (vWe_clashes_0 rfl w.1 (lr7 l) (lr3 l) (lr4 l) ⟨vin hd (by decide), vin hc (by decide), fun _ => vin hc (by decide), fun q => ?_, fun q => ?_⟩)
  · rw [cd, cc] at q
    rw [if_pos (q.imp id (fun q => q.2))] at h; exact h
  · rw [cd, cc] at q
    rw [if_neg (fun z => z.elim q.1 q.2)] at h; exact h
def lwI (M : Mm) (L R c : Nat) : Int32 := if gi M R 6 = 0 then -4 else if gi M R 6 = 2 then gi M (L + 397) c else gi M (L + 333) c
theorem sWe_lawIn {c : Nat} {K : Int32 → Mm → Prop} (w : WH M L R) (hc : c < 64) (h : K (lwI M L R c) M) : CI mWe_lawIn [.ref 5192, .int (nI c)] M K := by
  have l := w.2.2.2.1
  have cc : (nI c).toNatClampNeg = c := ncl (by omega)
  unfold lwI at h
  refine call_of rfl (Nat.le_of_ble_eq_true rfl) rfl (vWe_lawIn_0 rfl w.2.1 w.1 (lr5 l) (lr6 l) ⟨fun _ => vin hc (by decide), fun _ => vin hc (by decide), fun q => ?_, fun q => ?_, fun q => ?_⟩)
  · rw [if_neg q.1, if_neg q.2] at h; rw [cc]; exact h
  · rw [if_neg q.1, if_pos q.2] at h; rw [cc]; exact h
  · rw [if_pos q] at h; exact h
/-- what the head says, by opinions o -/
def hds (hd : Int32) (o : Nat → Int32) : Int32 := if hd < 0 ∨ 8 ≤ hd then -4 else o hd.toNatClampNeg
theorem sWe_headSaying {K : Int32 → Mm → Prop} (w : WH M L R) (h : K (hds (gi M R 4) (gi M 5261)) M) : CI mWe_headSaying [.ref 5192] M K := by
  unfold hds at h
  refine call_of rfl (Nat.le_of_ble_eq_true rfl) rfl (vWe_headSaying_0 rfl w.2.1 w.2.2.1 ⟨fun q => ?_, fun q => ?_, fun q => ?_⟩)
  · obtain ⟨k, hk, ek⟩ := rng (c := 8) (n := 8) rfl (by decide) q.1 q.2
    rw [ek]; exact vin hk (by decide)
  · rw [if_pos (q.imp id (fun q => q.2))] at h; exact h
  · rw [if_neg (fun z => z.elim q.1 q.2)] at h; exact h
theorem sWe_decider {y n hd : Int32} {K : Int32 → Mm → Prop} (w : WH M L R) (h : K (byf (gi M 5192 5) y n hd (gi M R 5)) M) : CI mWe_decider [.ref 5192, .int y, .int n, .int hd] M K := by
  unfold byf at h
  refine call_of rfl (Nat.le_of_ble_eq_true rfl) rfl (vWe_decider_0 rfl w.2.1 ⟨fun q => ?_, fun q => ?_, fun q => ?_, fun q => ?_, fun q => ?_⟩)
  · rw [if_pos q.1, if_pos q.2.1, if_pos q.2.2.1, if_pos q.2.2.2] at h; exact h
  · rw [if_pos q.1, if_pos q.2.1, if_pos q.2.2.1, if_neg q.2.2.2] at h; exact h
  · rw [if_pos q.1, if_pos q.2.1, if_neg q.2.2] at h; exact h
  · rw [if_pos q.1, if_neg q.2] at h; exact h
  · rw [if_neg q] at h; exact h
def anb (b l y n hd si : Int32) : Int32 := if b = 1 then l else if b = 2 then (if y ≤ n then 0 else 1) else if b = 3 then hd else if b = 4 then si else -4
theorem sWe_answerBy {b y n hd : Int32} {K : Int32 → Mm → Prop} (w : WH M L R) (h : K (anb b (gi M 5192 5) y n hd (gi M R 5)) M) : CI mWe_answerBy [.ref 5192, .int b, .int y, .int n, .int hd] M K := by
  unfold anb at h
  refine call_of rfl (Nat.le_of_ble_eq_true rfl) rfl (vWe_answerBy_0 rfl w.2.1 ⟨fun q => ?_, fun q => ?_, fun q => ?_, fun q => ?_, fun q => ?_⟩)
  · rw [if_pos q] at h; exact h
  · subst q; exact h
  · subst q; exact h
  · subst q; exact h
  · rw [if_neg q.1, if_neg q.2.1, if_neg q.2.2.1, if_neg q.2.2.2] at h; exact h
/-- how many of the first k doctors say v -/
def ocn (o : Nat → Int32) (v : Int32) : Nat → Int32
  | 0 => 0
  | k + 1 => ocn o v k + (if o k = v then 1 else 0)
/-- what is weighed -/
def WV (M : Mm) (L R c : Nat) (N : Mm) : Prop := gi N 5192 4 = nI c ∧ gi N 5192 5 = lwI M L R c ∧ (∀ d, d < 8 → gi N 5261 d = opn M L R d c) ∧ gi N 5192 6 = ocn (fun d => opn M L R d c) 1 8 ∧ gi N 5192 7 = ocn (fun d => opn M L R d c) 0 8 ∧ gi N 5192 8 = byf (lwI M L R c) (ocn (fun d => opn M L R d c) 1 8) (ocn (fun d => opn M L R d c) 0 8) (hds (gi M R 4) (fun d => opn M L R d c)) (gi M R 5) ∧ gi N 5192 9 = anb (byf (lwI M L R c) (ocn (fun d => opn M L R d c) 1 8) (ocn (fun d => opn M L R d c) 0 8) (hds (gi M R 4) (fun d => opn M L R d c)) (gi M R 5)) (lwI M L R c) (ocn (fun d => opn M L R d c) 1 8) (ocn (fun d => opn M L R d c) 0 8) (hds (gi M R 4) (fun d => opn M L R d c)) (gi M R 5)
theorem g5 (M : Mm) (k i : Nat) (v : Int32) (h : i ≠ k) : gi (si M 5192 k v) 5192 i = gi M 5192 i := by rw [gi_si, if_neg (fun q => h q.2)]
theorem g5s (M : Mm) (k : Nat) (v : Int32) : gi (si M 5192 k v) 5192 k = v := by rw [gi_si, if_pos ⟨rfl, rfl⟩]
theorem hds_cg {hd : Int32} {o o' : Nat → Int32} (h : ∀ d, d < 8 → o d = o' d) : hds hd o = hds hd o' := by
  unfold hds
  by_cases q : hd < 0 ∨ 8 ≤ hd
  · rw [if_pos q, if_pos q]
  · rw [if_neg q, if_neg q]
    obtain ⟨k, hk, ek⟩ := rng (c := 8) (n := 8) rfl (by decide) (fun z => q (Or.inl z)) (fun z => q (Or.inr z))
    rw [ek, ncl (by omega)]; exact h k hk
theorem eWe_weigh {c : Nat} {K : Mm → Prop} (w : WH M L R) (hL : LA L) (hR : RA R) (hc : c < 64) (h : ∀ N, WQ M N → WV M L R c N → K N) : CV mWe_weigh [.ref 5192, .int (nI c)] M K := by
  have nR := ra_ne hR
  refine call_of rfl (Nat.le_of_ble_eq_true rfl) rfl (vWe_weigh_0 rfl ?_)
  have q0 : WQ M (si M 5192 4 (nI c)) := wq_si (Or.inl ⟨rfl, by decide⟩)
  have el : lwI (si M 5192 4 (nI c)) L R c = lwI M L R c := by
    unfold lwI; rw [q0.2.2.1 R nR, q0.2.2.1 (L + 397) (la_ne hL (by decide)), q0.2.2.1 (L + 333) (la_ne hL (by decide))]
  refine sWe_lawIn (wh_gr w q0.1) hc (vWe_weigh_11 rfl rfl ?_)
  rw [el]
  have q1 : WQ M (si (si (si (si M 5192 4 (nI c)) 5192 5 (lwI M L R c)) 5192 6 0) 5192 7 0) := wq_tr q0 (wq_tr (wq_si (Or.inl ⟨rfl, by decide⟩)) (wq_tr (wq_si (Or.inl ⟨rfl, by decide⟩)) (wq_si (Or.inl ⟨rfl, by decide⟩))))
  have key := lp 8 (P := fun d => ∀ N, WQ M N → gi N 5192 4 = nI c → gi N 5192 5 = lwI M L R c → (∀ e, e < d → gi N 5261 e = opn M L R e c) → gi N 5192 6 = ocn (fun d => opn M L R d c) 1 d → gi N 5192 7 = ocn (fun d => opn M L R d c) 0 d → X mWe_weigh 26 [(0, .ref 5192), (1, .int (nI c)), (2, .int (nI d))] [] N (mC mWe_weigh, mS mWe_weigh) (QV K)) (fun d hd ih N qN n4 n5 no n6 n7 => ?_) (fun N qN n4 n5 no n6 n7 => ?_)
  · refine key _ q1 ?_ ?_ (fun e he => absurd he (by omega)) ?_ ?_
    · rw [g5 _ _ _ _ (by decide), g5 _ _ _ _ (by decide), g5 _ _ _ _ (by decide), g5s]
    · rw [g5 _ _ _ _ (by decide), g5 _ _ _ _ (by decide), g5s]
    · rw [g5 _ _ _ _ (by decide), g5s]; rfl
    · rw [g5s]; rfl
  · have wN := wh_gr w qN.1
    refine vWe_weigh_26 rfl ⟨fun q => absurd q (nge rfl (by decide) hd), fun _ => sWe_opinion wN hd hc (vWe_weigh_38 rfl wN.2.2.1 ⟨vin hd (by decide), ?_⟩)⟩
    rw [opn_wq qN hL hR, ncl (by omega), nI_s]
    generalize eo : opn M L R d c = o
    have k : ∀ j, gi (si N 5261 d o) 5192 j = gi N 5192 j := fun j => by rw [giR _ _ _ _ _ _ (by decide)]
    rw [k, n6]
    have k7 : ∀ v, gi (si (si N 5261 d o) 5192 6 v) 5192 7 = gi N 5192 7 := fun v => by rw [g5 _ _ _ _ (by decide), k]
    rw [k7, n7]
    refine ih _ (wq_tr qN (wq_tr (wq_si (Or.inr rfl)) (wq_tr (wq_si (Or.inl ⟨rfl, by decide⟩)) (wq_si (Or.inl ⟨rfl, by decide⟩))))) ?_ ?_ (fun e he => ?_) ?_ ?_
    · rw [g5 _ _ _ _ (by decide), g5 _ _ _ _ (by decide), k, n4]
    · rw [g5 _ _ _ _ (by decide), g5 _ _ _ _ (by decide), k, n5]
    · rw [giR _ _ _ _ _ _ (by decide), giR _ _ _ _ _ _ (by decide), gi_si]
      by_cases z : e = d
      · rw [if_pos ⟨rfl, z⟩, z, eo]
      · rw [if_neg (fun y => z y.2)]; exact no e (by omega)
    · rw [g5 _ _ _ _ (by decide), g5s, ocn, eo]
    · rw [g5s, ocn, eo]
  · have wN := wh_gr w qN.1
    refine vWe_weigh_26 rfl ⟨fun _ => sWe_headSaying wN (vWe_weigh_93 rfl (sWe_decider wN (vWe_weigh_108 rfl rfl ?_))), fun q => absurd (nself rfl) q⟩
    rw [n5, n6, n7, qN.2.2.1 R nR, hds_cg (o' := fun d => opn M L R d c) no]
    generalize eb : byf (lwI M L R c) (ocn (fun d => opn M L R d c) 1 8) (ocn (fun d => opn M L R d c) 0 8) (hds (gi M R 4) (fun d => opn M L R d c)) (gi M R 5) = b
    rw [g5s, g5 _ _ _ _ (by decide), g5 _ _ _ _ (by decide), n6, n7]
    have wO : WH (si N 5192 8 b) L R := wh_gr wN rfl
    refine sWe_answerBy wO (vWe_weigh_129 rfl ?_)
    have qO : WQ M (si N 5192 8 b) := wq_tr qN (wq_si (Or.inl ⟨rfl, by decide⟩))
    rw [g5 _ _ _ _ (by decide), n5, qO.2.2.1 R nR]
    refine h _ (wq_tr qO (wq_si (Or.inl ⟨rfl, by decide⟩))) ⟨?_, ?_, fun d hd => ?_, ?_, ?_, ?_, ?_⟩
    · rw [g5 _ _ _ _ (by decide), g5 _ _ _ _ (by decide), n4]
    · rw [g5 _ _ _ _ (by decide), g5 _ _ _ _ (by decide), n5]
    · rw [giR _ _ _ _ _ _ (by decide), giR _ _ _ _ _ _ (by decide)]; exact no d hd
    · rw [g5 _ _ _ _ (by decide), g5 _ _ _ _ (by decide), n6]
    · rw [g5 _ _ _ _ (by decide), g5 _ _ _ _ (by decide), n7]
    · rw [g5 _ _ _ _ (by decide), g5s, eb]
    · rw [g5s, eb]
end CW1
end MG42
section MG43
/-! ===== the class: which words count; weighing begins; what follows from weighing ===== -/
section CW2
variable {M N : Mm} {L R : Nat}
def mwd (M : Mm) (L R : Nat) : Nat → Int32
  | 0 => 0
  | k + 1 => mwd M L R k ||| (if ((ushr (gi M R 0) (nI k)) &&& 1) = 1 then gi M (L + 460) k else 0)
theorem sLi_mainWords {K : Int32 → Mm → Prop} (hl : LR M L) (hR : R % 64 = 3) (h : K (mwd M L R 8) M) : CI mLi_mainWords [.ref L, .ref R] M K := by
  refine call_of rfl (Nat.le_of_ble_eq_true rfl) rfl (vLi_mainWords_0 ?_)
  have key := lp 8 (P := fun k => X mLi_mainWords 4 [(0, .ref L), (1, .ref R), (2, .int (mwd M L R k)), (3, .int (nI k))] [] M (mC mLi_mainWords, mS mLi_mainWords) (QI K)) (fun k hk ih => ?_) ?_
  · exact key
  · refine vLi_mainWords_4 hR ⟨fun q => absurd q (nge rfl (by decide) hk), fun _ => sRu_isMain hR (vLi_mainWords_16 hl.1 (lr7 hl) ⟨fun _ => vin hk (by decide), ?_⟩)⟩
    rw [mwd] at ih
    rw [ncl (by omega), nI_s]
    by_cases c : ((ushr (gi M R 0) (nI k)) &&& 1) = 1
    · rw [if_pos c] at ih
      rw [if_pos c, if_neg (by decide)]; exact ih
    · rw [if_neg c] at ih
      rw [if_neg c, if_pos rfl]; exact ih
  · exact vLi_mainWords_4 hR ⟨fun _ => h, fun q => absurd (nself rfl) q⟩
def cto (M : Mm) (L R : Nat) (b : Int32) : Nat → Int32
  | 0 => mwd M L R 8
  | k + 1 => if ((ushr b (nI k)) &&& 1) = 1 ∧ ¬ gi M (L + 140) k < gi M R 1 then cto M L R b k ||| gi M (L + 524) k else cto M L R b k
def ctg (M : Mm) (L R : Nat) (b : Int32) : Int32 := (cto M L R b 8 &&& (gi M L 10 ^^^ (-1))) &&& (if gi M R 2 = 0 then gi M L 11 ^^^ (-1) else -1)
theorem sLi_counting {b : Int32} {K : Int32 → Mm → Prop} (hl : LR M L) (hR : R % 64 = 3) (h : K (ctg M L R b) M) : CI mLi_counting [.ref L, .ref R, .int b] M K := by
  refine call_of rfl (Nat.le_of_ble_eq_true rfl) rfl (vLi_counting_0 hl.1 (sLi_mainWords hl hR (vLi_counting_5 ?_)))
  have key := lp 8 (P := fun k => X mLi_counting 9 [(0, .ref L), (1, .ref R), (2, .int b), (3, .int (cto M L R b k)), (4, .int (nI k))] [] M (mC mLi_counting, mS mLi_counting) (QI K)) (fun k hk ih => ?_) ?_
  · exact key
  · have ck : (nI k).toNatClampNeg = k := ncl (by omega)
    have nk : ¬ (8 : Int32) ≤ nI k := nge rfl (by decide) hk
    rw [cto] at ih
    refine vLi_counting_9 hl.1 hR ⟨fun q => absurd q.1 nk, fun q => absurd q.1 nk, fun _ => sC_holds (vLi_counting_22 hl.1 hR (lr2 hl) (lr8 hl) ⟨fun _ => vin hk (by decide), fun _ => vin hk (by decide), fun q => ?_, fun q => ?_⟩)⟩
    · rw [ck] at q
      have c : ¬ (((ushr b (nI k)) &&& 1) = 1 ∧ ¬ gi M (L + 140) k < gi M R 1) := by
        rintro ⟨a, e⟩
        rcases q with q | q
        · rw [if_pos a] at q; exact absurd q (by decide)
        · exact e q.2
      rw [if_neg c] at ih
      rw [nI_s]; exact ih
    · rw [ck] at q ⊢
      have c : ((ushr b (nI k)) &&& 1) = 1 := by
        by_cases z : ((ushr b (nI k)) &&& 1) = 1
        · exact z
        · rw [if_neg z] at q; exact absurd rfl q.1
      rw [if_pos ⟨c, q.2⟩] at ih
      rw [nI_s]; exact ih
  · unfold ctg at h
    refine vLi_counting_9 hl.1 hR ⟨fun q => ?_, fun q => ?_, fun q => absurd (nself rfl) q⟩
    · rw [if_pos q.2] at h; exact h
    · rw [if_neg q.2] at h; exact h
theorem lS_tellingBooks {K : Int32 → Mm → Prop} (hl : LR M L) (hR : R % 64 = 3) (h : ∀ v, K v M) : CI mLi_tellingBooks [.ref L, .ref R] M K := by
  refine call_of rfl (Nat.le_of_ble_eq_true rfl) rfl (vLi_tellingBooks_0 hl.1 (sLi_mainWords hl hR (vLi_tellingBooks_5 hl.1 ?_)))
  refine lp 8 (P := fun k => ∀ x y, X mLi_tellingBooks 18 [(0, .ref L), (1, .ref R), (2, .int x), (3, .int y), (4, .int (nI k))] [] M (mC mLi_tellingBooks, mS mLi_tellingBooks) (QI K)) (fun k hk ih x y => ?_) (fun x y => ?_) _ _
  · have nk : ¬ (8 : Int32) ≤ nI k := nge rfl (by decide) hk
    refine vLi_tellingBooks_18 hl.1 hR (lr2 hl) (lr8 hl) ⟨fun _ => vin hk (by decide), fun _ => vin hk (by decide), fun q => absurd q nk, fun _ => ?_, fun _ => ?_⟩
    · rw [nI_s]; exact ih _ _
    · rw [nI_s]; exact ih _ _
  · have l : (8 : Int32) ≤ nI 8 := nself rfl
    refine vLi_tellingBooks_18 hl.1 hR (lr2 hl) (lr8 hl) ⟨fun q => absurd l q, fun q => absurd l q.1, fun _ => h _, fun q => ?_, fun q => absurd l q.1⟩
    exfalso
    rcases q with q | q <;> exact q.1 l
end CW2
/-- what a query of the class may change -/
def CQ (M N : Mm) : Prop := gl N = gl M ∧ (∀ a j, ¬ (a = 5192 ∧ j < 2) → gr N a j = gr M a j) ∧ ∀ a, ¬ (a = 5192 ∨ a = 5261 ∨ a = 5392) → gi N a = gi M a
theorem cq_rf (M : Mm) : CQ M M := ⟨rfl, fun _ _ _ => rfl, fun _ _ => rfl⟩
theorem cq_tr {M N O : Mm} (f : CQ M N) (g : CQ N O) : CQ M O := ⟨g.1.trans f.1, fun a j h => (g.2.1 a j h).trans (f.2.1 a j h), fun a h => (g.2.2 a h).trans (f.2.2 a h)⟩
theorem cq_wq {M N : Mm} (f : WQ M N) : CQ M N := ⟨f.2.1, fun a j _ => by rw [f.1], fun a h => f.2.2.1 a (fun e => h (by omega))⟩
/-- weighing has begun, with some books -/
def bgn (M : Mm) (L R : Nat) (b : Int32) : Mm := si (sr (sr M 5192 0 (some L)) 5192 1 (some R)) 5192 2 (ctg M L R b)
theorem gr_bgn (M : Mm) (L R : Nat) (b : Int32) (a j : Nat) (h : ¬ (a = 5192 ∧ j < 2)) : gr (bgn M L R b) a j = gr M a j := by
  show gr (sr (sr M 5192 0 (some L)) 5192 1 (some R)) a j = _
  rw [gr_sr, if_neg (fun e => h (by omega)), gr_sr, if_neg (fun e => h (by omega))]
theorem cq_bgn (M : Mm) (L R : Nat) (b : Int32) : CQ M (bgn M L R b) := by
  refine ⟨rfl, fun a j h => gr_bgn M L R b a j h, fun a h => ?_⟩
  unfold bgn
  rw [gi_ne (fun e => h (Or.inl e))]; rfl
theorem lr_cq {M N : Mm} {L : Nat} (hL : LA L) (f : CQ M N) (h : LR M L) : LR N L := by
  refine ⟨h.1, fun q hq => ?_, fun w hw => ?_⟩
  · rw [f.2.1 L q.1 (fun e => by unfold LA at hL; omega)]; exact h.2.1 q hq
  · rw [f.2.1 (L + 81) w (fun e => by unfold LA at hL; omega)]; exact h.2.2 w hw
theorem wh_bgn {M : Mm} {L R : Nat} (b : Int32) (hl : LR M L) (hL : LA L) (hR : RA R) (h3 : gr M 5192 3 = some 5261) : WH (bgn M L R b) L R := by
  refine ⟨?_, ?_, ?_, lr_cq hL (cq_bgn M L R b) hl, by unfold RA at hR; omega⟩
  · show gr (sr (sr M 5192 0 (some L)) 5192 1 (some R)) 5192 0 = _
    rw [gr_sr, if_neg (by decide), gr_sr, if_pos ⟨rfl, rfl⟩]
  · show gr (sr (sr M 5192 0 (some L)) 5192 1 (some R)) 5192 1 = _
    rw [gr_sr, if_pos ⟨rfl, rfl⟩]
  · rw [gr_bgn _ _ _ _ _ _ (by decide)]; exact h3
theorem sWe_begin {M : Mm} {L R : Nat} {b : Int32} {K : Mm → Prop} (hl : LR M L) (hL : LA L) (hR : RA R) (h : K (bgn M L R b)) : CV mWe_begin [.ref 5192, .ref L, .ref R, .int b] M K := by
  have h3 : R % 64 = 3 := by unfold RA at hR; omega
  refine call_of rfl (Nat.le_of_ble_eq_true rfl) rfl (vWe_begin_0 rfl hl.1 h3 ?_)
  have l2 : LR (sr (sr M 5192 0 (some L)) 5192 1 (some R)) L := by
    refine lr_cq (M := M) hL ⟨rfl, fun a j n => ?_, fun _ _ => rfl⟩ hl
    rw [gr_sr, if_neg (fun e => n (by omega)), gr_sr, if_neg (fun e => n (by omega))]
  refine sLi_counting l2 h3 (vWe_begin_17 rfl ?_)
  have e : ctg (sr (sr M 5192 0 (some L)) 5192 1 (some R)) L R b = ctg M L R b := by
    have m : ∀ k, mwd (sr (sr M 5192 0 (some L)) 5192 1 (some R)) L R k = mwd M L R k := by
      intro k
      induction k with
      | zero => rfl
      | succ k ih => rw [mwd, mwd, ih]; rfl
    have c : ∀ k, cto (sr (sr M 5192 0 (some L)) 5192 1 (some R)) L R b k = cto M L R b k := by
      intro k
      induction k with
      | zero => exact m 8
      | succ k ih => rw [cto, cto, ih]; rfl
    unfold ctg
    rw [c 8]; rfl
  rw [e]; exact h
section CW3
variable {M N : Mm} {L R : Nat}
/-- what is held, by what, how many -/
def ysC (M : Mm) (L R c : Nat) : Int32 := ocn (fun d => opn M L R d c) 1 8
def nsC (M : Mm) (L R c : Nat) : Int32 := ocn (fun d => opn M L R d c) 0 8
def byC (M : Mm) (L R c : Nat) : Int32 := byf (lwI M L R c) (ysC M L R c) (nsC M L R c) (hds (gi M R 4) (fun d => opn M L R d c)) (gi M R 5)
def heC (M : Mm) (L R c : Nat) : Int32 := anb (byC M L R c) (lwI M L R c) (ysC M L R c) (nsC M L R c) (hds (gi M R 4) (fun d => opn M L R d c)) (gi M R 5)
theorem lwI_wq (f : WQ M N) (hL : LA L) (hR : RA R) (c : Nat) : lwI N L R c = lwI M L R c := by
  unfold lwI; rw [f.2.2.1 R (ra_ne hR), f.2.2.1 (L + 397) (la_ne hL (by decide)), f.2.2.1 (L + 333) (la_ne hL (by decide))]
theorem opf_wq (f : WQ M N) (hL : LA L) (hR : RA R) (c : Nat) : (fun d => opn N L R d c) = fun d => opn M L R d c := funext fun d => opn_wq f hL hR d c
theorem ysC_wq (f : WQ M N) (hL : LA L) (hR : RA R) (c : Nat) : ysC N L R c = ysC M L R c := by unfold ysC; rw [opf_wq f hL hR]
theorem nsC_wq (f : WQ M N) (hL : LA L) (hR : RA R) (c : Nat) : nsC N L R c = nsC M L R c := by unfold nsC; rw [opf_wq f hL hR]
theorem byC_wq (f : WQ M N) (hL : LA L) (hR : RA R) (c : Nat) : byC N L R c = byC M L R c := by
  unfold byC; rw [lwI_wq f hL hR, ysC_wq f hL hR, nsC_wq f hL hR, opf_wq f hL hR, f.2.2.1 R (ra_ne hR)]
theorem heC_wq (f : WQ M N) (hL : LA L) (hR : RA R) (c : Nat) : heC N L R c = heC M L R c := by
  unfold heC; rw [byC_wq f hL hR, lwI_wq f hL hR, ysC_wq f hL hR, nsC_wq f hL hR, opf_wq f hL hR, f.2.2.1 R (ra_ne hR)]
theorem eWe_heldIn {c : Nat} {K : Int32 → Mm → Prop} (w : WH M L R) (hL : LA L) (hR : RA R) (hc : c < 64) (h : ∀ N, WQ M N → WV M L R c N → K (heC M L R c) N) : CI mWe_heldIn [.ref 5192, .int (nI c)] M K := by
  refine call_of rfl (Nat.le_of_ble_eq_true rfl) rfl (vWe_heldIn_0 rfl (eWe_weigh w hL hR hc (fun N qN vN => vWe_heldIn_5 rfl ?_)))
  have e : gi N 5192 9 = heC M L R c := vN.2.2.2.2.2.2
  rw [e]; exact h N qN vN
def csK (M : Mm) (L R : Nat) (v : Int32) (c : Nat) : Int32 := if v < 10 then (if heC M L R c = 1 then 0 else (if heC M L R c = 0 then 1 else 2)) else 10 + byC M L R c
def csO (M : Mm) (L R : Nat) (v : Int32) : Nat → Int64
  | 0 => 0
  | c + 1 => csO M L R v c ||| (if csK M L R v c = v then ((1 : Int64) <<< ((nI c).toInt64 &&& 63)) else 0)
theorem eWe_casesOf {v : Int32} {K : Int64 → Mm → Prop} (w : WH M L R) (hL : LA L) (hR : RA R) (h : ∀ N, WQ M N → K (csO M L R v 64) N) : CJ mWe_casesOf [.ref 5192, .int v] M K := by
  refine call_of rfl (Nat.le_of_ble_eq_true rfl) rfl (vWe_casesOf_0 ?_)
  have key := lp 64 (P := fun c => ∀ N, WQ M N → X mWe_casesOf 5 [(0, .ref 5192), (1, .int v), (2, .long (csO M L R v c)), (4, .int (nI c))] [] N (mC mWe_casesOf, mS mWe_casesOf) (QJ K)) (fun c hc ih N qN => ?_) (fun N qN => ?_)
  · exact key M (wq_rf M)
  · refine vWe_casesOf_5 rfl ⟨fun q => absurd q (nge rfl (by decide) hc), fun _ => eWe_weigh (wh_gr w qN.1) hL hR hc (fun O qO vO => vWe_casesOf_18 rfl ?_)⟩
    have e9 : gi O 5192 9 = heC M L R c := (show gi O 5192 9 = heC N L R c from vO.2.2.2.2.2.2).trans (heC_wq qN hL hR c)
    have e8 : gi O 5192 8 = byC M L R c := (show gi O 5192 8 = byC N L R c from vO.2.2.2.2.2.1).trans (byC_wq qN hL hR c)
    have := ih O (wq_tr qN qO)
    rw [csO] at this
    rw [e9, e8, nI_s]; exact this
  · exact vWe_casesOf_5 rfl ⟨fun _ => h N qN, fun q => absurd (nself rfl) q⟩
theorem lWe_heldIf {d : Nat} {o : Int32} {K : Int32 → Mm → Prop} (w : WH M L R) (hd : d < 8) (h : ∀ v, K v M) : CI mWe_heldIf [.ref 5192, .int (nI d), .int o] M K := by
  have b82 : ∀ x y z, X mWe_heldIf 82 [(0, .ref 5192), (3, .int x), (4, .int y)] [.int z] M (mC mWe_heldIf, mS mWe_heldIf) (QI K) := fun x y z => vWe_heldIf_82 rfl (sWe_decider w (vWe_heldIf_94 rfl (sWe_answerBy w (vWe_heldIf_102 (h _)))))
  exact call_of rfl (Nat.le_of_ble_eq_true rfl) rfl (vWe_heldIf_0 rfl w.2.2.1 w.2.1 ⟨vin hd (by decide), vin hd (by decide), fun _ => sWe_headSaying w (b82 _ _ _), fun _ => b82 _ _ _⟩)
theorem lWe_turnsBy {d c : Nat} {a fw : Int32} {K : Int32 → Mm → Prop} (w : WH M L R) (hd : d < 8) (hc : c < 64) (hw : gi M 5192 4 = nI c) (h : ∀ v, K v M) : CI mWe_turnsBy [.ref 5192, .int (nI d), .int a, .int fw] M K := by
  have l := w.2.2.2.1
  refine call_of rfl (Nat.le_of_ble_eq_true rfl) rfl (vWe_turnsBy_0 rfl w.1 (lr7 l) (lr3 l) (lr4 l) ?_)
  rw [hw]
  exact ⟨vin hd (by decide), vin hc (by decide), vin hc (by decide), sWe_settled w (vWe_turnsBy_82 rfl w.2.2.1 ⟨vin hd (by decide), fun _ => h _, fun _ => lWe_heldIf w hd (fun v => vWe_turnsBy_102 rfl ⟨fun _ => h _, fun _ => h _⟩)⟩)⟩
end CW3
/-- what tallying may change -/
def TQ (M N : Mm) : Prop := gr N = gr M ∧ gl N = gl M ∧ ∀ a, a ≠ 5392 → gi N a = gi M a
theorem tq_rf (M : Mm) : TQ M M := ⟨rfl, rfl, fun _ _ => rfl⟩
theorem tq_tr {M N O : Mm} (f : TQ M N) (g : TQ N O) : TQ M O := ⟨g.1.trans f.1, g.2.1.trans f.2.1, fun a h => (g.2.2 a h).trans (f.2.2 a h)⟩
section CW4
variable {M N : Mm} {L R : Nat}
theorem lFi_tally {d c : Nat} {a : Nat} {K : Mm → Prop} (w : WH M L R) (g0 : gr M 5312 0 = some 5192) (g1 : gr M 5312 1 = some 5392) (hd : d < 8) (ha : a < 2) (hc : c < 64) (hw : gi M 5192 4 = nI c) (h : ∀ N, TQ M N → K N) : CV mFi_tally [.ref 5312, .int (nI d), .int (nI a)] M K := by
  refine call_of rfl (Nat.le_of_ble_eq_true rfl) rfl (vFi_tally_0 rfl g0 ?_)
  rw [hw]
  have b57 : ∀ x, X mFi_tally 57 [(0, .ref 5312), (1, .int (nI d)), (2, .int (nI a)), (3, .int (nI c)), (4, .int x), (5, .int 0)] [] M (mC mFi_tally, mS mFi_tally) (QV K) := by
    intro x
    refine lp (c + 1) (P := fun m => ∀ N, TQ M N → X mFi_tally 57 [(0, .ref 5312), (1, .int (nI d)), (2, .int (nI a)), (3, .int (nI c)), (4, .int x), (5, .int (nI m))] [] N (mC mFi_tally, mS mFi_tally) (QV K)) (fun m hm ih N qN => ?_) (fun N qN => ?_) M (tq_rf M)
    · have ex : (((nI d * 2) + nI a) * 64) + nI m = nI ((d * 2 + a) * 64 + m) := by
        rw [show (2 : Int32) = nI 2 from rfl, show (64 : Int32) = nI 64 from rfl, pk_mul, nadd, pk_mul, nadd]
      refine vFi_tally_57 ⟨fun _ => h N qN, fun _ => ?_, fun _ => sJi_bitCount (fun v _ => vFi_tally_84 (sC_holds (vFi_tally_87 rfl (by rw [qN.1]; exact g1) ⟨fun _ => ?_, fun _ => ?_, fun _ => ⟨?_, ?_⟩⟩)))⟩
      · rw [nI_s]; exact ih N qN
      · rw [ex]; exact vin (by omega) (by decide)
      · rw [nI_s]; exact ih N qN
      · rw [ex]; exact vin (by omega) (by decide)
      · rw [nI_s]; exact ih _ (tq_tr qN ⟨rfl, rfl, fun b n => gi_ne n⟩)
    · have l : nI c < nI (c + 1) := (nlt (by omega) (by omega)).mpr (by omega)
      exact vFi_tally_57 ⟨fun _ => h N qN, fun q => absurd l q.1, fun q => absurd l q.1⟩
  refine lp 7 (P := fun k => ∀ x, X mFi_tally 14 [(0, .ref 5312), (1, .int (nI d)), (2, .int (nI a)), (3, .int (nI c)), (4, .int x), (5, .int (nI k))] [] M (mC mFi_tally, mS mFi_tally) (QV K)) (fun k hk ih x => ?_) (fun x => ?_) _
  · have nk : ¬ (6 : Int32) < nI k := by rw [show (6 : Int32) = nI 6 from rfl, nlt (by omega) (by decide)]; omega
    refine vFi_tally_14 rfl g0 ⟨fun q => absurd q nk, fun _ => lWe_turnsBy w hd hc hw (fun v => vFi_tally_34 ?_)⟩
    rw [nI_s]; exact ih _
  · exact vFi_tally_14 rfl g0 ⟨fun _ => b57 _, fun q => absurd (by decide) q⟩
theorem lFi_tallyDoctors {c : Nat} {K : Mm → Prop} (w : WH M L R) (g0 : gr M 5312 0 = some 5192) (g1 : gr M 5312 1 = some 5392) (hc : c < 64) (hw : gi M 5192 4 = nI c) (h : ∀ N, TQ M N → K N) : CV mFi_tallyDoctors [.ref 5312] M K := by
  refine call_of rfl (Nat.le_of_ble_eq_true rfl) rfl (vFi_tallyDoctors_0 ?_)
  refine lp 8 (P := fun d => ∀ N, TQ M N → X mFi_tallyDoctors 2 [(0, .ref 5312), (1, .int (nI d))] [] N (mC mFi_tallyDoctors, mS mFi_tallyDoctors) (QV K)) (fun d hd ih N qN => ?_) (fun N qN => ?_) M (tq_rf M)
  · have wN := wh_gr w qN.1
    have e0 : gr N 5312 0 = some 5192 := by rw [qN.1]; exact g0
    have e1 : gr N 5312 1 = some 5392 := by rw [qN.1]; exact g1
    refine vFi_tallyDoctors_2 rfl e0 wN.2.1 ⟨fun q => absurd q (nge rfl (by decide) hd), fun _ => sRu_isMain wN.2.2.2.2 (vFi_tallyDoctors_19 rfl ⟨fun _ => ?_, fun _ => lFi_tally (a := 0) wN e0 e1 hd (by decide) hc (by rw [qN.2.2 5192 (by decide)]; exact hw) (fun O qO => vFi_tallyDoctors_28 rfl ?_)⟩)⟩
    · rw [nI_s]; exact ih N qN
    · have qMO := tq_tr qN qO
      refine lFi_tally (a := 1) (wh_gr w qMO.1) (by rw [qMO.1]; exact g0) (by rw [qMO.1]; exact g1) hd (by decide) hc (by rw [qMO.2.2 5192 (by decide)]; exact hw) (fun P qP => vFi_tallyDoctors_34 ?_)
      rw [nI_s]; exact ih P (tq_tr qMO qP)
  · have wN := wh_gr w qN.1
    exact vFi_tallyDoctors_2 rfl (by rw [qN.1]; exact g0) wN.2.1 ⟨fun _ => h N qN, fun q => absurd (nself rfl) q⟩
/-- what the search for the best may change -/
def BQ (M N : Mm) : Prop := gr N = gr M ∧ gl N = gl M ∧ (∀ a, ¬ (a = 5192 ∨ a = 5261 ∨ a = 5392) → gi N a = gi M a)
theorem bq_tr {M N O : Mm} (f : BQ M N) (g : BQ N O) : BQ M O := ⟨g.1.trans f.1, g.2.1.trans f.2.1, fun a h => (g.2.2 a h).trans (f.2.2 a h)⟩
theorem bq_wq {M N : Mm} (f : WQ M N) : BQ M N := ⟨f.1, f.2.1, fun a h => f.2.2.1 a (fun e => h (by omega))⟩
theorem bq_tq {M N : Mm} (f : TQ M N) : BQ M N := ⟨f.1, f.2.1, fun a h => f.2.2 a (fun e => h (by omega))⟩
theorem cq_bq {M N : Mm} (f : BQ M N) : CQ M N := ⟨f.2.1, fun a j _ => by rw [f.1], f.2.2⟩
theorem lFi_best {K : Int32 → Mm → Prop} (w : WH M L R) (hL : LA L) (hR : RA R) (g0 : gr M 5312 0 = some 5192) (g1 : gr M 5312 1 = some 5392) (h : ∀ v N, BQ M N → (v < 0 ∨ ∃ i, i < 1024 ∧ v = nI i) → K v N) : CI mFi_best [.ref 5312] M K := by
  refine call_of rfl (Nat.le_of_ble_eq_true rfl) rfl (vFi_best_0 rfl g1 (sJr_fill (kk := 16) (nn := 1024) rfl ak_16 (by decide) (vFi_best_8 ?_)))
  have s0 : BQ M (fl M 5392 1024 0) := ⟨rfl, rfl, fun a n => by funext k; rw [flR _ _ _ _ _ _ (fun e => n (by omega))]⟩
  have b50 : ∀ N, BQ M N → X mFi_best 50 [(0, .ref 5312), (1, .int (-1)), (2, .int 0)] [] N (mC mFi_best, mS mFi_best) (QI K) := by
    intro N qN
    have wN := wh_gr w qN.1
    have e0 : gr N 5312 0 = some 5192 := by rw [qN.1]; exact g0
    have e1 : gr N 5312 1 = some 5392 := by rw [qN.1]; exact g1
    refine lp 1024 (P := fun i => ∀ v, (v < 0 ∨ ∃ i, i < 1024 ∧ v = nI i) → X mFi_best 50 [(0, .ref 5312), (1, .int v), (2, .int (nI i))] [] N (mC mFi_best, mS mFi_best) (QI K)) (fun i hi ih v hv => ?_) (fun v hv => ?_) _ (Or.inl (by decide))
    · refine vFi_best_50 rfl e1 e0 wN.2.1 ⟨fun q => absurd q (nge rfl (by decide) hi), fun _ => call_of rfl (Nat.le_of_ble_eq_true rfl) rfl (vFi_doctorAt_0 (vFi_best_70 wN.2.2.2.2 (sRu_isMain wN.2.2.2.2 (vFi_best_73 rfl e1 ⟨fun _ => vin hi (by decide), fun q => ?_, fun _ => ?_, fun _ => ?_⟩))))⟩
      · obtain ⟨j, hj, ej⟩ := hv.resolve_left q.2
        rw [ej]; exact vin hj (by decide)
      · rw [nI_s]; exact ih v hv
      · rw [nI_s]; exact ih _ (Or.inr ⟨i, hi, rfl⟩)
    · exact vFi_best_50 rfl e1 e0 wN.2.1 ⟨fun _ => h v N qN hv, fun q => absurd (nself rfl) q⟩
  refine lp 64 (P := fun c => ∀ N, BQ M N → X mFi_best 10 [(0, .ref 5312), (1, .int (nI c))] [] N (mC mFi_best, mS mFi_best) (QI K)) (fun c hc ih N qN => ?_) (fun N qN => ?_) _ s0
  · have wN := wh_gr w qN.1
    have e0 : gr N 5312 0 = some 5192 := by rw [qN.1]; exact g0
    refine vFi_best_10 rfl e0 ⟨fun q => absurd q (nge rfl (by decide) hc), fun _ => eWe_weigh wN hL hR hc (fun O qO vO => ?_)⟩
    have qMO := bq_tr qN (bq_wq qO)
    have o0 : gr O 5312 0 = some 5192 := by rw [qMO.1]; exact g0
    have o1 : gr O 5312 1 = some 5392 := by rw [qMO.1]; exact g1
    refine vFi_best_24 rfl o0 ⟨fun _ => ?_, fun _ => lFi_tallyDoctors (wh_gr w qMO.1) o0 o1 hc vO.1 (fun P qP => vFi_best_40 ?_)⟩
    · rw [nI_s]; exact ih O qMO
    · rw [nI_s]; exact ih P (bq_tr qMO (bq_tq qP))
  · exact vFi_best_10 rfl (by rw [qN.1]; exact g0) ⟨fun _ => b50 N qN, fun q => absurd (nself rfl) q⟩
end CW4
end MG43
section MG44
/-! ===== the class as it lies between calls; its queries come to an end and change nothing but what weighing uses ===== -/
def cgt : List (Nat × Nat × Nat) := [(10, 0, 70), (10, 1, 199), (10, 2, 258), (10, 3, 324), (10, 11, 5192), (10, 12, 5312), (10, 13, 5459), (70, 0, 145), (199, 0, 70), (258, 0, 199), (324, 0, 199), (5192, 3, 5261), (5312, 0, 5192), (5312, 1, 5392), (5459, 0, 5509), (5459, 1, 5637), (5459, 2, 5765), (5459, 3, 5893), (5509, 0, 5588), (5637, 0, 5716), (5765, 0, 5844), (5893, 0, 5972)]
def CX (M : Mm) (L P R S U : Nat) : Prop := (∀ q ∈ cgt, gr M q.1 q.2.1 = some q.2.2) ∧ (gr M 10 4 = some L ∧ gr M 10 5 = some P ∧ gr M 10 6 = some R ∧ gr M 10 7 = some S ∧ gr M 10 8 = some U) ∧ (LA L ∧ LA P ∧ RA R ∧ RA S ∧ RA U) ∧ (LR M L ∧ LR M P) ∧ (L ≠ P ∧ R ≠ S ∧ R ≠ U ∧ S ≠ U)
section CX1
variable {M N : Mm} {L P R S U : Nat}
theorem cxg (c : CX M L P R S U) (q : Nat × Nat × Nat) (h : q ∈ cgt) : gr M q.1 q.2.1 = some q.2.2 := c.1 q h
theorem cx_gr (c : CX M L P R S U) (f : ∀ a j, ¬ (a = 5192 ∧ j < 2) → gr N a j = gr M a j) : CX N L P R S U := by
  obtain ⟨c1, ⟨c2, c3, c4, c5, c6⟩, c7, ⟨c8, c9⟩, c10⟩ := c
  have n5 : ∀ q ∈ cgt, ¬ (q.1 = 5192 ∧ q.2.1 < 2) := by decide
  have lr : ∀ {L}, LA L → LR M L → LR N L := fun {L} hL h => by
    refine ⟨h.1, fun q hq => ?_, fun w hw => ?_⟩
    · rw [f L q.1 (fun e => by unfold LA at hL; omega)]; exact h.2.1 q hq
    · rw [f (L + 81) w (fun e => by unfold LA at hL; omega)]; exact h.2.2 w hw
  refine ⟨fun q hq => (f _ _ (n5 q hq)).trans (c1 q hq), ⟨?_, ?_, ?_, ?_, ?_⟩, c7, ⟨lr c7.1 c8, lr c7.2.1 c9⟩, c10⟩
  · rw [f _ _ (by decide)]; exact c2
  · rw [f _ _ (by decide)]; exact c3
  · rw [f _ _ (by decide)]; exact c4
  · rw [f _ _ (by decide)]; exact c5
  · rw [f _ _ (by decide)]; exact c6
theorem cx_cq (f : CQ M N) (c : CX M L P R S U) : CX N L P R S U := cx_gr c f.2.1
theorem cx11 (c : CX M L P R S U) : gr M 10 11 = some 5192 := cxg c (10, 11, 5192) (by decide)
theorem cx4 (c : CX M L P R S U) : gr M 10 4 = some L := c.2.1.1
theorem cx6 (c : CX M L P R S U) : gr M 10 6 = some R := c.2.1.2.2.1
theorem cxlr (c : CX M L P R S U) : LR M L := c.2.2.2.1.1
theorem cxL (c : CX M L P R S U) : LA L := c.2.2.1.1
theorem cxR (c : CX M L P R S U) : RA R := c.2.2.1.2.2.1
theorem raM3 {R : Nat} (h : RA R) : R % 64 = 3 := by unfold RA at h; omega
theorem cxw (c : CX M L P R S U) (b : Int32) : WH (bgn M L R b) L R := wh_bgn b (cxlr c) (cxL c) (cxR c) (cxg c (5192, 3, 5261) (by decide))
theorem lC_weighNow {K : Mm → Prop} (c : CX M L P R S U) (h : K (bgn M L R (gi M 10 9))) : CV mC_weighNow [.ref 10] M K :=
  call_of rfl (Nat.le_of_ble_eq_true rfl) rfl (vC_weighNow_0 rfl (cx11 c) (cx4 c) (cx6 c) (sWe_begin (cxlr c) (cxL c) (cxR c) (vC_weighNow_19 h)))
theorem lC_manyOrLeast {v : Int64} {w : Int32} {K : Int32 → Mm → Prop} (h : ∀ r, K r M) : CI mC_manyOrLeast [.long v, .int w] M K :=
  call_of rfl (Nat.le_of_ble_eq_true rfl) rfl (vC_manyOrLeast_0 ⟨fun _ => call_of rfl (Nat.le_of_ble_eq_true rfl) rfl (vC_least_0 ⟨fun _ => sJl_ntz (vC_least_15 (vC_manyOrLeast_15 (h _))), fun _ => vC_manyOrLeast_15 (h _)⟩), fun _ => sJl_bitCount (fun _ _ => vC_manyOrLeast_8 (h _))⟩)
theorem lC_least {v : Int64} {K : Int32 → Mm → Prop} (h : ∀ r, K r M) : CI mC_least [.long v] M K :=
  call_of rfl (Nat.le_of_ble_eq_true rfl) rfl (vC_least_0 ⟨fun _ => sJl_ntz (vC_least_15 (h _)), fun _ => h _⟩)
theorem lC_fault {K : Int32 → Mm → Prop} (h : K (gi M 10 10) M) : CI mC_fault [.ref 10] M K := call_of rfl (Nat.le_of_ble_eq_true rfl) rfl (vC_fault_0 rfl h)
theorem lC_weighs {w : Int32} {K : Int32 → Mm → Prop} (c : CX M L P R S U) (h : ∀ r, K r M) : CI mC_weighs [.ref 10, .int w] M K :=
  call_of rfl (Nat.le_of_ble_eq_true rfl) rfl (vC_weighs_0 rfl (cx6 c) ⟨fun _ => h _, fun _ => h _, fun _ => h _, fun _ => h _, fun _ => h _, fun _ => h _, fun _ => h _, fun _ => h _⟩)
theorem lC_isWord {v : Int32} {D : Nat} {K : Int32 → Mm → Prop} (c : CX M L P R S U) (hD : gi M L 1 = nI D) (hD2 : D ≤ 24) (h0 : (v < 0 ∨ nI D ≤ v) → K 0 M) (h1 : ∀ w, w < D → v = nI w → K 1 M) : CI mC_isWord [.ref 10, .int v] M K := by
  refine call_of rfl (Nat.le_of_ble_eq_true rfl) rfl (vC_isWord_0 rfl (cx4 c) ⟨fun q => h0 ?_, fun q => ?_⟩)
  · rw [hD] at q; exact q.imp id (fun q => q.2)
  · rw [hD] at q
    obtain ⟨i, hi, e⟩ := rng (n := D) rfl (by omega) q.1 q.2
    exact h1 i hi e
theorem gwd (c : CX M L P R S U) {i : Nat} (hi : i < 24) : gr M (L + 81) (nI i).toNatClampNeg = some (L + 776 + 64 * i) := by rw [ncl (by omega)]; exact (cxlr c).2.2 i hi
theorem lC_word {v w : Int32} {D : Nat} {K : Int32 → Mm → Prop} (c : CX M L P R S U) (hD : gi M L 1 = nI D) (hD2 : D ≤ 24) (h : ∀ r, K r M) : CI mC_word [.ref 10, .int v, .int w] M K :=
  call_of rfl (Nat.le_of_ble_eq_true rfl) rfl (vC_word_0 rfl (lC_isWord c hD hD2 (fun _ => vC_word_5 rfl (cx4 c) (lr0 (cxlr c)) ⟨fun q => absurd rfl q, fun _ => h _⟩) (fun i hi e => vC_word_5 rfl (cx4 c) (lr0 (cxlr c)) ⟨fun _ => ⟨by rw [e]; exact vin (show i < 24 by omega) (by decide), L + 776 + 64 * i, by rw [e]; exact gwd c (by omega), fun _ => h _, fun _ => h _, fun _ => h _, fun _ => h _, fun _ => h _, fun _ => h _, fun _ => h _, fun _ => h _, fun _ => h _, fun _ => h _⟩, fun q => absurd q (by decide)⟩)))
theorem lC_says {v x : Int32} {D : Nat} {K : Int32 → Mm → Prop} (c : CX M L P R S U) (hD : gi M L 1 = nI D) (hD2 : D ≤ 24) (h : ∀ r, K r M) : CI mC_says [.ref 10, .int v, .int x] M K := by
  refine call_of rfl (Nat.le_of_ble_eq_true rfl) rfl (vC_says_0 rfl (lC_isWord c hD hD2 (fun _ => vC_says_5 ⟨fun _ => h _, fun q => absurd rfl q⟩) (fun i hi e => vC_says_5 ⟨fun q => absurd q (by decide), fun _ => sC_isCase (fun _ => vC_says_12 rfl (cx4 c) ⟨fun q => absurd rfl q, fun _ => h _⟩) (fun k hk ek => vC_says_12 rfl (cx4 c) ⟨fun _ => ?_, fun q => absurd q (by decide)⟩)⟩)))
  subst ek
  exact sLi_saying (cxlr c) hk (vC_says_26 (h _))
theorem lC_words {w : Int32} {K : Int32 → Mm → Prop} (c : CX M L P R S U) (h : ∀ r, K r M) : CI mC_words [.ref 10, .int w] M K :=
  call_of rfl (Nat.le_of_ble_eq_true rfl) rfl (vC_words_0 rfl (cx4 c) (cx6 c) ⟨fun _ => h _, fun _ => h _, fun _ => sLi_counting (cxlr c) (raM3 (cxR c)) (vC_words_59 (h _)), fun _ => h _⟩)
theorem lC_meets {x w : Int32} {K : Int32 → Mm → Prop} (c : CX M L P R S U) (h : ∀ r, K r M) : CI mC_meets [.ref 10, .int x, .int w] M K := by
  refine call_of rfl (Nat.le_of_ble_eq_true rfl) rfl (vC_meets_0 (sC_isCase (fun _ => vC_meets_4 rfl (cx4 c) (lr3 (cxlr c)) ⟨fun q => absurd rfl q, fun _ => h _⟩) (fun k hk ek => vC_meets_4 rfl (cx4 c) (lr3 (cxlr c)) ⟨fun _ => ⟨fun _ => ?_, fun _ => ⟨?_, h _⟩, fun _ => ?_, fun _ => h _⟩, fun q => absurd q (by decide)⟩)))
  · subst ek; exact sLi_speaking (cxlr c) hk (vC_meets_44 (h _))
  · subst ek; exact vin hk (by decide)
  · subst ek; exact sLi_speaking (cxlr c) hk (vC_meets_63 rfl (cx4 c) (cx6 c) (sLi_counting (cxlr c) (raM3 (cxR c)) (vC_meets_78 (h _))))
theorem lC_steps {v : Int32} {D : Nat} {K : Int32 → Mm → Prop} (c : CX M L P R S U) (hD : gi M L 1 = nI D) (hD2 : D ≤ 24) (h : ∀ r, K r M) : CI mC_steps [.ref 10, .int v] M K :=
  call_of rfl (Nat.le_of_ble_eq_true rfl) rfl (vC_steps_0 rfl (lC_isWord c hD hD2 (fun _ => vC_steps_5 rfl (cx4 c) (lr0 (cxlr c)) ⟨fun _ => h _, fun q => absurd rfl q⟩) (fun i hi e => vC_steps_5 rfl (cx4 c) (lr0 (cxlr c)) ⟨fun q => absurd q (by decide), fun _ => ⟨by rw [e]; exact vin (show i < 24 by omega) (by decide), L + 776 + 64 * i, by rw [e]; exact gwd c (by omega), h _⟩⟩)))
theorem lC_each {d x : Int32} {K : Int32 → Mm → Prop} (c : CX M L P R S U) (h : ∀ r N, CQ M N → K r N) : CI mC_each [.ref 10, .int d, .int x] M K := by
  have n := fun r => h r M (cq_rf M)
  have cB := cx_cq (cq_bgn M L R (gi M 10 9)) c
  refine call_of rfl (Nat.le_of_ble_eq_true rfl) rfl (vC_each_0 (sC_isDoctor (fun _ => vC_each_4 ⟨fun _ => n _, fun q => absurd rfl q⟩) (fun i hi ei => vC_each_4 ⟨fun q => absurd q (by decide), fun _ => sC_isCase (fun _ => vC_each_11 rfl ⟨fun q => absurd rfl q, fun _ => n _⟩) (fun k hk ek => vC_each_11 rfl ⟨fun _ => lC_weighNow c (vC_each_20 rfl (cx11 cB) ?_), fun q => absurd q (by decide)⟩)⟩)))
  subst ei ek
  exact sWe_opinion (cxw c _) hi hk (vC_each_29 (h _ _ (cq_bgn _ _ _ _)))
theorem lC_clash {d w : Int32} {K : Int32 → Mm → Prop} (c : CX M L P R S U) (h : ∀ r N, CQ M N → K r N) : CI mC_clash [.ref 10, .int d, .int w] M K := by
  have n := fun r => h r M (cq_rf M)
  have cB := cx_cq (cq_bgn M L R (gi M 10 9)) c
  refine call_of rfl (Nat.le_of_ble_eq_true rfl) rfl (vC_clash_0 (sC_isDoctor (fun _ => vC_clash_4 ⟨fun _ => n _, fun q => absurd rfl q⟩) (fun i hi ei => vC_clash_4 ⟨fun q => absurd q (by decide), fun _ => sC_isEither (fun _ _ => vC_clash_11 rfl ⟨fun q => absurd rfl q, fun _ => n _⟩) (fun _ => vC_clash_11 rfl ⟨fun _ => lC_weighNow c (vC_clash_20 ?_), fun q => absurd q (by decide)⟩)⟩)))
  subst ei
  refine lp 64 (P := fun k => ∀ v, X mC_clash 25 [(0, .ref 10), (1, .int (nI i)), (2, .int w), (3, .long v), (5, .int (nI k))] [] (bgn M L R (gi M 10 9)) (mC mC_clash, mS mC_clash) (QI K)) (fun k hk ih v => ?_) (fun v => ?_) _
  · refine vC_clash_25 rfl (cx11 cB) ⟨fun q => absurd q (nge rfl (by decide) hk), fun _ => sWe_clashes (cxw c _) hi hk (vC_clash_42 ⟨fun _ => ?_, fun _ => ?_⟩)⟩
    · rw [nI_s]; exact ih _
    · rw [nI_s]; exact ih _
  · exact vC_clash_25 rfl (cx11 cB) ⟨fun _ => lC_manyOrLeast (fun _ => vC_clash_63 (h _ _ (cq_bgn _ _ _ _))), fun q => absurd (nself rfl) q⟩
theorem lC_sides {d e w : Int32} {K : Int32 → Mm → Prop} (c : CX M L P R S U) (h : ∀ r N, CQ M N → K r N) : CI mC_sides [.ref 10, .int d, .int e, .int w] M K := by
  have n := fun r => h r M (cq_rf M)
  have cB := cx_cq (cq_bgn M L R (gi M 10 9)) c
  refine call_of rfl (Nat.le_of_ble_eq_true rfl) rfl (vC_sides_0 (sC_isDoctor (fun _ => vC_sides_4 ⟨fun _ => n _, fun q => absurd rfl q⟩) (fun i hi ei => vC_sides_4 ⟨fun q => absurd q (by decide), fun _ => sC_isDoctor (fun _ => vC_sides_11 rfl ⟨fun _ => n _, fun q => absurd rfl q.1⟩) (fun j hj ej => vC_sides_11 rfl ⟨fun _ => n _, fun _ => lC_weighNow c (vC_sides_34 ?_)⟩)⟩)))
  subst ei ej
  refine lp 64 (P := fun k => ∀ x y, X mC_sides 43 [(0, .ref 10), (1, .int (nI i)), (2, .int (nI j)), (3, .int w), (4, .long x), (6, .long y), (8, .int (nI k))] [] (bgn M L R (gi M 10 9)) (mC mC_sides, mS mC_sides) (QI K)) (fun k hk ih x y => ?_) (fun x y => ?_) _ _
  · refine vC_sides_43 rfl (cx11 cB) ⟨fun q => absurd q (nge rfl (by decide) hk), fun _ => sWe_opinion (cxw c _) hi hk (vC_sides_60 rfl (cx11 cB) (sWe_opinion (cxw c _) hj hk (vC_sides_72 ⟨fun _ => ?_, fun _ => vC_sides_105 ?_, fun _ => vC_sides_105 ?_⟩)))⟩
    · rw [nI_s]; exact ih _ _
    · rw [nI_s]; exact ih _ _
    · rw [nI_s]; exact ih _ _
  · exact vC_sides_43 rfl (cx11 cB) ⟨fun _ => ⟨fun _ => sJl_bitCount (fun _ _ => vC_sides_168 (h _ _ (cq_bgn _ _ _ _))), fun _ => sJl_bitCount (fun _ _ => vC_sides_174 (h _ _ (cq_bgn _ _ _ _))), fun _ => lC_least (fun _ => vC_sides_180 (h _ _ (cq_bgn _ _ _ _)))⟩, fun q => absurd (nself rfl) q⟩
theorem cqb {b : Int32} (f : WQ (bgn M L R b) N) : CQ M N := cq_tr (cq_bgn M L R b) (cq_wq f)
theorem lC_hangs {d w : Int32} {K : Int32 → Mm → Prop} (c : CX M L P R S U) (h : ∀ r N, CQ M N → K r N) : CI mC_hangs [.ref 10, .int d, .int w] M K := by
  have n := fun r => h r M (cq_rf M)
  refine call_of rfl (Nat.le_of_ble_eq_true rfl) rfl (vC_hangs_0 (sC_isDoctor (fun _ => vC_hangs_4 ⟨fun _ => n _, fun q => absurd rfl q⟩) (fun i hi ei => vC_hangs_4 ⟨fun q => absurd q (by decide), fun _ => sC_isEither (fun _ _ => vC_hangs_11 rfl ⟨fun q => absurd rfl q, fun _ => n _⟩) (fun _ => vC_hangs_11 rfl ⟨fun _ => lC_weighNow c (vC_hangs_20 ?_), fun q => absurd q (by decide)⟩)⟩)))
  subst ei
  refine lp 64 (P := fun k => ∀ v N, WQ (bgn M L R (gi M 10 9)) N → X mC_hangs 25 [(0, .ref 10), (1, .int (nI i)), (2, .int w), (3, .long v), (5, .int (nI k))] [] N (mC mC_hangs, mS mC_hangs) (QI K)) (fun k hk ih v N qN => ?_) (fun v N qN => ?_) _ _ (wq_rf _)
  · have wN := wh_gr (cxw c (gi M 10 9)) qN.1
    have cN := cx_cq (cqb qN) c
    refine vC_hangs_25 rfl (cx11 cN) ⟨fun q => absurd q (nge rfl (by decide) hk), fun _ => eWe_weigh wN (cxL c) (cxR c) hk (fun O qO _ => ?_)⟩
    have qBO := wq_tr qN qO
    have cO := cx_cq (cqb qBO) c
    refine vC_hangs_41 rfl (cx11 cO) (lWe_heldIf (wh_gr wN qO.1) hi (fun _ => vC_hangs_51 rfl (cx11 cO) ⟨fun _ => ?_, fun _ => ?_⟩))
    · rw [nI_s]; exact ih _ _ qBO
    · rw [nI_s]; exact ih _ _ qBO
  · exact vC_hangs_25 rfl (cx11 (cx_cq (cqb qN) c)) ⟨fun _ => lC_manyOrLeast (fun _ => vC_hangs_79 (h _ _ (cqb qN))), fun q => absurd (nself rfl) q⟩
theorem lC_held {x w : Int32} {K : Int32 → Mm → Prop} (c : CX M L P R S U) (h : ∀ r N, CQ M N → K r N) : CI mC_held [.ref 10, .int x, .int w] M K := by
  have n := fun r => h r M (cq_rf M)
  refine call_of rfl (Nat.le_of_ble_eq_true rfl) rfl (vC_held_0 (sC_isCase (fun _ => vC_held_4 rfl ⟨fun q => absurd rfl q, fun _ => n _⟩) (fun k hk ek => vC_held_4 rfl ⟨fun _ => lC_weighNow c (vC_held_13 rfl (cx11 (cx_cq (cq_bgn M L R (gi M 10 9)) c)) ?_), fun q => absurd q (by decide)⟩)))
  subst ek
  refine eWe_weigh (cxw c _) (cxL c) (cxR c) hk (fun O qO _ => ?_)
  have f := fun r => h r O (cqb qO)
  exact vC_held_21 rfl (cx11 (cx_cq (cqb qO) c)) ⟨fun _ => f _, fun _ => f _, fun _ => f _, fun _ => f _, fun _ => f _⟩
theorem lC_isKind {w : Int32} {K : Int32 → Mm → Prop} (h0 : K 0 M) (h1 : K 1 M) : CI mC_isKindOfCases [.int w] M K :=
  call_of rfl (Nat.le_of_ble_eq_true rfl) rfl (vC_isKindOfCases_0 ⟨fun _ => ⟨fun _ => h0, fun _ => h1⟩, fun _ => h1⟩)
theorem lC_casesNow {w : Int32} {K : Int64 → Mm → Prop} (c : CX M L P R S U) (h : ∀ r N, CQ M N → K r N) : CJ mC_casesNow [.ref 10, .int w] M K :=
  call_of rfl (Nat.le_of_ble_eq_true rfl) rfl (vC_casesNow_0 rfl (lC_weighNow c (vC_casesNow_4 rfl (cx11 (cx_cq (cq_bgn M L R (gi M 10 9)) c)) (eWe_casesOf (cxw c _) (cxL c) (cxR c) (fun N qN => vC_casesNow_12 (h _ N (cqb qN)))))))
theorem lC_cases {w : Int32} {K : Int64 → Mm → Prop} (c : CX M L P R S U) (h : ∀ r N, CQ M N → K r N) : CJ mC_cases [.ref 10, .int w] M K :=
  call_of rfl (Nat.le_of_ble_eq_true rfl) rfl (vC_cases_0 (lC_isKind (vC_cases_4 rfl ⟨fun _ => h _ M (cq_rf M), fun q => absurd rfl q⟩) (vC_cases_4 rfl ⟨fun q => absurd q (by decide), fun _ => lC_casesNow c (fun r N qN => vC_cases_12 (h r N qN))⟩)))
theorem lC_many {w : Int32} {K : Int32 → Mm → Prop} (c : CX M L P R S U) (h : ∀ r N, CQ M N → K r N) : CI mC_many [.ref 10, .int w] M K :=
  call_of rfl (Nat.le_of_ble_eq_true rfl) rfl (vC_many_0 (lC_isKind (vC_many_4 rfl ⟨fun _ => h _ M (cq_rf M), fun q => absurd rfl q⟩) (vC_many_4 rfl ⟨fun q => absurd q (by decide), fun _ => lC_casesNow c (fun r N qN => vC_many_12 (sJl_bitCount (fun _ _ => vC_many_15 (h _ N qN))))⟩)))
theorem lC_reckon {x b y n a : Int32} {K : Int32 → Mm → Prop} (c : CX M L P R S U) (h : ∀ r N, CQ M N → K r N) : CI mC_reckon [.ref 10, .int x, .int b, .int y, .int n, .int a] M K := by
  have n' := fun r => h r M (cq_rf M)
  refine call_of rfl (Nat.le_of_ble_eq_true rfl) rfl (vC_reckon_0 (sC_isCase (fun _ => vC_reckon_4 rfl ⟨fun q => absurd rfl q, fun _ => n' _⟩) (fun k hk ek => vC_reckon_4 rfl ⟨fun _ => lC_weighNow c (vC_reckon_13 rfl (cx11 (cx_cq (cq_bgn M L R (gi M 10 9)) c)) ?_), fun q => absurd q (by decide)⟩)))
  subst ek
  refine eWe_weigh (cxw c _) (cxL c) (cxR c) hk (fun O qO _ => ?_)
  have f := fun r => h r O (cqb qO)
  exact vC_reckon_21 rfl (cx11 (cx_cq (cqb qO) c)) ⟨fun _ => f _, fun _ => f _, fun _ => f _, fun _ => f _, fun _ => f _⟩
theorem lC_widest {w : Int32} {K : Int32 → Mm → Prop} (c : CX M L P R S U) (h : ∀ r N, CQ M N → K r N) : CI mC_widest [.ref 10, .int w] M K := by
  have n := fun r => h r M (cq_rf M)
  refine call_of rfl (Nat.le_of_ble_eq_true rfl) rfl (vC_widest_0 (sC_isEither (fun _ _ => vC_widest_4 rfl ⟨fun q => absurd rfl q, fun _ => n _⟩) (fun _ => vC_widest_4 rfl ⟨fun _ => lC_weighNow c (vC_widest_13 ?_), fun q => absurd q (by decide)⟩)))
  refine lp 64 (P := fun k => ∀ x y z N, WQ (bgn M L R (gi M 10 9)) N → X mC_widest 24 [(0, .ref 10), (1, .int w), (2, .int x), (3, .int y), (4, .int z), (5, .int (nI k))] [] N (mC mC_widest, mS mC_widest) (QI K)) (fun k hk ih x y z N qN => ?_) (fun x y z N qN => ?_) _ _ _ _ (wq_rf _)
  · have wN := wh_gr (cxw c (gi M 10 9)) qN.1
    have nk := nge (c := 64) (i := k) (n := 64) rfl (by decide) hk
    refine vC_widest_24 rfl (cx11 (cx_cq (cqb qN) c)) ⟨fun q => ?_, fun q => absurd q.1 nk, fun _ => eWe_weigh wN (cxL c) (cxR c) hk (fun O qO _ => uC_widest_40 rfl (cx11 (cx_cq (cqb (wq_tr qN qO)) c)) ⟨fun _ => ?_, fun _ => ?_⟩)⟩
    · exfalso
      rcases q with q | q <;> exact nk q.1
    · rw [nI_s]; exact ih _ _ _ _ (wq_tr qN qO)
    · rw [nI_s]; exact ih _ _ _ _ (wq_tr qN qO)
  · have l : (64 : Int32) ≤ nI 64 := nself rfl
    exact vC_widest_24 rfl (cx11 (cx_cq (cqb qN) c)) ⟨fun _ => h _ _ (cqb qN), fun _ => h _ _ (cqb qN), fun q => absurd l q⟩
theorem lC_near {x a w : Int32} {K : Int32 → Mm → Prop} (c : CX M L P R S U) (h : ∀ r N, CQ M N → K r N) : CI mC_near [.ref 10, .int x, .int a, .int w] M K := by
  have n := fun r => h r M (cq_rf M)
  refine call_of rfl (Nat.le_of_ble_eq_true rfl) rfl (vC_near_0 (sC_isCase (fun _ => vC_near_4 ⟨fun _ => n _, fun q => absurd rfl q⟩) (fun j hj ej => vC_near_4 ⟨fun q => absurd q (by decide), fun _ => sC_isEither (fun _ _ => vC_near_11 ⟨fun _ => n _, fun q => absurd rfl q⟩) (fun _ => vC_near_11 ⟨fun q => absurd q (by decide), fun _ => sC_isEither (fun _ _ => vC_near_18 rfl ⟨fun q => absurd rfl q, fun _ => n _⟩) (fun _ => vC_near_18 rfl ⟨fun _ => lC_weighNow c (vC_near_27 ?_), fun q => absurd q (by decide)⟩)⟩)⟩)))
  refine lp 64 (P := fun k => ∀ y z N, WQ (bgn M L R (gi M 10 9)) N → X mC_near 38 [(0, .ref 10), (1, .int x), (2, .int a), (3, .int w), (4, .int y), (5, .int z), (6, .int (nI k))] [] N (mC mC_near, mS mC_near) (QI K)) (fun k hk ih y z N qN => ?_) (fun y z N qN => ?_) _ _ _ (wq_rf _)
  · have wN := wh_gr (cxw c (gi M 10 9)) qN.1
    have nk := nge (c := 64) (i := k) (n := 64) rfl (by decide) hk
    refine vC_near_38 ⟨fun q => ?_, fun q => absurd q.1 nk, fun _ => sJi_bitCount (fun _ _ => vC_near_52 rfl (cx11 (cx_cq (cqb qN) c)) ⟨fun _ => ?_, fun _ => eWe_heldIn wN (cxL c) (cxR c) hk (fun O qO _ => vC_near_70 ⟨fun _ => ?_, fun _ => ?_⟩)⟩)⟩
    · exfalso
      rcases q with q | q <;> exact nk q.1
    · rw [nI_s]; exact ih _ _ _ qN
    · rw [nI_s]; exact ih _ _ _ (wq_tr qN qO)
    · rw [nI_s]; exact ih _ _ _ (wq_tr qN qO)
  · have l : (64 : Int32) ≤ nI 64 := nself rfl
    exact vC_near_38 ⟨fun _ => h _ _ (cqb qN), fun _ => h _ _ (cqb qN), fun q => absurd l q⟩
end CX1
end MG44
