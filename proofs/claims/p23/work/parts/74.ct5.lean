/-! ===== the class's reader of a library: a word ===== -/
theorem td_si {M : Mm} {T : Nat → Int32} {t : Nat} {s : Tst} {a j : Nat} {v : Int32} (h1 : a ≠ 199) (h2 : a ≠ 70) (h3 : a ≠ 145) (td : TD M T t s) : TD (si M a j v) T t s := by
  obtain ⟨⟨m1, m2, m3, m4, m5⟩, r⟩ := td
  have e1 : gi (si M a j v) 199 = gi M 199 := gi_ne (Ne.symm h1)
  have e2 : gi (si M a j v) 70 = gi M 70 := gi_ne (Ne.symm h2)
  have e3 : gi (si M a j v) 145 = gi M 145 := gi_ne (Ne.symm h3)
  unfold TD TC
  rw [e1, e2, e3]
  exact ⟨⟨m1, m2, m3, m4, m5⟩, r⟩
/-- the tokens and one cell may change -/
def PX (x : Nat) (M N : Mm) : Prop := gr N = gr M ∧ gl N = gl M ∧ ∀ a, a ≠ 199 → a ≠ x → gi N a = gi M a
theorem px_pt {x : Nat} {M N : Mm} (f : PT M N) : PX x M N := ⟨f.1, f.2.1, fun a h _ => f.2.2 a h⟩
theorem px_tr {x : Nat} {M N O : Mm} (f : PX x M N) (g : PX x N O) : PX x M O := ⟨g.1.trans f.1, g.2.1.trans f.2.1, fun a h h2 => (g.2.2 a h h2).trans (f.2.2 a h h2)⟩
theorem px_si {x j : Nat} {M : Mm} {v : Int32} : PX x M (si M x j v) := ⟨rfl, rfl, fun a _ h => gi_ne h⟩
theorem gxs (M : Mm) (x k i : Nat) (v : Int32) : gi (si M x k v) x i = if i = k then v else gi M x i := by
  rw [gi_si]
  by_cases h : i = k
  · rw [if_pos ⟨rfl, h⟩, if_pos h]
  · rw [if_neg (fun q => h q.2), if_neg h]
section CT8
variable (T : Nat → Int32) (t : Nat) (k : Int32) (s : Tst)
abbrev k13 : Prop := k = 1 ∨ k = 2 ∨ k = 3
def sy1 : Tst := tkM T t (adv T t s)
def sy2 : Tst := tkM T t (adv T t (sy1 T t s))
def sy3 : Tst := if (tkMv T t (adv T t s) &&& tkMv T t (adv T t (sy1 T t s))) = 0 then sy2 T t s else tfl 4 (sy2 T t s)
def sy4 : Tst := if (sy3 T t s).2.2.2.2.1 = 0 then tkA T t (adv T t (sy3 T t s)) else sy3 T t s
def syE : Tst := if k13 k then tkN 23 (adv T t s) else if k = 4 then sy1 T t s else if (sy1 T t s).2.2.2.2.1 = 0 then sy4 T t s else sy1 T t s
/-- the row of a word behind what it says -/
def syr (R : Nat → Int32) (i : Nat) : Int32 := if k13 k then (if i = 7 then nI (syE T t k s).2.1 else if i = 6 then tkNv 23 (adv T t s) else R i) else
  if k = 4 then (if i = 3 then tkMv T t (adv T t s) else R i) else
  (if i = 5 then tkAv T t (adv T t (sy3 T t s)) else if i = 4 then tkMv T t (adv T t (sy1 T t s)) else if i = 3 then tkMv T t (adv T t s) else R i)
end CT8
theorem nLr_tellSaying {M : Mm} {T : Nat → Int32} {t : Nat} {k : Int32} {s : Tst} {x : Nat} {K : Mm → Prop} (kx : x % 64 = 9) (g0 : gr M 258 0 = some 199) (td : TD M T t s) (hk : gi M x 0 = k) (h : ∀ N, PX x M N → TD N T t (syE T t k s) → ((syE T t k s).2.2.2.2.1 = 0 → ∀ i, gi N x i = syr T t k s (gi M x) i) → K N) : CV mLr_tellSaying [.ref 258, .ref x] M K := by
  have x1 : x ≠ 199 := by omega
  have x2 : x ≠ 70 := by omega
  have x3 : x ≠ 145 := by omega
  refine call_of rfl (Nat.le_of_ble_eq_true rfl) rfl (vLr_tellSaying_0 kx rfl g0 ⟨fun q => ?_, fun q => ?_⟩)
  · rw [hk] at q
    have c : k13 k := q.imp id (fun q => q.imp (fun q => q.2) (fun q => q.2.2))
    have e : syE T t k s = tkN 23 (adv T t s) := by unfold syE; rw [if_pos c]
    refine nTo_takeNumber td (fun N pN tN => vLr_tellSaying_34 kx rfl kx (by rw [pN.1]; exact g0) ?_)
    rw [← e] at tN
    have e2 : gi (si N x 6 (tkNv 23 (adv T t s))) 199 2 = nI (syE T t k s).2.1 := by rw [gi_ne (Ne.symm x1)]; exact tN.2.2.1
    rw [e2]
    refine h _ (px_tr (px_pt pN) (px_tr px_si px_si)) (td_si x1 x2 x3 (td_si x1 x2 x3 tN)) (fun _ i => ?_)
    rw [gxs, gxs, pN.2.2 x x1]
    unfold syr
    rw [if_pos c]
  · rw [hk] at q
    have c : ¬ k13 k := fun z => z.elim q.1 (fun z => z.elim q.2.1 q.2.2)
    refine nTo_takeMarks td (fun N pN tN => ?_)
    have tN1 : TD N T t (sy1 T t s) := by unfold sy1; exact tN
    clear tN
    have tA := td_si (j := 3) (v := tkMv T t (adv T t s)) x1 x2 x3 tN1
    have pA : PX x M (si N x 3 (tkMv T t (adv T t s))) := px_tr (px_pt pN) px_si
    have eA : ∀ i, gi (si N x 3 (tkMv T t (adv T t s))) x i = if i = 3 then tkMv T t (adv T t s) else gi M x i := fun i => by rw [gxs, pN.2.2 x x1]
    refine vLr_tellSaying_57 kx kx rfl (by rw [pN.1]; exact g0) ?_
    generalize si N x 3 (tkMv T t (adv T t s)) = A at tA pA eA ⊢
    have a0 : gi A x 0 = k := by rw [eA, if_neg (by decide)]; exact hk
    have a5 := tA.2.2.2.2.2.1
    have gA : gr A 258 0 = some 199 := by rw [pA.1]; exact g0
    rw [a0, a5]
    refine ⟨fun r => ?_, fun r => ?_⟩
    · by_cases k4 : k = 4
      · have e : syE T t k s = sy1 T t s := by unfold syE; rw [if_neg c, if_pos k4]
        refine h A pA (by rw [e]; exact tA) (fun _ i => ?_)
        rw [eA]; unfold syr; rw [if_neg c, if_pos k4]
      · have f1 : ¬ (sy1 T t s).2.2.2.2.1 = 0 := by
          rcases r with r | r
          · exact absurd r k4
          · exact r.2
        have e : syE T t k s = sy1 T t s := by unfold syE; rw [if_neg c, if_neg k4, if_neg f1]
        exact h A pA (by rw [e]; exact tA) (fun z => absurd (by rw [e] at z; exact z) f1)
    · have e : syE T t k s = sy4 T t s := by unfold syE; rw [if_neg c, if_neg r.1, if_pos r.2]
      have er : ∀ R i, syr T t k s R i = if i = 5 then tkAv T t (adv T t (sy3 T t s)) else if i = 4 then tkMv T t (adv T t (sy1 T t s)) else if i = 3 then tkMv T t (adv T t s) else R i := fun R i => by unfold syr; rw [if_neg c, if_neg r.1]
      simp only [er] at h
      rw [e] at h
      refine nTo_takeMarks tA (fun B pB tB => ?_)
      have tB2 : TD B T t (sy2 T t s) := by unfold sy2; exact tB
      clear tB
      have tC := td_si (j := 4) (v := tkMv T t (adv T t (sy1 T t s))) x1 x2 x3 tB2
      have pC : PX x M (si B x 4 (tkMv T t (adv T t (sy1 T t s)))) := px_tr pA (px_tr (px_pt pB) px_si)
      have eC : ∀ i, gi (si B x 4 (tkMv T t (adv T t (sy1 T t s)))) x i = if i = 4 then tkMv T t (adv T t (sy1 T t s)) else if i = 3 then tkMv T t (adv T t s) else gi M x i := fun i => by rw [gxs, pB.2.2 x x1, eA]
      refine vLr_tellSaying_87 kx rfl kx (by rw [pB.1]; exact gA) ?_
      generalize si B x 4 (tkMv T t (adv T t (sy1 T t s))) = C at tC pC eC ⊢
      have gC : gr C 258 0 = some 199 := by rw [pC.1]; exact g0
      have c5 := tC.2.2.2.2.2.1
      have c3 : gi C x 3 = tkMv T t (adv T t s) := by rw [eC, if_neg (by decide), if_pos rfl]
      have c4 : gi C x 4 = tkMv T t (adv T t (sy1 T t s)) := by rw [eC, if_pos rfl]
      rw [c5, c3, c4]
      have b121 : ∀ D, PT C D → TD D T t (sy3 T t s) → X mLr_tellSaying 121 [(0, .ref 258), (1, .ref x)] [] D (mC mLr_tellSaying, mS mLr_tellSaying) (QV K) := by
        intro D pD tD
        have d5 := tD.2.2.2.2.2.1
        refine vLr_tellSaying_121 rfl (by rw [pD.1]; exact gC) ⟨fun z => ?_, fun z => ?_⟩
        · rw [d5] at z
          have e4 : sy4 T t s = sy3 T t s := by unfold sy4; rw [if_neg z]
          exact h D (px_tr pC (px_pt pD)) (by rw [e4]; exact tD) (fun y => absurd (by rw [e4] at y; exact y) z)
        · rw [d5] at z
          have e4 : sy4 T t s = tkA T t (adv T t (sy3 T t s)) := by unfold sy4; rw [if_pos z]
          refine nTo_takeAnswer tD (fun E pE tE => vLr_tellSaying_139 kx (h _ (px_tr pC (px_tr (px_pt pD) (px_tr (px_pt pE) px_si))) (by rw [e4]; exact td_si x1 x2 x3 tE) (fun _ i => ?_)))
          rw [gxs, pE.2.2 x x1, pD.2.2 x x1, eC]
      refine ⟨fun z => b121 C (pt_rf C) ?_, fun z => nTo_fail tC (fun D pD tD => vLr_tellSaying_120 (b121 D pD ?_))⟩
      · unfold sy3
        by_cases y : (tkMv T t (adv T t s) &&& tkMv T t (adv T t (sy1 T t s))) = 0
        · rw [if_pos y]; exact tC
        · rw [if_neg y]
          have f2 : ¬ (sy2 T t s).2.2.2.2.1 = 0 := by
            rcases z with z | z
            · exact z
            · exact absurd z.2 y
          unfold tfl; rw [if_neg f2]; exact tC
      · unfold sy3; rw [if_neg z.2]; exact tD
section CT9
variable (T : Nat → Int32) (t : Nat) (k : Int32) (s : Tst)
def tw1 : Tst := if k = 5 then tkN 999 (adv T t s) else tkO T t (adv T t s)
def tw2 : Tst := if (tw1 T t k s).2.2.2.2.1 = 0 then syE T t k (tw1 T t k s) else tw1 T t k s
/-- a word's row as it begins -/
def wb0 (b : Int32) (i : Nat) : Int32 := if i = 0 then k else if i = 2 then b else if i = 1 ∨ i = 5 ∨ i = 6 ∨ i = 8 then -4 else 0
def wb1 (b : Int32) (i : Nat) : Int32 := if k = 5 then (if i = 8 then tkNv 999 (adv T t s) else wb0 k b i) else (if i = 1 then tkOv T t (adv T t s) else wb0 k b i)
def wb2 (b : Int32) : Nat → Int32 := syr T t k (tw1 T t k s) (wb1 T t k s b)
end CT9
theorem nLr_tellWord {M : Mm} {T : Nat → Int32} {t D r : Nat} {k : Int32} {s : Tst} {K : Mm → Prop} (hl : LR M r) (hr : 145 < r) (g0 : gr M 258 0 = some 199) (td : TD M T t s) (hD : gi M r 1 = nI D) (hD2 : D ≤ 24)
    (h5 : D = 24 → ∀ N, PT M N → TD N T t (tfl 5 s) → K N)
    (h0 : D < 24 → ∀ N, PX (r + 776 + 64 * D) M N → TD N T t (tw2 T t k s) → ¬ (tw2 T t k s).2.2.2.2.1 = 0 → K (si N r 1 (nI D)))
    (h1 : D < 24 → ∀ N, PX (r + 776 + 64 * D) M N → TD N T t (tw2 T t k s) → (tw2 T t k s).2.2.2.2.1 = 0 → (∀ i, i < 11 → gi N (r + 776 + 64 * D) i = wb2 T t k s (gi M 258 1) i) → K (si N r 1 (nI (D + 1)))) : CV mLr_tellWord [.ref 258, .ref r, .int k] M K := by
  refine call_of rfl (Nat.le_of_ble_eq_true rfl) rfl (vLr_tellWord_0 hl.1 rfl (lr0 hl) g0 ⟨fun q => ?_, fun q => nTo_fail td (fun N pN tN => vLr_tellWord_17 (h5 ?_ N pN tN))⟩)
  · rw [hD] at q
    rw [show (24 : Int32) = nI 24 from rfl, nlt (by decide) (by omega)] at q
    have hx : (r + 776 + 64 * D) % 64 = 9 := by have := hl.1; omega
    have x1 : r + 776 + 64 * D ≠ 199 := by omega
    have x2 : r + 776 + 64 * D ≠ 70 := by omega
    have x3 : r + 776 + 64 * D ≠ 145 := by omega
    have x4 : r ≠ r + 776 + 64 * D := by omega
    have hg := hl.2.2 D q
    have h0' := h0 q
    have h1' := h1 q
    rw [hD]
    refine ⟨vin q (by decide), r + 776 + 64 * D, by rw [ncl (by omega)]; exact hg, call_of rfl (Nat.le_of_ble_eq_true rfl) rfl (vWo_begin_0 hx ?_)⟩
    generalize r + 776 + 64 * D = x at hx x1 x2 x3 x4 hg h0' h1' ⊢
    have pA : ∀ b : Int32, PX x M (si (si (si (si (si (si (si (si (si (si (si M x 0 k) x 1 (-4)) x 2 b) x 3 0) x 4 0) x 5 (-4)) x 6 (-4)) x 7 0) x 8 (-4)) x 9 0) x 10 0) := fun b => px_tr px_si (px_tr px_si (px_tr px_si (px_tr px_si (px_tr px_si (px_tr px_si (px_tr px_si (px_tr px_si (px_tr px_si (px_tr px_si px_si)))))))))
    have tA : ∀ b : Int32, TD (si (si (si (si (si (si (si (si (si (si (si M x 0 k) x 1 (-4)) x 2 b) x 3 0) x 4 0) x 5 (-4)) x 6 (-4)) x 7 0) x 8 (-4)) x 9 0) x 10 0) T t s := fun b => td_si x1 x2 x3 (td_si x1 x2 x3 (td_si x1 x2 x3 (td_si x1 x2 x3 (td_si x1 x2 x3 (td_si x1 x2 x3 (td_si x1 x2 x3 (td_si x1 x2 x3 (td_si x1 x2 x3 (td_si x1 x2 x3 (td_si x1 x2 x3 td))))))))))
    have eA : ∀ b : Int32, ∀ i, i < 11 → gi (si (si (si (si (si (si (si (si (si (si (si M x 0 k) x 1 (-4)) x 2 b) x 3 0) x 4 0) x 5 (-4)) x 6 (-4)) x 7 0) x 8 (-4)) x 9 0) x 10 0) x i = wb0 k b i := by
      intro b i hi
      simp only [gxs]
      unfold wb0
      match i, hi with
      | 0, _ => rfl
      | 1, _ => rfl
      | 2, _ => rfl
      | 3, _ => rfl
      | 4, _ => rfl
      | 5, _ => rfl
      | 6, _ => rfl
      | 7, _ => rfl
      | 8, _ => rfl
      | 9, _ => rfl
      | 10, _ => rfl
    have pA := pA (gi M 258 1)
    have tA := tA (gi M 258 1)
    have eA := eA (gi M 258 1)
    generalize si (si (si (si (si (si (si (si (si (si (si M x 0 k) x 1 (-4)) x 2 (gi M 258 1)) x 3 0) x 4 0) x 5 (-4)) x 6 (-4)) x 7 0) x 8 (-4)) x 9 0) x 10 0 = A at pA tA eA ⊢
    have gA : gr A 258 0 = some 199 := by rw [pA.1]; exact g0
    have b71 : ∀ N, PX x M N → TD N T t (tw1 T t k s) → (∀ i, i < 11 → gi N x i = wb1 T t k s (gi M 258 1) i) → X mLr_tellWord 71 [(0, .ref 258), (1, .ref r), (3, .ref x)] [] N (mC mLr_tellWord, mS mLr_tellWord) (QV K) := by
      intro N pN tN eN
      have n5 := tN.2.2.2.2.2.1
      have gN : gr N 258 0 = some 199 := by rw [pN.1]; exact g0
      have hr1 : r ≠ 199 := by have := hl.1; omega
      refine vLr_tellWord_71 rfl gN ⟨fun z => ?_, fun z => ?_⟩
      · rw [n5] at z
        have e : tw2 T t k s = tw1 T t k s := by unfold tw2; rw [if_neg z]
        refine vLr_tellWord_86 hl.1 rfl gN ?_
        rw [n5, if_neg z, pN.2.2 r hr1 x4, hD, Int32.add_zero]
        rw [← e] at tN z
        exact h0' N pN tN z
      · rw [n5] at z
        have e : tw2 T t k s = syE T t k (tw1 T t k s) := by unfold tw2; rw [if_pos z]
        have ek : gi N x 0 = k := by
          rw [eN 0 (by decide)]
          unfold wb1
          by_cases y : k = 5
          · rw [if_pos y, if_neg (by decide)]; rfl
          · rw [if_neg y, if_neg (by decide)]; rfl
        refine nLr_tellSaying hx gN tN ek (fun O pO tO hO => ?_)
        have gO : gr O 258 0 = some 199 := by rw [pO.1]; exact gN
        have o5 := tO.2.2.2.2.2.1
        have pMO := px_tr pN pO
        refine vLr_tellWord_86 hl.1 rfl gO ?_
        rw [o5, pMO.2.2 r hr1 x4, hD]
        rw [← e] at tO hO ⊢
        by_cases y : (tw2 T t k s).2.2.2.2.1 = 0
        · rw [if_pos y, nI_s]
          refine h1' O pMO tO y (fun i hi => ?_)
          rw [hO y]
          have sy : ∀ R R' : Nat → Int32, R i = R' i → syr T t k (tw1 T t k s) R i = syr T t k (tw1 T t k s) R' i := by
            intro R R' e
            unfold syr
            rw [e]
          exact sy _ _ (eN i hi)
        · rw [if_neg y, Int32.add_zero]
          exact h0' O pMO tO y
    refine vLr_tellWord_38 rfl gA ⟨fun z => nTo_takeDoctor tA (fun N pN tN => vLr_tellWord_68 hx (b71 _ (px_tr pA (px_tr (px_pt pN) px_si)) ?_ (fun i hi => ?_))), fun z => nTo_takeNumber tA (fun N pN tN => vLr_tellWord_54 hx (b71 _ (px_tr pA (px_tr (px_pt pN) px_si)) ?_ (fun i hi => ?_)))⟩
    · unfold tw1; rw [if_neg z]; exact td_si x1 x2 x3 tN
    · rw [gxs, pN.2.2 x x1, eA i hi]; unfold wb1; rw [if_neg z]
    · unfold tw1; rw [if_pos z]; exact td_si x1 x2 x3 tN
    · rw [gxs, pN.2.2 x x1, eA i hi]; unfold wb1; rw [if_pos z]
  · rw [hD] at q
    rw [show (24 : Int32) = nI 24 from rfl, nlt (by decide) (by omega)] at q
    omega
