/-! ===== the class's reader of a library: copies, what words follow, lines ===== -/
section CT10
variable (T : Nat → Int32) (t : Nat) (v : Int32) (s : Tst)
def tc1 : Tst := if tkNv 7 (adv T t s) < 0 then tkN 7 (adv T t s) else if ((ushr v (tkNv 7 (adv T t s))) &&& 1) = 1 then tfl 4 (tkN 7 (adv T t s)) else tkN 7 (adv T t s)
def tcE : Tst := if (tc1 T t v s).2.2.2.2.1 = 0 then tkN 9 (adv T t (tc1 T t v s)) else tc1 T t v s
end CT10
theorem tc1_ok {T : Nat → Int32} {t : Nat} {v : Int32} {s : Tst} (h : (tc1 T t v s).2.2.2.2.1 = 0) : (tkN 7 (adv T t s)).2.2.2.2.1 = 0 ∧ tc1 T t v s = tkN 7 (adv T t s) := by
  unfold tc1 at h ⊢
  by_cases q : tkNv 7 (adv T t s) < 0
  · rw [if_pos q] at h ⊢; exact ⟨h, rfl⟩
  · rw [if_neg q] at h ⊢
    by_cases r : ((ushr v (tkNv 7 (adv T t s))) &&& 1) = 1
    · rw [if_pos r] at h; exact absurd h (tfl_ne (by decide))
    · rw [if_neg r] at h ⊢; exact ⟨h, rfl⟩
theorem nLr_tellCopies {M : Mm} {T : Nat → Int32} {t r : Nat} {v : Int32} {s : Tst} {K : Int32 → Mm → Prop} (hl : LR M r) (hr : 145 < r) (g0 : gr M 258 0 = some 199) (td : TD M T t s)
    (h0 : ∀ N, PT M N → TD N T t (tcE T t v s) → ¬ (tc1 T t v s).2.2.2.2.1 = 0 → K 0 N)
    (h1 : ∀ N i, PT M N → TD N T t (tcE T t v s) → (tc1 T t v s).2.2.2.2.1 = 0 → i < 8 → tkNv 7 (adv T t s) = nI i → K ((1 : Int32) <<< (nI i &&& 31)) (si N (r + 140) i (tkNv 9 (adv T t (tc1 T t v s))))) : CI mLr_tellCopies [.ref 258, .ref r, .int v] M K := by
  refine call_of rfl (Nat.le_of_ble_eq_true rfl) rfl (vLr_tellCopies_0 rfl g0 (nTo_takeNumber td (fun N pN tN => ?_)))
  have tcM := td.1
  have gN : gr N 258 0 = some 199 := by rw [pN.1]; exact g0
  have b31 : ∀ O, PT M O → TD O T t (tc1 T t v s) → X mLr_tellCopies 31 [(0, .ref 258), (1, .ref r), (3, .int (tkNv 7 (adv T t s)))] [] O (mC mLr_tellCopies, mS mLr_tellCopies) (QI K) := by
    intro O pO tO
    have o5 := tO.2.2.2.2.2.1
    have gO : gr O 258 0 = some 199 := by rw [pO.1]; exact g0
    have lO : gr O r 2 = some (r + 140) := by rw [pO.1]; exact lr2 hl
    refine vLr_tellCopies_31 rfl hl.1 gO lO ⟨fun q => ?_, fun q => ?_⟩
    · rw [o5] at q
      obtain ⟨i, hi, ei⟩ := (tkN_ok (g := 7) (by decide) tcM (tc1_ok q).1).1
      have e : tcE T t v s = tkN 9 (adv T t (tc1 T t v s)) := by unfold tcE; rw [if_pos q]
      refine nTo_takeNumber tO (fun P pP tP => ?_)
      rw [← e] at tP
      have ei' : tkNv 7 (adv T t s) = nI i := ei
      rw [ei']
      have := h1 P i (pt_tr pO pP) tP q (by omega) ei'
      refine vLr_tellCopies_57 (lrk hl 140 13 rfl (by decide)) ⟨vin (by omega) (by decide), ?_⟩
      rw [ncl (by omega)]; exact this
    · rw [o5] at q
      have e : tcE T t v s = tc1 T t v s := by unfold tcE; rw [if_neg q]
      exact h0 O pO (by rw [e]; exact tO) q
  refine vLr_tellCopies_9 ⟨fun q => b31 N pN ?_, fun q => sC_holds (vLr_tellCopies_19 rfl gN ⟨fun z => b31 N pN ?_, fun z => nTo_fail tN (fun O pO tO => vLr_tellCopies_30 (b31 O (pt_tr pN pO) ?_))⟩)⟩
  · unfold tc1; rw [if_pos q]; exact tN
  · have c : ¬ ((ushr v (tkNv 7 (adv T t s))) &&& 1) = 1 := fun y => by rw [if_pos y] at z; exact absurd z (by decide)
    unfold tc1; rw [if_neg q, if_neg c]; exact tN
  · have c : ((ushr v (tkNv 7 (adv T t s))) &&& 1) = 1 := by
      by_cases y : ((ushr v (tkNv 7 (adv T t s))) &&& 1) = 1
      · exact y
      · rw [if_neg y] at z; exact absurd rfl z
    unfold tc1; rw [if_neg q, if_pos c]; exact tO
/-- whether a word follows as it may -/
def mfc (M : Mm) (r D w : Nat) : Prop := ¬ gi M (r + 776 + 64 * w) 6 < 0 ∧ ¬ nI D ≤ gi M (r + 776 + 64 * w) 6 ∧ ¬ gi M (r + 776 + 64 * w) 6 = nI w ∧ ¬ gi M (r + 776 + 64 * (gi M (r + 776 + 64 * w) 6).toNatClampNeg) 0 = 5
theorem sLi_mayFollow {M : Mm} {r D w : Nat} {K : Int32 → Mm → Prop} (hl : LR M r) (hD : gi M r 1 = nI D) (hD2 : D ≤ 24) (hw : w < D) (h0 : ¬ mfc M r D w → K 0 M) (h1 : mfc M r D w → K 1 M) : CI mLi_mayFollow [.ref r, .int (nI w)] M K := by
  refine call_of rfl (Nat.le_of_ble_eq_true rfl) rfl (vLi_mayFollow_0 hl.1 (lr0 hl) ⟨vin (show w < 24 by omega) (by decide), r + 776 + 64 * w, by rw [ncl (by omega)]; exact hl.2.2 w (by omega), fun q => h0 (fun z => ?_), fun q => ?_⟩)
  · rw [hD] at q
    rcases q with q | q | q
    · exact z.1 q
    · exact z.2.1 q.2
    · exact z.2.2.1 q.2.2
  · rw [hD] at q
    obtain ⟨f, hf, ef⟩ := rng (n := D) rfl (by omega) q.1 q.2.1
    rw [ef]
    refine ⟨vin (show f < 24 by omega) (by decide), r + 776 + 64 * f, by rw [ncl (by omega)]; exact hl.2.2 f (by omega), fun z => h0 (fun y => ?_), fun z => h1 ⟨q.1, q.2.1, q.2.2, ?_⟩⟩
    · have := y.2.2.2
      rw [ef, ncl (by omega)] at this
      exact this z
    · rw [ef, ncl (by omega)]; exact z
def badc (M : Mm) (r D w : Nat) : Prop := ¬ gi M (r + 776 + 64 * w) 6 < 0 ∧ ¬ mfc M r D w
theorem sLr_findWrong {M : Mm} {T : Nat → Int32} {t r D : Nat} {s : Tst} {K : Mm → Prop} (hl : LR M r) (hr : 199 < r) (g0 : gr M 258 0 = some 199) (td : TD M T t s) (hD : s.2.2.2.2.1 = 0 → gi M r 1 = nI D ∧ D ≤ 24) (hf : ¬ s.2.2.2.2.1 = 0 → K M) (h0 : s.2.2.2.2.1 = 0 → (∀ w, w < D → ¬ badc M r D w) → K M) (h1 : s.2.2.2.2.1 = 0 → ∀ w, w < D → badc M r D w → (∀ v, v < w → ¬ badc M r D v) → ∀ N, PT M N → gi N 199 5 = 6 → gi N 199 6 = gi M (r + 776 + 64 * w) 7 → gi N 199 4 = s.2.2.2.1 → K N) : CV mLr_findWrongFollowers [.ref 258, .ref r] M K := by
  have t5 := td.2.2.2.2.2.1
  refine call_of rfl (Nat.le_of_ble_eq_true rfl) rfl (vLr_findWrongFollowers_0 ?_)
  by_cases z : s.2.2.2.2.1 = 0
  · obtain ⟨hD, hD2⟩ := hD z
    have key : ∀ n i, i + n = D → (∀ v, v < i → ¬ badc M r D v) → X mLr_findWrongFollowers 2 [(0, .ref 258), (1, .ref r), (2, .int (nI i))] [] M (mC mLr_findWrongFollowers, mS mLr_findWrongFollowers) (QV K) := by
      intro n
      induction n with
      | zero =>
        intro i hi hb
        rw [Nat.add_zero] at hi
        subst hi
        have l : gi M r 1 ≤ nI i := by rw [hD]; exact Int32.le_refl _
        exact vLr_findWrongFollowers_2 hl.1 rfl g0 (lr0 hl) ⟨fun _ => h0 z hb, fun q => absurd l q.1⟩
      | succ n ih =>
        intro i hi hb
        have hi2 : i < D := by omega
        have l : ¬ gi M r 1 ≤ nI i := by rw [hD]; exact nge rfl (by omega) hi2
        have go : ¬ badc M r D i → X mLr_findWrongFollowers 2 [(0, .ref 258), (1, .ref r), (2, .int (nI i + 1))] [] M (mC mLr_findWrongFollowers, mS mLr_findWrongFollowers) (QV K) := by
          intro nb
          rw [nI_s]
          refine ih (i + 1) (by omega) (fun v hv => ?_)
          by_cases e : v = i
          · rw [e]; exact nb
          · exact hb v (by omega)
        have gw : gr M (r + 81) (nI i).toNatClampNeg = some (r + 776 + 64 * i) := by rw [ncl (by omega)]; exact hl.2.2 i (by omega)
        refine vLr_findWrongFollowers_2 hl.1 rfl g0 (lr0 hl) ⟨fun q => ?_, fun _ => ⟨vin (show i < 24 by omega) (by decide), r + 776 + 64 * i, gw, fun q => go (fun b => b.1 q), fun q => sLi_mayFollow hl hD hD2 hi2 (fun m => ?_) (fun m => ?_)⟩⟩
        · exfalso
          rcases q with q | q
          · exact l q
          · exact q.2 (t5.trans z)
        · refine vLr_findWrongFollowers_37 rfl hl.1 g0 (lr0 hl) ⟨fun y => absurd rfl y, fun _ => ⟨vin (show i < 24 by omega) (by decide), r + 776 + 64 * i, gw, nTo_failAt td (fun N pN n5 n6 n4 => vLr_findWrongFollowers_58 ?_)⟩⟩
          rw [if_pos z] at n5 n6
          have k := h1 z i hi2 ⟨q, m⟩ hb N pN n5 n6 n4
          have gN : gr N 258 0 = some 199 := by rw [pN.1]; exact g0
          have lN : gr N r 0 = some (r + 81) := by rw [pN.1]; exact lr0 hl
          have nz : ¬ gi N 199 5 = 0 := by rw [n5]; decide
          have k2 : ∀ v, X mLr_findWrongFollowers 2 [(0, .ref 258), (1, .ref r), (2, .int v)] [] N (mC mLr_findWrongFollowers, mS mLr_findWrongFollowers) (QV K) := fun v => vLr_findWrongFollowers_2 hl.1 rfl gN lN ⟨fun _ => k, fun y => absurd y.2 nz⟩
          exact k2 _
        · exact vLr_findWrongFollowers_37 rfl hl.1 g0 (lr0 hl) ⟨fun _ => go (fun b => b.2 m), fun y => absurd y (by decide)⟩
    exact key D 0 (by omega) (fun v hv => absurd hv (by omega))
  · have nz : ¬ gi M 199 5 = 0 := by rw [t5]; exact z
    refine vLr_findWrongFollowers_2 hl.1 rfl g0 (lr0 hl) ⟨fun _ => hf z, fun q => absurd q.2 nz⟩
/-- a word's row is as it should be -/
def WK (F : Nat) (M : Mm) (x : Nat) : Prop := (∃ b, b < 8 ∧ gi M x 2 = nI b) ∧ (gi M x 1 < 0 ∨ ∃ d, d < 8 ∧ gi M x 1 = nI d) ∧ (∃ m, m < 64 ∧ gi M x 3 = nI m) ∧ (gi M x 6 < 0 ∨ ∃ f, f < F ∧ gi M x 6 = nI f)
/-- what the reading of a library may change -/
def PC (r : Nat) (M N : Mm) : Prop := gr N = gr M ∧ gl N = gl M ∧ ∀ a, a ≠ 199 → a ≠ 258 → ¬ (r ≤ a ∧ a < r + 2304) → gi N a = gi M a
theorem pc_pt {r : Nat} {M N : Mm} (f : PT M N) : PC r M N := ⟨f.1, f.2.1, fun a h _ _ => f.2.2 a h⟩
theorem pc_px {r x : Nat} {M N : Mm} (h : r ≤ x ∧ x < r + 2304) (f : PX x M N) : PC r M N := ⟨f.1, f.2.1, fun a h1 _ h3 => f.2.2 a h1 (fun e => h3 (by omega))⟩
theorem pc_tr {r : Nat} {M N O : Mm} (f : PC r M N) (g : PC r N O) : PC r M O := ⟨g.1.trans f.1, g.2.1.trans f.2.1, fun a h h2 h3 => (g.2.2 a h h2 h3).trans (f.2.2 a h h2 h3)⟩
theorem pc_si {r x j : Nat} {M : Mm} {v : Int32} (h : x = 258 ∨ (r ≤ x ∧ x < r + 2304)) : PC r M (si M x j v) := ⟨rfl, rfl, fun a _ h2 h3 => gi_ne (fun e => by subst e; exact h.elim h2 h3)⟩
theorem lr_gr {M N : Mm} {r : Nat} (h : LR M r) (e : gr N = gr M) : LR N r := ⟨h.1, fun q hq => by rw [e]; exact h.2.1 q hq, fun w hw => by rw [e]; exact h.2.2 w hw⟩
theorem wk_eq {F : Nat} {M N : Mm} {x : Nat} (h : gi N x = gi M x) (w : WK F M x) : WK F N x := by unfold WK; rw [h]; exact w
/-- the row of a word that was told without a fault -/
theorem wb2_ok {M : Mm} {T : Nat → Int32} {t : Nat} {k b0 : Int32} {s : Tst} {b : Nat} (tc : TC M T t) (hb : b < 8) (eb : b0 = nI b) (h : (tw2 T t k s).2.2.2.2.1 = 0) : (∃ b, b < 8 ∧ wb2 T t k s b0 2 = nI b) ∧ (wb2 T t k s b0 1 < 0 ∨ ∃ d, d < 8 ∧ wb2 T t k s b0 1 = nI d) ∧ (∃ m, m < 64 ∧ wb2 T t k s b0 3 = nI m) ∧ (wb2 T t k s b0 6 < 0 ∨ ∃ f, f < 24 ∧ wb2 T t k s b0 6 = nI f) := by
  have h1 : (tw1 T t k s).2.2.2.2.1 = 0 := by
    unfold tw2 at h
    by_cases q : (tw1 T t k s).2.2.2.2.1 = 0
    · exact q
    · rw [if_neg q] at h; exact h
  unfold tw2 at h
  rw [if_pos h1] at h
  have w1 : ∀ i, i ≠ 8 → i ≠ 1 → wb1 T t k s b0 i = wb0 k b0 i := by
    intro i a c
    unfold wb1
    by_cases q : k = 5
    · rw [if_pos q, if_neg a]
    · rw [if_neg q, if_neg c]
  unfold wb2
  generalize tw1 T t k s = u at h h1
  have sy : ∀ i, i = 1 ∨ i = 2 → syr T t k u (wb1 T t k s b0) i = wb1 T t k s b0 i := by
    intro i hi
    unfold syr
    rcases hi with rfl | rfl
    · by_cases q : k13 k
      · rw [if_pos q, if_neg (by decide), if_neg (by decide)]
      · rw [if_neg q]
        by_cases q4 : k = 4
        · rw [if_pos q4, if_neg (by decide)]
        · rw [if_neg q4, if_neg (by decide), if_neg (by decide), if_neg (by decide)]
    · by_cases q : k13 k
      · rw [if_pos q, if_neg (by decide), if_neg (by decide)]
      · rw [if_neg q]
        by_cases q4 : k = 4
        · rw [if_pos q4, if_neg (by decide)]
        · rw [if_neg q4, if_neg (by decide), if_neg (by decide), if_neg (by decide)]
  refine ⟨⟨b, hb, ?_⟩, ?_, ?_, ?_⟩
  · rw [sy 2 (Or.inr rfl), w1 2 (by decide) (by decide)]; exact eb
  · rw [sy 1 (Or.inl rfl)]
    unfold wb1
    by_cases q : k = 5
    · rw [if_pos q, if_neg (by decide)]; exact Or.inl (by show (-4 : Int32) < 0; decide)
    · rw [if_neg q, if_pos rfl]
      rcases tkOv_c tc (adv T t s) with e | e
      · rw [e]; exact Or.inl (by decide)
      · exact Or.inr e
  · unfold syE at h
    unfold syr
    by_cases q : k13 k
    · rw [if_pos q, if_neg (by decide), if_neg (by decide), w1 3 (by decide) (by decide)]
      exact ⟨0, by decide, rfl⟩
    · rw [if_neg q] at h ⊢
      have f1 : (sy1 T t u).2.2.2.2.1 = 0 := by
        by_cases q4 : k = 4
        · rw [if_pos q4] at h; exact h
        · rw [if_neg q4] at h
          by_cases y : (sy1 T t u).2.2.2.2.1 = 0
          · exact y
          · rw [if_neg y] at h; exact h
      obtain ⟨m, hm, em⟩ := (tkM_ok tc f1).1
      refine ⟨m, hm, ?_⟩
      by_cases q4 : k = 4
      · rw [if_pos q4, if_pos rfl]; exact em
      · rw [if_neg q4, if_neg (by decide), if_neg (by decide), if_pos rfl]; exact em
  · unfold syE at h
    unfold syr
    by_cases q : k13 k
    · rw [if_pos q] at h ⊢
      rw [if_neg (by decide), if_pos rfl]
      obtain ⟨f, hf, ef⟩ := (tkN_ok (g := 23) (by decide) tc h).1
      exact Or.inr ⟨f, by omega, ef⟩
    · rw [if_neg q]
      left
      by_cases q4 : k = 4
      · rw [if_pos q4, if_neg (by decide), w1 6 (by decide) (by decide)]; show (-4 : Int32) < 0; decide
      · rw [if_neg q4, if_neg (by decide), if_neg (by decide), if_neg (by decide), w1 6 (by decide) (by decide)]; show (-4 : Int32) < 0; decide
