/-! ===== the class's settling, exactly: words sorted, followed, rings ===== -/
theorem bt_or1 (x : Int32) {i v : Nat} (hi : i < 32) (hv : v < 32) : bt (x ||| ((1 : Int32) <<< (nI i &&& 31))) v = true ↔ bt x v = true ∨ v = i := by
  rw [b_or, b_one i hi v hv, Bool.or_eq_true, decide_eq_true_eq]
theorem bt_orp (x : Int32) {p : Prop} [Decidable p] {i v : Nat} (hi : i < 32) (hv : v < 32) : bt (x ||| (if p then ((1 : Int32) <<< (nI i &&& 31)) else 0)) v = true ↔ bt x v = true ∨ (p ∧ v = i) := by
  by_cases q : p
  · rw [if_pos q, bt_or1 x hi hv]
    exact ⟨fun h => h.imp id (fun e => ⟨q, e⟩), fun h => h.imp id (fun e => e.2)⟩
  · rw [if_neg q, or_032]
    exact ⟨Or.inl, fun h => h.elim id (fun e => absurd e.1 q)⟩
/-- words sorted by doctor, book, law and note: those less than n -/
def SW (N : Mm) (r : Nat) (g : Nat → Nat → Int32) (n : Nat) : Prop :=
  (∀ d, d < 8 → ∀ v, v < 32 → (bt (gi N (r + 460) d) v = true ↔ v < n ∧ g v 1 = nI d)) ∧
  (∀ b, b < 8 → ∀ v, v < 32 → (bt (gi N (r + 524) b) v = true ↔ v < n ∧ g v 2 = nI b)) ∧
  (∀ v, v < 32 → (bt (gi N r 10) v = true ↔ v < n ∧ g v 0 = 5)) ∧
  (∀ v, v < 32 → (bt (gi N r 11) v = true ↔ v < n ∧ g v 0 = 3))
/-- what a word follows, of rows -/
def fosg (g : Nat → Nat → Int32) (w : Nat) : Nat → Int32
  | 0 => 0
  | v + 1 => fosg g w v ||| (if g v 1 = g w 1 ∧ ¬ g v 0 = 3 then ((1 : Int32) <<< (nI v &&& 31)) else 0)
def fowg (g : Nat → Nat → Int32) (w : Nat) : Int32 := if g w 0 = 4 then fosg g w w else if g w 6 = -4 then 0 else (1 : Int32) <<< (g w 6 &&& 31)
theorem fosg_e (M : Mm) (w : Nat) : ∀ v, fos M w v = fosg (wd M) w v
  | 0 => rfl
  | v + 1 => by rw [fos, fosg, fosg_e M w v]
theorem fowg_e (M : Mm) (w : Nat) : fow M w = fowg (wd M) w := by unfold fow fowg; rw [fosg_e]
theorem fosg_cg {g g' : Nat → Nat → Int32} {w : Nat} : ∀ v, (∀ u, u < v → g u 0 = g' u 0 ∧ g u 1 = g' u 1) → g w 1 = g' w 1 → fosg g w v = fosg g' w v
  | 0, _, _ => rfl
  | v + 1, h, e => by
    rw [fosg, fosg, fosg_cg v (fun u hu => h u (by omega)) e, (h v (by omega)).1, (h v (by omega)).2, e]
theorem fowg_cg {g g' : Nat → Nat → Int32} {n w : Nat} (hw : w < n) (h : ∀ u, u < n → ∀ i, i < 7 → g u i = g' u i) : fowg g w = fowg g' w := by
  unfold fowg
  rw [fosg_cg w (fun u hu => ⟨h u (by omega) 0 (by decide), h u (by omega) 1 (by decide)⟩) (h w hw 1 (by decide)), h w hw 0 (by decide), h w hw 6 (by decide)]
theorem fosg_b (g : Nat → Nat → Int32) (w : Nat) : ∀ n, n ≤ 32 → ∀ v, v < 32 → (bt (fosg g w n) v = true ↔ v < n ∧ g v 1 = g w 1 ∧ ¬ g v 0 = 3)
  | 0, _, v, _ => by rw [fosg, b_0]; simp
  | n + 1, h, v, hv => by
    rw [fosg, bt_orp _ (show n < 32 by omega) hv, fosg_b g w n (by omega) v hv]
    constructor
    · rintro (q | ⟨q, rfl⟩)
      · exact ⟨by omega, q.2⟩
      · exact ⟨by omega, q⟩
    · rintro ⟨q1, q2⟩
      by_cases e : v = n
      · subst e; exact Or.inr ⟨q2, rfl⟩
      · exact Or.inl ⟨by omega, q2⟩
/-- rows that following may be asked of -/
def RF (g : Nat → Nat → Int32) (w : Nat) : Prop := (g w 6 = -4 ∨ ∃ f, f < 24 ∧ g w 6 = nI f) ∧ (g w 0 = 4 → g w 6 = -4 ∧ ∃ d, d < 8 ∧ g w 1 = nI d)
/-- the steps' field stays -/
def KT (r : Nat) (M N : Mm) : Prop := ∀ w, w < 24 → gi N (r + 776 + 64 * w) 10 = gi M (r + 776 + 64 * w) 10
theorem kt_si {r x j : Nat} {M N : Mm} {v : Int32} (h : x < r + 776) (k : KT r M N) : KT r M (si N x j v) := fun w hw => by rw [giR _ _ _ _ _ _ (by omega)]; exact k w hw
theorem kt_fl {r x n : Nat} {M N : Mm} {v : Int32} (h : x < r + 776) (k : KT r M N) : KT r M (fl N x n v) := fun w hw => by rw [flR _ _ _ _ _ _ (by omega)]; exact k w hw
section EQK
variable {M : Mm} {r D : Nat}
theorem eS_sortWords {K : Mm → Prop} (l : LD M r D) (h : ∀ N, ST r M N → SW N r (fun w i => gi M (r + 776 + 64 * w) i) D → (∀ w, w < 24 → gi N (r + 776 + 64 * w) 10 = gi M (r + 776 + 64 * w) 10) → K N) : CV mLi_sortWords [.ref r] M K := by
  have hl := l.1
  have hD := l.2.2.1
  generalize eg : (fun w i => gi M (r + 776 + 64 * w) i) = g at h
  have ge : ∀ w i, g w i = gi M (r + 776 + 64 * w) i := fun w i => by rw [← eg]
  refine call_of rfl (Nat.le_of_ble_eq_true rfl) rfl (vLi_sortWords_0 hl.1 (lr7 hl) (sJr_fill (lrk hl 460 13 rfl (by decide)) ak_13 (by decide) (vLi_sortWords_8 hl.1 (lr8 hl) (sJr_fill (lrk hl 524 13 rfl (by decide)) ak_13 (by decide) (vLi_sortWords_16 hl.1 ?_)))))
  have s0 : ST r M (si (si (fl (fl M (r + 460) 8 0) (r + 524) 8 0) r 10 0) r 11 0) := st_tr (st_fl (by omega) (by omega)) (st_tr (st_fl (by omega) (by omega)) (st_tr (st_si ⟨by omega, by omega, by omega, by omega⟩) (st_si ⟨by omega, by omega, by omega, by omega⟩)))
  have w0 : SW (si (si (fl (fl M (r + 460) 8 0) (r + 524) 8 0) r 10 0) r 11 0) r g 0 := by
    refine ⟨fun d hd v hv => ?_, fun b hb v hv => ?_, fun v hv => ?_, fun v hv => ?_⟩
    · rw [giR _ _ _ _ _ _ (by omega), giR _ _ _ _ _ _ (by omega), flR _ _ _ _ _ _ (by omega), gi_fl, if_pos ⟨rfl, hd⟩, b_0]; simp
    · rw [giR _ _ _ _ _ _ (by omega), giR _ _ _ _ _ _ (by omega), gi_fl, if_pos ⟨rfl, hb⟩, b_0]; simp
    · rw [gxs, if_neg (by decide), gxs, if_pos rfl, b_0]; simp
    · rw [gxs, if_pos rfl, b_0]; simp
  refine lp D (P := fun i => ∀ N, ST r M N → KT r M N → SW N r g i → X mLi_sortWords 28 [(0, .ref r), (1, .int (nI i))] [] N (mC mLi_sortWords, mS mLi_sortWords) (QV K)) (fun i hi ih N sN kN wN => ?_) (fun N sN kN wN => ?_) _ s0 (kt_si (by omega) (kt_si (by omega) (kt_fl (by omega) (kt_fl (by omega) (fun _ _ => rfl))))) w0
  · have lN := ld_st sN l
    have hN := lN.1
    have hi32 : i < 32 := by omega
    obtain ⟨⟨b, hb, eb⟩, hd, -, -⟩ := lN.2.2.2 i hi
    have rw_ : ∀ O, ST r M O → ∀ j, j < 9 → gi O (r + 776 + 64 * i) j = g i j := fun O sO j hj => by rw [sO.2.2.2.1 i (by omega) j hj, ge]
    have gb : g i 2 = nI b := by rw [← rw_ N sN 2 (by decide)]; exact eb
    have nx : ∀ (p : Nat → Prop) (x : Prop) (v : Nat), ((v < i ∧ p v) ∨ (v = i ∧ x)) → (x ↔ p i) → (v < i + 1 ∧ p v) := by
      intro p x v q e
      rcases q with q | ⟨rfl, q⟩
      · exact ⟨by omega, q.2⟩
      · exact ⟨by omega, e.mp q⟩
    have b80 : ∀ O, ST r M O → KT r M O → (∀ d, d < 8 → ∀ v, v < 32 → (bt (gi O (r + 460) d) v = true ↔ v < i + 1 ∧ g v 1 = nI d)) → (∀ b, b < 8 → ∀ v, v < 32 → (bt (gi O (r + 524) b) v = true ↔ v < i + 1 ∧ g v 2 = nI b)) → gi O r 10 = gi N r 10 → gi O r 11 = gi N r 11 → X mLi_sortWords 80 [(0, .ref r), (1, .int (nI i)), (2, .ref (r + 776 + 64 * i))] [] O (mC mLi_sortWords, mS mLi_sortWords) (QV K) := by
      intro O sO kO w1 w2 e10 e11
      refine vLi_sortWords_80 hl.1 (wkk l i) ?_
      have r0 := rw_ O sO 0 (by decide)
      have r0' : ∀ v, gi (si O r 10 v) (r + 776 + 64 * i) 0 = g i 0 := fun v => by rw [giR _ _ _ _ _ _ (by omega)]; exact r0
      have r11 : ∀ v, gi (si O r 10 v) r 11 = gi O r 11 := fun v => by rw [gxs, if_neg (by decide)]
      rw [nI_s, r0', r0, r11, e10, e11]
      refine ih _ (st_tr sO (st_tr (st_si ⟨by omega, by omega, by omega, by omega⟩) (st_si ⟨by omega, by omega, by omega, by omega⟩))) (kt_si (by omega) (kt_si (by omega) kO)) ⟨fun d hd v hv => ?_, fun b hb v hv => ?_, fun v hv => ?_, fun v hv => ?_⟩
      · rw [giR _ _ _ _ _ _ (by omega), giR _ _ _ _ _ _ (by omega)]; exact w1 d hd v hv
      · rw [giR _ _ _ _ _ _ (by omega), giR _ _ _ _ _ _ (by omega)]; exact w2 b hb v hv
      · rw [gxs, if_neg (by decide), gxs, if_pos rfl, bt_orp _ hi32 hv, wN.2.2.1 v hv]
        constructor
        · rintro (q | ⟨q, rfl⟩)
          · exact ⟨by omega, q.2⟩
          · exact ⟨by omega, q⟩
        · rintro ⟨q1, q2⟩
          by_cases e : v = i
          · subst e; exact Or.inr ⟨q2, rfl⟩
          · exact Or.inl ⟨by omega, q2⟩
      · rw [gxs, if_pos rfl, bt_orp _ hi32 hv, wN.2.2.2 v hv]
        constructor
        · rintro (q | ⟨q, rfl⟩)
          · exact ⟨by omega, q.2⟩
          · exact ⟨by omega, q⟩
        · rintro ⟨q1, q2⟩
          by_cases e : v = i
          · subst e; exact Or.inr ⟨q2, rfl⟩
          · exact Or.inl ⟨by omega, q2⟩
    refine vLi_sortWords_28 hl.1 (lr0 hN) (lr8 hN) (lr7 hN) ⟨fun q => absurd q (ld_le lN hi), fun _ => ⟨ld_v lN hi, r + 776 + 64 * i, ld_gw lN (by omega), ?_⟩⟩
    have vb : vp_in (gi N (r + 776 + 64 * i) 2) 8 := by rw [eb]; exact vin hb (by decide)
    refine ⟨vb, vb, ?_⟩
    have cb : (gi N (r + 776 + 64 * i) 2).toNatClampNeg = b := by rw [eb]; exact ncl (by omega)
    rw [cb]
    generalize eA : si N (r + 524) b (gi N (r + 524) b ||| ((1 : Int32) <<< (nI i &&& 31))) = A
    have sA : ST r M A := by rw [← eA]; exact st_tr sN (st_si ⟨by omega, by omega, by omega, by omega⟩)
    have kA : KT r M A := by rw [← eA]; exact kt_si (by omega) kN
    have a1 := rw_ A sA 1 (by decide)
    have n1 := rw_ N sN 1 (by decide)
    have aA : ∀ d, gi A (r + 460) d = gi N (r + 460) d := fun d => by rw [← eA, giR _ _ _ _ _ _ (by omega)]
    have aR : ∀ k, gi A r k = gi N r k := fun k => by rw [← eA, giR _ _ _ _ _ _ (by omega)]
    have w2A : ∀ b, b < 8 → ∀ v, v < 32 → (bt (gi A (r + 524) b) v = true ↔ v < i + 1 ∧ g v 2 = nI b) := by
      intro b' hb' v hv
      rw [← eA, gxs]
      by_cases e : b' = b
      · subst e
        rw [if_pos rfl, bt_or1 _ hi32 hv, wN.2.1 b' hb' v hv]
        constructor
        · rintro (q | rfl)
          · exact ⟨by omega, q.2⟩
          · exact ⟨by omega, gb⟩
        · rintro ⟨q1, q2⟩
          by_cases e : v = i
          · exact Or.inr e
          · exact Or.inl ⟨by omega, q2⟩
      · rw [if_neg e, wN.2.1 b' hb' v hv]
        constructor
        · rintro ⟨q1, q2⟩; exact ⟨by omega, q2⟩
        · rintro ⟨q1, q2⟩
          by_cases ev : v = i
          · subst ev
            rw [gb, ninj (by omega) (by omega)] at q2
            exact absurd q2.symm e
          · exact ⟨by omega, q2⟩
    rw [a1]
    have hd' : g i 1 < 0 ∨ ∃ d, d < 8 ∧ g i 1 = nI d := by rw [← n1]; exact hd
    have vd : ¬ g i 1 < 0 → vp_in (g i 1) 8 := fun q => by
      obtain ⟨d, hd, ed⟩ := hd'.resolve_left q
      rw [ed]; exact vin hd (by decide)
    refine ⟨vd, fun q => b80 A sA kA (fun d hd v hv => ?_) w2A (aR 10) (aR 11), fun q => ⟨vd q, ?_⟩⟩
    · rw [aA, wN.1 d hd v hv]
      constructor
      · rintro ⟨q1, q2⟩; exact ⟨by omega, q2⟩
      · rintro ⟨q1, q2⟩
        by_cases ev : v = i
        · subst ev
          rw [q2] at q
          exact absurd q (n0 d (by omega))
        · exact ⟨by omega, q2⟩
    · obtain ⟨d0, hd0, ed0⟩ := hd'.resolve_left q
      have cd : (g i 1).toNatClampNeg = d0 := by rw [ed0]; exact ncl (by omega)
      rw [cd, aA]
      refine b80 _ (st_tr sA (st_si ⟨by omega, by omega, by omega, by omega⟩)) (kt_si (by omega) kA) (fun d hd v hv => ?_) (fun b hb v hv => ?_) ?_ ?_
      · rw [gxs]
        by_cases e : d = d0
        · subst e
          rw [if_pos rfl, bt_or1 _ hi32 hv, wN.1 d hd v hv]
          constructor
          · rintro (q | rfl)
            · exact ⟨by omega, q.2⟩
            · exact ⟨by omega, ed0⟩
          · rintro ⟨q1, q2⟩
            by_cases e : v = i
            · exact Or.inr e
            · exact Or.inl ⟨by omega, q2⟩
        · rw [if_neg e, aA, wN.1 d hd v hv]
          constructor
          · rintro ⟨q1, q2⟩; exact ⟨by omega, q2⟩
          · rintro ⟨q1, q2⟩
            by_cases ev : v = i
            · subst ev
              rw [ed0, ninj (by omega) (by omega)] at q2
              exact absurd q2.symm e
            · exact ⟨by omega, q2⟩
      · rw [giR _ _ _ _ _ _ (by omega)]; exact w2A b hb v hv
      · rw [giR _ _ _ _ _ _ (by omega)]; exact aR 10
      · rw [giR _ _ _ _ _ _ (by omega)]; exact aR 11
  · have lN := ld_st sN l
    exact vLi_sortWords_28 hl.1 (lr0 lN.1) (lr8 lN.1) (lr7 lN.1) ⟨fun _ => h N sN wN kN, fun q => absurd (ld_se lN) q⟩
/-- what a like follows, as the class reckons it -/
theorem like_e {g : Nat → Nat → Int32} {n w : Nat} {od nt : Int32} {d : Nat} (hn : n ≤ 24) (hw : w < n) (h1 : ∀ v, v < 32 → (bt od v = true ↔ v < n ∧ g v 1 = nI d)) (h2 : ∀ v, v < 32 → (bt nt v = true ↔ v < n ∧ g v 0 = 3)) (ed : g w 1 = nI d) : ((od &&& (((1 : Int32) <<< (nI w &&& 31)) - 1)) &&& (nt ^^^ (-1))) = fosg g w w := by
  refine b_ext (fun v hv => ?_)
  have e1 : bt (nt ^^^ (-1)) v = !bt nt v := by
    have e : bt (-1) v = true := by
      have : ∀ v, v < 32 → bt (-1) v = true := by decide +kernel
      exact this v hv
    have : bt (nt ^^^ (-1)) v = (bt nt v ^^ bt (-1) v) := by unfold bt; rw [Int32.toBitVec_xor, BitVec.getLsbD_xor]
    rw [this, e, Bool.xor_true]
  have e2 : bt (((1 : Int32) <<< (nI w &&& 31)) - 1) v = decide (v < w) := mask_b w (by omega) v hv
  rw [Bool.eq_iff_iff, fosg_b g w w (by omega) v hv, b_and, b_and, e1, e2, Bool.and_eq_true, Bool.and_eq_true, decide_eq_true_eq, h1 v hv, Bool.not_eq_true', ed]
  constructor
  · rintro ⟨⟨⟨q1, q2⟩, q3⟩, q4⟩
    refine ⟨q3, q2, fun z => ?_⟩
    rw [(h2 v hv).mpr ⟨q1, z⟩] at q4
    exact absurd q4 (by decide)
  · rintro ⟨q1, q2, q3⟩
    refine ⟨⟨⟨by omega, q2⟩, q1⟩, ?_⟩
    by_cases z : bt nt v = true
    · exact absurd ((h2 v hv).mp z).2 q3
    · exact Bool.not_eq_true _ ▸ z
end EQK
