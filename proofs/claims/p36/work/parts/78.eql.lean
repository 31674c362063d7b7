/-! ===== the class's settling, exactly: followed, rings ===== -/
section EQL
variable {M : Mm} {r D : Nat}
/-- all but two rows of the library stay -/
def F2 (r : Nat) (M N : Mm) : Prop := gr N = gr M ∧ gl N = gl M ∧ ∀ a, a ≠ r + 651 → a ≠ r + 715 → gi N a = gi M a
theorem f2_rf (r : Nat) (M : Mm) : F2 r M M := ⟨rfl, rfl, fun _ _ _ => rfl⟩
theorem f2_si {r j : Nat} {M N : Mm} {a : Nat} {v : Int32} (h : a = r + 651 ∨ a = r + 715) (f : F2 r M N) : F2 r M (si N a j v) := by
  refine ⟨f.1, f.2.1, fun b n1 n2 => ?_⟩
  rw [gi_ne (by omega)]; exact f.2.2 b n1 n2
theorem f2_st {r : Nat} {M N : Mm} (f : F2 r M N) : ST r M N := by
  obtain ⟨f1, f2, f3⟩ := f
  refine ⟨f1, f2, by rw [f3 r (by omega) (by omega)], fun w hw i hi => by rw [f3 _ (by omega) (by omega)], fun a ha => f3 a (by omega) (by omega), f3 _ (by omega) (by omega)⟩
theorem eS_findFollowed {K : Mm → Prop} {g : Nat → Nat → Int32} (l : LD M r D) (sw : SW M r g D) (eg : ∀ w, w < D → ∀ i, i < 7 → gi M (r + 776 + 64 * w) i = g w i) (rf : ∀ w, w < D → RF g w) (h : ∀ N, F2 r M N → (∀ w, w < D → gi N (r + 651) w = fowg g w ∧ gi N (r + 715) w = fowg g w) → K N) : CV mLi_findFollowed [.ref r] M K := by
  have hl := l.1
  have hD := l.2.2.1
  refine call_of rfl (Nat.le_of_ble_eq_true rfl) rfl (vLi_findFollowed_0 ?_)
  refine lp D (P := fun i => ∀ N, F2 r M N → (∀ w, w < i → gi N (r + 651) w = fowg g w ∧ gi N (r + 715) w = fowg g w) → X mLi_findFollowed 2 [(0, .ref r), (1, .int (nI i))] [] N (mC mLi_findFollowed, mS mLi_findFollowed) (QV K)) (fun i hi ih N fN wN => ?_) (fun N fN wN => ?_) _ (f2_rf r M) (fun w hw => absurd hw (by omega))
  · have sN := f2_st fN
    have lN := ld_st sN l
    have hN := lN.1
    have ci : (nI i).toNatClampNeg = i := ncl (by omega)
    have rw_ : ∀ O, F2 r M O → ∀ j, j < 7 → gi O (r + 776 + 64 * i) j = g i j := fun O fO j hj => by rw [fO.2.2 _ (by omega) (by omega)]; exact eg i hi j hj
    obtain ⟨r6, r4⟩ := rf i hi
    have b89 : ∀ O, F2 r M O → (∀ w, w < i → gi O (r + 651) w = fowg g w ∧ gi O (r + 715) w = fowg g w) → gi O (r + 651) i = fowg g i → X mLi_findFollowed 89 [(0, .ref r), (1, .int (nI i))] [] O (mC mLi_findFollowed, mS mLi_findFollowed) (QV K) := by
      intro O fO wO e
      have lO := ld_st (f2_st fO) l
      refine vLi_findFollowed_89 hl.1 (lr15 lO.1) (lr14 lO.1) ⟨ld_v lO hi, ld_v lO hi, ?_⟩
      rw [nI_s, ci, e]
      refine ih _ (f2_si (Or.inr rfl) fO) (fun w hw => ?_)
      rw [giR _ _ _ _ _ _ (show r + 651 ≠ r + 715 by omega), gxs]
      by_cases z : w = i
      · rw [if_pos z, z]; exact ⟨e, rfl⟩
      · rw [if_neg z]; exact wO w (by omega)
    have f1 : F2 r M (si N (r + 651) i 0) := f2_si (Or.inl rfl) fN
    have w1 : ∀ v w, w < i → gi (si N (r + 651) i v) (r + 651) w = fowg g w ∧ gi (si N (r + 651) i v) (r + 715) w = fowg g w := fun v w hw => by
      rw [gxs, if_neg (by omega), giR _ _ _ _ _ _ (show r + 715 ≠ r + 651 by omega)]; exact wN w hw
    have x0 := rw_ _ f1 0 (by decide)
    have x1 := rw_ _ f1 1 (by decide)
    have x6 := rw_ _ f1 6 (by decide)
    refine vLi_findFollowed_2 hl.1 (lr0 hN) (lr14 hN) (lr7 hN) ⟨fun q => absurd q (ld_le lN hi), fun _ => ⟨ld_v lN hi, r + 776 + 64 * i, ld_gw lN (by omega), ld_v lN hi, ?_⟩⟩
    rw [ci, x0, x1, x6]
    refine ⟨fun q => ?_, fun q => ?_, fun q => ⟨ld_v lN hi, ?_⟩, fun q => ⟨ld_v lN hi, ?_⟩⟩
    · obtain ⟨-, d, hd, ed⟩ := r4 q.2.1
      rw [ed]; exact vin hd (by decide)
    · refine b89 _ f1 (w1 0) ?_
      rw [gxs, if_pos rfl]
      unfold fowg
      have n4 : ¬ g i 0 = 4 := by
        rcases q with q | q
        · exact q.2
        · intro z
          obtain ⟨-, d, hd, ed⟩ := r4 z
          rw [ed] at q
          exact n0 d (by omega) q.2.2
      have e6 : g i 6 = -4 := by
        rcases r6 with z | ⟨f, hf, ef⟩
        · exact z
        · exfalso
          have : g i 6 < 0 := q.elim (fun q => q.1) (fun q => q.1)
          rw [ef] at this
          exact n0 f (by omega) this
      rw [if_neg n4, if_pos e6]
    · obtain ⟨e6, d, hd, ed⟩ := r4 q.2.1
      have cd : (g i 1).toNatClampNeg = d := by rw [ed]; exact ncl (by omega)
      have o1 : gi (si N (r + 651) i 0) (r + 460) d = gi M (r + 460) d := by rw [f1.2.2 _ (by omega) (by omega)]
      have o2 : gi (si N (r + 651) i 0) r 11 = gi M r 11 := by rw [f1.2.2 _ (by omega) (by omega)]
      rw [cd, o1, o2, like_e (g := g) (n := D) hD hi (sw.1 d hd) sw.2.2.2 ed, si_si]
      refine b89 _ (f2_si (Or.inl rfl) fN) (w1 _) ?_
      rw [gxs, if_pos rfl]
      unfold fowg
      rw [if_pos q.2.1]
    · rw [si_si]
      refine b89 _ (f2_si (Or.inl rfl) fN) (w1 _) ?_
      rw [gxs, if_pos rfl]
      have n6 : ¬ g i 6 = -4 := fun z => by rw [z] at q; exact q (by decide)
      have n4 : ¬ g i 0 = 4 := fun z => n6 (r4 z).1
      unfold fowg
      rw [if_neg n4, if_neg n6]
  · have lN := ld_st (f2_st fN) l
    exact vLi_findFollowed_2 hl.1 (lr0 lN.1) (lr14 lN.1) (lr7 lN.1) ⟨fun _ => h N fN wN, fun q => absurd (ld_se lN) q⟩
/-- what the rings may change -/
def F3 (r : Nat) (M N : Mm) : Prop := gr N = gr M ∧ gl N = gl M ∧ (∀ a, a ≠ r → a ≠ r + 715 → gi N a = gi M a) ∧ ∀ k, k ≠ 12 → k ≠ 13 → gi N r k = gi M r k
theorem f3_rf (r : Nat) (M : Mm) : F3 r M M := ⟨rfl, rfl, fun _ _ _ => rfl, fun _ _ _ => rfl⟩
theorem f3_15 {r j : Nat} {M N : Mm} {v : Int32} (f : F3 r M N) : F3 r M (si N (r + 715) j v) := by
  refine ⟨f.1, f.2.1, fun b n1 n2 => ?_, fun k n1 n2 => ?_⟩
  · rw [gi_ne (by omega)]; exact f.2.2.1 b n1 n2
  · rw [giR _ _ _ _ _ _ (by omega)]; exact f.2.2.2 k n1 n2
theorem f3_12 {r j : Nat} {M N : Mm} {v : Int32} (h : j = 12 ∨ j = 13) (f : F3 r M N) : F3 r M (si N r j v) := by
  refine ⟨f.1, f.2.1, fun b n1 n2 => ?_, fun k n1 n2 => ?_⟩
  · rw [gi_ne n1]; exact f.2.2.1 b n1 n2
  · rw [gxs, if_neg (by omega)]; exact f.2.2.2 k n1 n2
theorem f3_st {r : Nat} {M N : Mm} (f : F3 r M N) : ST r M N := by
  obtain ⟨f1, f2, f3, f4⟩ := f
  refine ⟨f1, f2, f4 1 (by decide) (by decide), fun w hw i hi => by rw [f3 _ (by omega) (by omega)], fun a ha => f3 a (by omega) (by omega), f3 _ (by omega) (by omega)⟩
theorem eS_findRings {K : Mm → Prop} {R : Nat → Int32} (l : LD M r D) (hR : ∀ w, w < D → gi M (r + 715) w = R w) (h : ∀ N, F3 r M N → (∀ w, w < D → gi N (r + 715) w = wlr R D w) → gi N r 12 = rg (wlr R D) D → gi N r 13 = ug (wlr R D) (rg (wlr R D) D) D → K N) : CV mLi_findRings [.ref r] M K := by
  have hl := l.1
  have hD := l.2.2.1
  refine call_of rfl (Nat.le_of_ble_eq_true rfl) rfl (vLi_findRings_0 ?_)
  have k3 : ∀ N, F3 r M N → (∀ w, w < D → gi N (r + 715) w = wlr R D w) → gi N r 12 = rg (wlr R D) D → gi N r 13 = rg (wlr R D) D → X mLi_findRings 110 [(0, .ref r), (1, .int 0)] [] N (mC mLi_findRings, mS mLi_findRings) (QV K) := by
    intro N fN rN e12 e13
    refine lp D (P := fun i => ∀ N, F3 r M N → (∀ w, w < D → gi N (r + 715) w = wlr R D w) → gi N r 12 = rg (wlr R D) D → gi N r 13 = ug (wlr R D) (rg (wlr R D) D) i → X mLi_findRings 110 [(0, .ref r), (1, .int (nI i))] [] N (mC mLi_findRings, mS mLi_findRings) (QV K)) (fun i hi ih N fN rN e12 e13 => ?_) (fun N fN rN e12 e13 => ?_) N fN rN e12 e13
    · have lN := ld_st (f3_st fN) l
      have ci : (nI i).toNatClampNeg = i := ncl (by omega)
      have b144 : ∀ x, x = (if (wlr R D i &&& rg (wlr R D) D) = 0 then 0 else ((1 : Int32) <<< (nI i &&& 31))) → X mLi_findRings 144 [(0, .ref r), (1, .int (nI i))] [.int x, .int (gi N r 13), .ref r] N (mC mLi_findRings, mS mLi_findRings) (QV K) := by
        intro x ex
        refine vLi_findRings_144 hl.1 ?_
        rw [nI_s]
        refine ih _ (f3_12 (Or.inr rfl) fN) (fun w hw => by rw [giR _ _ _ _ _ _ (by omega)]; exact rN w hw) (by rw [gxs, if_neg (by decide)]; exact e12) ?_
        rw [gxs, if_pos rfl, e13, ex, ug]
      refine vLi_findRings_110 hl.1 (lr15 lN.1) ⟨fun _ => ld_v lN hi, fun q => absurd q (ld_le lN hi), fun q => b144 _ ?_, fun q => b144 _ ?_⟩
      · rw [ci, rN i hi, e12] at q
        rw [if_pos q.2]
      · rw [ci, rN i hi, e12] at q
        rw [if_neg q.2]
    · have lN := ld_st (f3_st fN) l
      exact vLi_findRings_110 hl.1 (lr15 lN.1) ⟨fun q => absurd (ld_se lN) q, fun _ => h N fN rN e12 e13, fun q => absurd (ld_se lN) q.1, fun q => absurd (ld_se lN) q.1⟩
  have k2 : ∀ N, F3 r M N → (∀ w, w < D → gi N (r + 715) w = wlr R D w) → gi N r 12 = 0 → X mLi_findRings 67 [(0, .ref r), (1, .int 0)] [] N (mC mLi_findRings, mS mLi_findRings) (QV K) := by
    intro N fN rN e12
    refine lp D (P := fun i => ∀ N, F3 r M N → (∀ w, w < D → gi N (r + 715) w = wlr R D w) → gi N r 12 = rg (wlr R D) i → X mLi_findRings 67 [(0, .ref r), (1, .int (nI i))] [] N (mC mLi_findRings, mS mLi_findRings) (QV K)) (fun i hi ih N fN rN e12 => ?_) (fun N fN rN e12 => ?_) N fN rN e12
    · have lN := ld_st (f3_st fN) l
      have ci : (nI i).toNatClampNeg = i := ncl (by omega)
      refine vLi_findRings_67 hl.1 (lr15 lN.1) ⟨fun _ => ld_v lN hi, fun q => absurd q (ld_le lN hi), fun _ => ?_⟩
      rw [nI_s, ci, rN i hi, e12]
      refine ih _ (f3_12 (Or.inl rfl) fN) (fun w hw => by rw [giR _ _ _ _ _ _ (by omega)]; exact rN w hw) ?_
      rw [gxs, if_pos rfl, rg]
    · have lN := ld_st (f3_st fN) l
      refine vLi_findRings_67 hl.1 (lr15 lN.1) ⟨fun q => absurd (ld_se lN) q, fun _ => ?_, fun q => absurd (ld_se lN) q⟩
      refine k3 _ (f3_12 (Or.inr rfl) fN) (fun w hw => by rw [giR _ _ _ _ _ _ (by omega)]; exact rN w hw) ?_ ?_
      · rw [gxs, if_neg (by decide)]; exact e12
      · rw [gxs, if_pos rfl]; exact e12
  refine lp D (P := fun m => ∀ N, F3 r M N → (∀ w, w < D → gi N (r + 715) w = wlr R m w) → X mLi_findRings 2 [(0, .ref r), (1, .int (nI m))] [] N (mC mLi_findRings, mS mLi_findRings) (QV K)) (fun m hm ih N fN rN => ?_) (fun N fN rN => ?_) _ (f3_rf r M) hR
  · have lN := ld_st (f3_st fN) l
    have cm : (nI m).toNatClampNeg = m := ncl (by omega)
    refine vLi_findRings_2 hl.1 ⟨fun q => absurd q (ld_le lN hm), fun _ => ?_⟩
    refine lp D (P := fun i => ∀ N, F3 r M N → (∀ w, w < D → gi N (r + 715) w = if w < i then wlr R (m + 1) w else wlr R m w) → X mLi_findRings 12 [(0, .ref r), (1, .int (nI m)), (2, .int (nI i))] [] N (mC mLi_findRings, mS mLi_findRings) (QV K)) (fun i hi ih2 N fN rN => ?_) (fun N fN rN => ?_) N fN (fun w hw => by rw [if_neg (Nat.not_lt_zero w)]; exact rN w hw)
    · have lN := ld_st (f3_st fN) l
      have ci : (nI i).toNatClampNeg = i := ncl (by omega)
      have ri : gi N (r + 715) i = wlr R m i := by rw [rN i hi, if_neg (by omega)]
      have rm : gi N (r + 715) m = wlr R m m := by
        rw [rN m hm]
        split
        · rw [wlr, wrf_m]
        · rfl
      have e1 : wlr R (m + 1) i = wlr R m i ||| (if ((wlr R m i >>> (nI m &&& 31)) &&& 1) = 1 then wlr R m m else 0) := by rw [wlr]; rfl
      refine vLi_findRings_12 hl.1 (lr15 lN.1) ⟨fun _ => ld_v lN hi, fun q => absurd q (ld_le lN hi), fun _ => sC_holds (vLi_findRings_30 hl.1 (lr15 lN.1) ⟨fun _ => ld_v lN hi, fun _ => ld_v lN hm, fun q => ?_, fun q => ⟨ld_v lN hi, ?_⟩⟩)⟩
      · rw [ci, ri] at q
        have nb : ¬ bt (wlr R m i) m = true := fun y => by
          rw [if_pos ((bitu _ (by omega)).mpr y)] at q
          exact absurd q (by decide)
        rw [nI_s]
        refine ih2 N fN (fun w hw => ?_)
        rw [rN w hw]
        by_cases z : w = i
        · rw [if_neg (by omega), if_pos (by omega), z, e1, if_neg (fun y => nb ((bit1 _ (by omega)).mp y)), or_032]
        · by_cases z2 : w < i
          · rw [if_pos z2, if_pos (by omega)]
          · rw [if_neg z2, if_neg (by omega)]
      · rw [ci, ri] at q
        have bb : bt (wlr R m i) m = true := by
          by_cases y : bt (wlr R m i) m = true
          · exact y
          · rw [if_neg (fun x => y ((bitu _ (by omega)).mp x))] at q
            exact absurd rfl q
        rw [nI_s, ci, cm, ri, rm]
        refine ih2 _ (f3_15 fN) (fun w hw => ?_)
        rw [gxs]
        by_cases z : w = i
        · rw [if_pos z, if_pos (by omega), z, e1, if_pos ((bit1 _ (by omega)).mpr bb)]
        · rw [if_neg z, rN w hw]
          by_cases z2 : w < i
          · rw [if_pos z2, if_pos (by omega)]
          · rw [if_neg z2, if_neg (by omega)]
    · have lN := ld_st (f3_st fN) l
      refine vLi_findRings_12 hl.1 (lr15 lN.1) ⟨fun q => absurd (ld_se lN) q, fun _ => ?_, fun q => absurd (ld_se lN) q⟩
      rw [nI_s]
      exact ih N fN (fun w hw => by rw [rN w hw, if_pos hw])
  · have lN := ld_st (f3_st fN) l
    refine vLi_findRings_2 hl.1 ⟨fun _ => k2 _ (f3_12 (Or.inl rfl) fN) (fun w hw => by rw [giR _ _ _ _ _ _ (by omega)]; exact rN w hw) ?_, fun q => absurd (ld_se lN) q⟩
    rw [gxs, if_pos rfl]
end EQL
