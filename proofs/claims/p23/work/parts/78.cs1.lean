/-! ===== a library of any words is settled: nothing but its own rows changes ===== -/
def ST (r : Nat) (M N : Mm) : Prop := gr N = gr M ∧ gl N = gl M ∧ gi N r 1 = gi M r 1 ∧ (∀ w, w < 24 → ∀ i, i < 9 → gi N (r + 776 + 64 * w) i = gi M (r + 776 + 64 * w) i) ∧ (∀ a, ¬ (r ≤ a ∧ a < r + 2304) → gi N a = gi M a) ∧ gi N (r + 140) = gi M (r + 140)
theorem st_rf (r : Nat) (M : Mm) : ST r M M := ⟨rfl, rfl, rfl, fun _ _ _ _ => rfl, fun _ _ => rfl, rfl⟩
theorem st_tr {r : Nat} {M N O : Mm} (f : ST r M N) (g : ST r N O) : ST r M O := ⟨g.1.trans f.1, g.2.1.trans f.2.1, g.2.2.1.trans f.2.2.1, fun w hw i hi => (g.2.2.2.1 w hw i hi).trans (f.2.2.2.1 w hw i hi), fun a h => (g.2.2.2.2.1 a h).trans (f.2.2.2.2.1 a h), g.2.2.2.2.2.trans f.2.2.2.2.2⟩
/-- a row of the library's own -/
def ox (r x j : Nat) : Prop := (r ≤ x ∧ x < r + 2304) ∧ ¬ (x = r ∧ j = 1) ∧ x ≠ r + 140 ∧ (x < r + 776 ∨ 9 ≤ j)
theorem st_si {r x j : Nat} {M : Mm} {v : Int32} (h : ox r x j) : ST r M (si M x j v) := by
  obtain ⟨h1, h2, h3, h4⟩ := h
  refine ⟨rfl, rfl, ?_, fun w hw i hi => ?_, fun a ha => gi_ne (fun e => ha (by omega)), gi_ne (Ne.symm h3)⟩
  · rw [gi_si, if_neg (fun e => h2 (by omega))]
  · rw [gi_si, if_neg (fun e => by omega)]
theorem st_fl {r x n : Nat} {M : Mm} {v : Int32} (h : r < x ∧ x < r + 776) (h2 : x ≠ r + 140) : ST r M (fl M x n v) := by
  refine ⟨rfl, rfl, ?_, fun w hw i hi => ?_, fun a ha => ?_, ?_⟩
  · rw [flR _ _ _ _ _ _ (by omega)]
  · rw [flR _ _ _ _ _ _ (by omega)]
  · funext k; rw [flR _ _ _ _ _ _ (by omega)]
  · funext k; rw [flR _ _ _ _ _ _ (Ne.symm h2)]
theorem ld_st {r D : Nat} {M N : Mm} (f : ST r M N) (l : LD M r D) : LD N r D := by
  obtain ⟨k1, k2, k3, k4⟩ := l
  refine ⟨lr_gr k1 f.1, f.2.2.1.trans k2, k3, fun w hw => ?_⟩
  have e : ∀ i, i < 9 → gi N (r + 776 + 64 * w) i = gi M (r + 776 + 64 * w) i := f.2.2.2.1 w (by omega)
  unfold WK
  rw [e 1 (by decide), e 2 (by decide), e 3 (by decide), e 6 (by decide)]
  exact k4 w hw
section CS1
variable {M : Mm} {r D : Nat}
theorem ld_le (l : LD M r D) {i : Nat} (hi : i < D) : ¬ gi M r 1 ≤ nI i := by have := l.2.2.1; rw [l.2.1]; exact nge rfl (by omega) hi
theorem ld_se (l : LD M r D) : gi M r 1 ≤ nI D := by rw [l.2.1]; exact Int32.le_refl _
theorem ld_gw (l : LD M r D) {i : Nat} (hi : i < 24) : gr M (r + 81) (nI i).toNatClampNeg = some (r + 776 + 64 * i) := by rw [ncl (by omega)]; exact l.1.2.2 i hi
theorem ld_v (l : LD M r D) {i : Nat} (hi : i < D) : vp_in (nI i) 24 := by have := l.2.2.1; exact vin (by omega) (by decide)
theorem wkk (l : LD M r D) (w : Nat) : (r + 776 + 64 * w) % 64 = 9 := by have := l.1.1; omega
theorem lS_sortWords {K : Mm → Prop} (l : LD M r D) (h : ∀ N, ST r M N → K N) : CV mLi_sortWords [.ref r] M K := by
  have hl := l.1
  have hD := l.2.2.1
  refine call_of rfl (Nat.le_of_ble_eq_true rfl) rfl (vLi_sortWords_0 hl.1 (lr7 hl) (sJr_fill (lrk hl 460 13 rfl (by decide)) ak_13 (by decide) (vLi_sortWords_8 hl.1 (lr8 hl) (sJr_fill (lrk hl 524 13 rfl (by decide)) ak_13 (by decide) (vLi_sortWords_16 hl.1 ?_)))))
  have s0 : ST r M (si (si (fl (fl M (r + 460) 8 0) (r + 524) 8 0) r 10 0) r 11 0) := st_tr (st_fl (by omega) (by omega)) (st_tr (st_fl (by omega) (by omega)) (st_tr (st_si ⟨by omega, by omega, by omega, by omega⟩) (st_si ⟨by omega, by omega, by omega, by omega⟩)))
  refine lp D (P := fun i => ∀ N, ST r M N → X mLi_sortWords 28 [(0, .ref r), (1, .int (nI i))] [] N (mC mLi_sortWords, mS mLi_sortWords) (QV K)) (fun i hi ih N sN => ?_) (fun N sN => ?_) _ s0
  · have lN := ld_st sN l
    have hN := lN.1
    obtain ⟨⟨b, hb, eb⟩, hd, -, -⟩ := lN.2.2.2 i hi
    have b80 : ∀ O, ST r M O → X mLi_sortWords 80 [(0, .ref r), (1, .int (nI i)), (2, .ref (r + 776 + 64 * i))] [] O (mC mLi_sortWords, mS mLi_sortWords) (QV K) := by
      intro O sO
      refine vLi_sortWords_80 hl.1 (wkk l i) ?_
      rw [nI_s]
      exact ih _ (st_tr sO (st_tr (st_si ⟨by omega, by omega, by omega, by omega⟩) (st_si ⟨by omega, by omega, by omega, by omega⟩)))
    refine vLi_sortWords_28 hl.1 (lr0 hN) (lr8 hN) (lr7 hN) ⟨fun q => absurd q (ld_le lN hi), fun _ => ⟨ld_v lN hi, r + 776 + 64 * i, ld_gw lN (by omega), ?_⟩⟩
    have vb : vp_in (gi N (r + 776 + 64 * i) 2) 8 := by rw [eb]; exact vin hb (by decide)
    refine ⟨vb, vb, ?_⟩
    have s1 : ∀ v, ST r M (si N (r + 524) (gi N (r + 776 + 64 * i) 2).toNatClampNeg v) := fun v => st_tr sN (st_si ⟨by omega, by omega, by omega, by omega⟩)
    have e1 : ∀ v, gi (si N (r + 524) (gi N (r + 776 + 64 * i) 2).toNatClampNeg v) (r + 776 + 64 * i) 1 = gi N (r + 776 + 64 * i) 1 := fun v => by rw [giR _ _ _ _ _ _ (by omega)]
    rw [e1]
    have vd : ¬ gi N (r + 776 + 64 * i) 1 < 0 → vp_in (gi N (r + 776 + 64 * i) 1) 8 := fun q => by
      obtain ⟨d, hd, ed⟩ := hd.resolve_left q
      rw [ed]; exact vin hd (by decide)
    exact ⟨vd, fun _ => b80 _ (s1 _), fun q => ⟨vd q, b80 _ (st_tr (s1 _) (st_si ⟨by omega, by omega, by omega, by omega⟩))⟩⟩
  · have lN := ld_st sN l
    exact vLi_sortWords_28 hl.1 (lr0 lN.1) (lr8 lN.1) (lr7 lN.1) ⟨fun _ => h N sN, fun q => absurd (ld_se lN) q⟩
theorem lS_findFollowed {K : Mm → Prop} (l : LD M r D) (h : ∀ N, ST r M N → K N) : CV mLi_findFollowed [.ref r] M K := by
  have hl := l.1
  have hD := l.2.2.1
  refine call_of rfl (Nat.le_of_ble_eq_true rfl) rfl (vLi_findFollowed_0 ?_)
  refine lp D (P := fun i => ∀ N, ST r M N → X mLi_findFollowed 2 [(0, .ref r), (1, .int (nI i))] [] N (mC mLi_findFollowed, mS mLi_findFollowed) (QV K)) (fun i hi ih N sN => ?_) (fun N sN => ?_) _ (st_rf r M)
  · have lN := ld_st sN l
    have hN := lN.1
    obtain ⟨-, hd, -, -⟩ := lN.2.2.2 i hi
    have b89 : ∀ O, ST r M O → X mLi_findFollowed 89 [(0, .ref r), (1, .int (nI i))] [] O (mC mLi_findFollowed, mS mLi_findFollowed) (QV K) := by
      intro O sO
      have lO := ld_st sO l
      refine vLi_findFollowed_89 hl.1 (lr15 lO.1) (lr14 lO.1) ⟨ld_v lO hi, ld_v lO hi, ?_⟩
      rw [nI_s]
      exact ih _ (st_tr sO (st_si ⟨by omega, by omega, by omega, by omega⟩))
    have s1 : ∀ v, ST r M (si N (r + 651) (nI i).toNatClampNeg v) := fun v => st_tr sN (st_si ⟨by omega, by omega, by omega, by omega⟩)
    have s2 : ∀ v w, ST r M (si (si N (r + 651) (nI i).toNatClampNeg v) (r + 651) (nI i).toNatClampNeg w) := fun v w => st_tr (s1 v) (st_si ⟨by omega, by omega, by omega, by omega⟩)
    refine vLi_findFollowed_2 hl.1 (lr0 hN) (lr14 hN) (lr7 hN) ⟨fun q => absurd q (ld_le lN hi), fun _ => ⟨ld_v lN hi, r + 776 + 64 * i, ld_gw lN (by omega), ld_v lN hi, fun q => ?_, fun _ => b89 _ (s1 _), fun _ => ⟨ld_v lN hi, b89 _ (s2 _ _)⟩, fun _ => ⟨ld_v lN hi, b89 _ (s2 _ _)⟩⟩⟩
    have e1 : gi (si N (r + 651) (nI i).toNatClampNeg 0) (r + 776 + 64 * i) 1 = gi N (r + 776 + 64 * i) 1 := by rw [giR _ _ _ _ _ _ (by omega)]
    rw [e1] at q ⊢
    obtain ⟨d, hd, ed⟩ := hd.resolve_left q.2.2
    rw [ed]; exact vin hd (by decide)
  · have lN := ld_st sN l
    exact vLi_findFollowed_2 hl.1 (lr0 lN.1) (lr14 lN.1) (lr7 lN.1) ⟨fun _ => h N sN, fun q => absurd (ld_se lN) q⟩
theorem lS_findRings {K : Mm → Prop} (l : LD M r D) (h : ∀ N, ST r M N → K N) : CV mLi_findRings [.ref r] M K := by
  have hl := l.1
  have hD := l.2.2.1
  refine call_of rfl (Nat.le_of_ble_eq_true rfl) rfl (vLi_findRings_0 ?_)
  have k3 : ∀ N, ST r M N → X mLi_findRings 110 [(0, .ref r), (1, .int 0)] [] N (mC mLi_findRings, mS mLi_findRings) (QV K) := by
    intro N sN
    refine lp D (P := fun i => ∀ N, ST r M N → X mLi_findRings 110 [(0, .ref r), (1, .int (nI i))] [] N (mC mLi_findRings, mS mLi_findRings) (QV K)) (fun i hi ih N sN => ?_) (fun N sN => ?_) N sN
    · have lN := ld_st sN l
      have b144 : ∀ x y, X mLi_findRings 144 [(0, .ref r), (1, .int (nI i))] [.int x, .int y, .ref r] N (mC mLi_findRings, mS mLi_findRings) (QV K) := by
        intro x y
        refine vLi_findRings_144 hl.1 ?_
        rw [nI_s]
        exact ih _ (st_tr sN (st_si ⟨by omega, by omega, by omega, by omega⟩))
      exact vLi_findRings_110 hl.1 (lr15 lN.1) ⟨fun _ => ld_v lN hi, fun q => absurd q (ld_le lN hi), fun _ => b144 _ _, fun _ => b144 _ _⟩
    · have lN := ld_st sN l
      exact vLi_findRings_110 hl.1 (lr15 lN.1) ⟨fun q => absurd (ld_se lN) q, fun _ => h N sN, fun q => absurd (ld_se lN) q.1, fun q => absurd (ld_se lN) q.1⟩
  have k2 : ∀ N, ST r M N → X mLi_findRings 67 [(0, .ref r), (1, .int 0)] [] N (mC mLi_findRings, mS mLi_findRings) (QV K) := by
    intro N sN
    refine lp D (P := fun i => ∀ N, ST r M N → X mLi_findRings 67 [(0, .ref r), (1, .int (nI i))] [] N (mC mLi_findRings, mS mLi_findRings) (QV K)) (fun i hi ih N sN => ?_) (fun N sN => ?_) N sN
    · have lN := ld_st sN l
      refine vLi_findRings_67 hl.1 (lr15 lN.1) ⟨fun _ => ld_v lN hi, fun q => absurd q (ld_le lN hi), fun _ => ?_⟩
      rw [nI_s]
      exact ih _ (st_tr sN (st_si ⟨by omega, by omega, by omega, by omega⟩))
    · have lN := ld_st sN l
      exact vLi_findRings_67 hl.1 (lr15 lN.1) ⟨fun q => absurd (ld_se lN) q, fun _ => k3 _ (st_tr sN (st_si ⟨by omega, by omega, by omega, by omega⟩)), fun q => absurd (ld_se lN) q⟩
  refine lp D (P := fun m => ∀ N, ST r M N → X mLi_findRings 2 [(0, .ref r), (1, .int (nI m))] [] N (mC mLi_findRings, mS mLi_findRings) (QV K)) (fun m hm ih N sN => ?_) (fun N sN => ?_) _ (st_rf r M)
  · have lN := ld_st sN l
    refine vLi_findRings_2 hl.1 ⟨fun q => absurd q (ld_le lN hm), fun _ => ?_⟩
    refine lp D (P := fun i => ∀ N, ST r M N → X mLi_findRings 12 [(0, .ref r), (1, .int (nI m)), (2, .int (nI i))] [] N (mC mLi_findRings, mS mLi_findRings) (QV K)) (fun i hi ih2 N sN => ?_) (fun N sN => ?_) N sN
    · have lN := ld_st sN l
      refine vLi_findRings_12 hl.1 (lr15 lN.1) ⟨fun _ => ld_v lN hi, fun q => absurd q (ld_le lN hi), fun _ => sC_holds (vLi_findRings_30 hl.1 (lr15 lN.1) ⟨fun _ => ld_v lN hi, fun _ => ld_v lN hm, fun _ => ?_, fun _ => ⟨ld_v lN hi, ?_⟩⟩)⟩
      · rw [nI_s]; exact ih2 N sN
      · rw [nI_s]; exact ih2 _ (st_tr sN (st_si ⟨by omega, by omega, by omega, by omega⟩))
    · have lN := ld_st sN l
      refine vLi_findRings_12 hl.1 (lr15 lN.1) ⟨fun q => absurd (ld_se lN) q, fun _ => ?_, fun q => absurd (ld_se lN) q⟩
      rw [nI_s]; exact ih N sN
  · have lN := ld_st sN l
    exact vLi_findRings_2 hl.1 ⟨fun _ => k2 _ (st_tr sN (st_si ⟨by omega, by omega, by omega, by omega⟩)), fun q => absurd (ld_se lN) q⟩
def sav (M : Mm) (r : Nat) (w : Int32) (c : Nat) : Int32 := if ((ushr (gi M (r + 205) c) w) &&& 1) = 1 then 1 else if ((ushr (gi M (r + 269) c) w) &&& 1) = 1 then 0 else -4
theorem sLi_saying {w : Int32} {c : Nat} {K : Int32 → Mm → Prop} (hl : LR M r) (hc : c < 64) (h : K (sav M r w c) M) : CI mLi_saying [.ref r, .int w, .int (nI c)] M K := by
  have cc : (nI c).toNatClampNeg = c := ncl (by omega)
  unfold sav at h
  refine call_of rfl (Nat.le_of_ble_eq_true rfl) rfl (vLi_saying_0 hl.1 (lr3 hl) (lr4 hl) ⟨vin hc (by decide), fun _ => vin hc (by decide), fun q => ?_, fun q => ?_, fun q => ?_⟩)
  · rw [cc] at q
    rw [if_neg q.1, if_neg q.2] at h; exact h
  · rw [cc] at q
    rw [if_neg q.1, if_pos q.2] at h; exact h
  · rw [cc] at q
    rw [if_pos q] at h; exact h
theorem lS_speak {w : Nat} {K : Mm → Prop} (l : LD M r D) (hw : w < D) (h : ∀ N, ST r M N → K N) : CV mLi_speak [.ref r, .int (nI w)] M K := by
  have hl := l.1
  have hD := l.2.2.1
  obtain ⟨-, -, ⟨m, hm, em⟩, hf⟩ := l.2.2.2 w hw
  have vm : vp_in (gi M (r + 776 + 64 * w) 3) 64 := by rw [em]; exact vin hm (by decide)
  have b84 : ∀ N v, ST r M N → X mLi_speak 84 [(0, .ref r), (1, .int (nI w)), (2, .ref (r + 776 + 64 * w)), (3, .int v), (4, .int 0)] [] N (mC mLi_speak, mS mLi_speak) (QV K) := by
    intro N v sN
    refine lp 64 (P := fun c => ∀ N, ST r M N → X mLi_speak 84 [(0, .ref r), (1, .int (nI w)), (2, .ref (r + 776 + 64 * w)), (3, .int v), (4, .int (nI c))] [] N (mC mLi_speak, mS mLi_speak) (QV K)) (fun c hc ih N sN => ?_) (fun N sN => ?_) N sN
    · have lN := ld_st sN l
      have b115 : ∀ x, X mLi_speak 115 [(0, .ref r), (1, .int (nI w)), (2, .ref (r + 776 + 64 * w)), (3, .int v), (4, .int (nI c))] [.int x] N (mC mLi_speak, mS mLi_speak) (QV K) := by
        intro x
        have vc := vin hc (show 64 < 2 ^ 31 by decide)
        refine vLi_speak_115 hl.1 (lr3 lN.1) (lr4 lN.1) ⟨vc, vc, vc, vc, ?_⟩
        rw [nI_s]
        exact ih _ (st_tr sN (st_tr (st_si ⟨by omega, by omega, by omega, by omega⟩) (st_si ⟨by omega, by omega, by omega, by omega⟩)))
      refine vLi_speak_84 (wkk l w) hl.1 ⟨fun q => absurd q (nge rfl (by decide) hc), fun _ => call_of rfl (Nat.le_of_ble_eq_true rfl) rfl (vLi_ownSaying_0 (wkk l w) ⟨fun _ => b115 _, fun _ => b115 _⟩), fun _ => call_of rfl (Nat.le_of_ble_eq_true rfl) rfl (vLi_followedSaying_0 (wkk l w) hl.1 (sLi_saying lN.1 hc (vLi_followedSaying_9 (wkk l w) ⟨fun _ => vLi_speak_105 (b115 _), fun _ => vLi_speak_105 (b115 _)⟩)))⟩
    · exact vLi_speak_84 (wkk l w) hl.1 ⟨fun _ => h N sN, fun q => absurd (nself rfl) q.1, fun q => absurd (nself rfl) q.1⟩
  have b56 : ∀ v, X mLi_speak 56 [(0, .ref r), (1, .int (nI w)), (2, .ref (r + 776 + 64 * w)), (3, .int v)] [] M (mC mLi_speak, mS mLi_speak) (QV K) := by
    intro v
    refine vLi_speak_56 (wkk l w) hl.1 (lr0 hl) ⟨fun _ => vLi_speak_81 (b84 M v (st_rf r M)), fun q => ?_⟩
    obtain ⟨f, hf, ef⟩ := hf.resolve_left q
    rw [ef]
    exact ⟨vin (show f < 24 by omega) (by decide), r + 776 + 64 * f, ld_gw l (by omega), vLi_speak_81 (b84 _ v (st_si ⟨by omega, by omega, by omega, by omega⟩))⟩
  refine call_of rfl (Nat.le_of_ble_eq_true rfl) rfl (vLi_speak_0 hl.1 (lr0 hl) (lr3 hl) (lr14 hl) (lr4 hl) ⟨ld_v l hw, r + 776 + 64 * w, ld_gw l (by omega), fun _ => vm, fun _ => ld_v l hw, fun _ => vm, fun _ => ld_v l hw, fun _ => b56 _, fun _ => sC_agreed (vLi_speak_55 (b56 _))⟩)
theorem lS_speakInOrder {K : Mm → Prop} (l : LD M r D) (h : ∀ N, ST r M N → K N) : CV mLi_speakInOrder [.ref r] M K := by
  have hl := l.1
  have hD := l.2.2.1
  refine call_of rfl (Nat.le_of_ble_eq_true rfl) rfl (vLi_speakInOrder_0 hl.1 (lr3 hl) (sJr_fill (lrk hl 205 14 rfl (by decide)) ak_14 (by decide) (vLi_speakInOrder_8 hl.1 (lr4 hl) (sJr_fill (lrk hl 269 14 rfl (by decide)) ak_14 (by decide) (vLi_speakInOrder_16 hl.1 ?_)))))
  have s0 : ST r M (fl (fl M (r + 205) 64 0) (r + 269) 64 0) := st_tr (st_fl (by omega) (by omega)) (st_fl (by omega) (by omega))
  have k2 : ∀ N, ST r M N → X mLi_speakInOrder 87 [(0, .ref r), (2, .int 0)] [] N (mC mLi_speakInOrder, mS mLi_speakInOrder) (QV K) := by
    intro N sN
    refine lp D (P := fun i => ∀ N, ST r M N → X mLi_speakInOrder 87 [(0, .ref r), (2, .int (nI i))] [] N (mC mLi_speakInOrder, mS mLi_speakInOrder) (QV K)) (fun i hi ih N sN => ?_) (fun N sN => ?_) N sN
    · have lN := ld_st sN l
      refine vLi_speakInOrder_87 hl.1 ⟨fun q => absurd q (ld_le lN hi), fun _ => sC_holds (vLi_speakInOrder_103 hl.1 (lr0 lN.1) ⟨fun _ => ?_, fun _ => ⟨ld_v lN hi, r + 776 + 64 * i, ld_gw lN (by omega), ?_⟩⟩)⟩
      · rw [nI_s]; exact ih N sN
      · rw [nI_s]; exact ih _ (st_tr sN (st_si ⟨by omega, by omega, by omega, by omega⟩))
    · have lN := ld_st sN l
      exact vLi_speakInOrder_87 hl.1 ⟨fun _ => h N sN, fun q => absurd (ld_se lN) q⟩
  refine lp D (P := fun i => ∀ N v, ST r M N → X mLi_speakInOrder 23 [(0, .ref r), (1, .int v), (2, .int (nI i))] [] N (mC mLi_speakInOrder, mS mLi_speakInOrder) (QV K)) (fun i hi ih N v sN => ?_) (fun N v sN => ?_) _ _ s0
  · have lN := ld_st sN l
    refine vLi_speakInOrder_23 hl.1 ⟨fun q => absurd q (ld_le lN hi), fun _ => ?_⟩
    refine lp D (P := fun w => ∀ N v, ST r M N → X mLi_speakInOrder 33 [(0, .ref r), (1, .int v), (2, .int (nI i)), (3, .int (nI w))] [] N (mC mLi_speakInOrder, mS mLi_speakInOrder) (QV K)) (fun w hw ih2 N v sN => ?_) (fun N v sN => ?_) N v sN
    · have lN := ld_st sN l
      refine vLi_speakInOrder_33 hl.1 ⟨fun q => absurd q (ld_le lN hw), fun _ => sC_holds (vLi_speakInOrder_46 hl.1 (lr14 lN.1) ⟨fun _ => ld_v lN hw, fun _ => ?_, fun _ => lS_speak lN hw (fun O sO => vLi_speakInOrder_67 ?_)⟩)⟩
      · rw [nI_s]; exact ih2 N v sN
      · rw [nI_s]; exact ih2 O _ (st_tr sN sO)
    · have lN := ld_st sN l
      refine vLi_speakInOrder_33 hl.1 ⟨fun _ => ?_, fun q => absurd (ld_se lN) q⟩
      rw [nI_s]; exact ih N v sN
  · have lN := ld_st sN l
    exact vLi_speakInOrder_23 hl.1 ⟨fun _ => k2 N sN, fun q => absurd (ld_se lN) q⟩
theorem lS_weightOf {w : Nat} {K : Int32 → Mm → Prop} (l : LD M r D) (hw : w < D) (h : ∀ v, K v M) : CI mLi_weightOf [.ref r, .int (nI w)] M K := by
  have hl := l.1
  have hD := l.2.2.1
  have b65 : ∀ v, v < D → X mLi_weightOf 65 [(0, .ref r), (2, .int (nI v))] [] M (mC mLi_weightOf, mS mLi_weightOf) (QI K) := by
    intro v hv
    exact vLi_weightOf_65 hl.1 (lr0 hl) ⟨ld_v l hv, r + 776 + 64 * v, ld_gw l (by omega), sJi_bitCount (fun x _ => vLi_weightOf_77 hl.1 (lr0 hl) ⟨ld_v l hv, r + 776 + 64 * v, ld_gw l (by omega), sJi_bitCount (fun y _ => vLi_weightOf_89 (h _))⟩)⟩
  have b25 : X mLi_weightOf 25 [(0, .ref r), (1, .int (nI w))] [] M (mC mLi_weightOf, mS mLi_weightOf) (QI K) := by
    refine vLi_weightOf_25 ?_
    refine lp D (P := fun i => ∀ v, v < D → X mLi_weightOf 29 [(0, .ref r), (2, .int (nI v)), (3, .int (nI i))] [] M (mC mLi_weightOf, mS mLi_weightOf) (QI K)) (fun i hi ih v hv => ?_) (fun v hv => ?_) w hw
    · obtain ⟨-, -, -, hf⟩ := l.2.2.2 v hv
      refine vLi_weightOf_29 hl.1 (lr0 hl) ⟨fun q => absurd q (ld_le l hi), fun _ => ⟨ld_v l hv, r + 776 + 64 * v, ld_gw l (by omega), fun _ => b65 v hv, fun q => ⟨ld_v l hv, r + 776 + 64 * v, ld_gw l (by omega), ?_⟩⟩⟩
      obtain ⟨f, hf, ef⟩ := hf.resolve_left q
      rw [ef, nI_s]
      exact ih f hf
    · exact vLi_weightOf_29 hl.1 (lr0 hl) ⟨fun _ => b65 v hv, fun q => absurd (ld_se l) q⟩
  exact call_of rfl (Nat.le_of_ble_eq_true rfl) rfl (vLi_weightOf_0 hl.1 (lr0 hl) ⟨ld_v l hw, r + 776 + 64 * w, ld_gw l (by omega), fun _ => b25, fun _ => sC_holds (vLi_weightOf_20 ⟨fun _ => b25, fun _ => h _⟩)⟩)
theorem lS_weighAll {K : Mm → Prop} (l : LD M r D) (h : ∀ N, ST r M N → K N) : CV mLi_weighAll [.ref r] M K := by
  have hl := l.1
  have hD := l.2.2.1
  refine call_of rfl (Nat.le_of_ble_eq_true rfl) rfl (vLi_weighAll_0 hl.1 (lr9 hl) (sJr_fill (lrk hl 590 15 rfl (by decide)) ak_15 (by decide) (vLi_weighAll_8 ?_)))
  refine lp D (P := fun i => ∀ N, ST r M N → X mLi_weighAll 10 [(0, .ref r), (1, .int (nI i))] [] N (mC mLi_weighAll, mS mLi_weighAll) (QV K)) (fun i hi ih N sN => ?_) (fun N sN => ?_) _ (st_fl (by omega) (by omega))
  · have lN := ld_st sN l
    refine vLi_weighAll_10 hl.1 ⟨fun q => absurd q (ld_le lN hi), fun _ => lS_weightOf lN hi (fun v => vLi_weighAll_23 hl.1 (lr0 lN.1) (lr9 lN.1) ⟨ld_v lN hi, r + 776 + 64 * i, ld_gw lN (by omega), fun q => ?_, fun q => ?_, fun q => ⟨?_, ?_⟩⟩)⟩
    · obtain ⟨k, hk, ek⟩ := rng (c := 7) (n := 7) rfl (by decide) q.1 q.2
      rw [ek]; exact vin hk (by decide)
    · rw [nI_s]; exact ih _ (st_tr sN (st_si ⟨by omega, by omega, by omega, by omega⟩))
    · obtain ⟨k, hk, ek⟩ := rng (c := 7) (n := 7) rfl (by decide) q.1 q.2
      rw [ek]; exact vin hk (by decide)
    · rw [nI_s]; exact ih _ (st_tr sN (st_tr (st_si ⟨by omega, by omega, by omega, by omega⟩) (st_si ⟨by omega, by omega, by omega, by omega⟩)))
  · have lN := ld_st sN l
    exact vLi_weighAll_10 hl.1 ⟨fun _ => h N sN, fun q => absurd (ld_se lN) q⟩
theorem lS_lawSaying {c : Nat} {b : Int32} {K : Int32 → Mm → Prop} (l : LD M r D) (hc : c < 64) (h : ∀ v, K v M) : CI mLi_lawSaying [.ref r, .int (nI c), .int b] M K := by
  have hl := l.1
  have hD := l.2.2.1
  refine call_of rfl (Nat.le_of_ble_eq_true rfl) rfl (vLi_lawSaying_0 hl.1 (sLi_speaking hl hc (vLi_lawSaying_5 hl.1 ?_)))
  have fin : ∀ x y, vp_in (nI c) 64 ∧ vp_in (nI c) 64 ∧ CI mC_agreed [.int x, .int y] M (fun rv N => X mLi_lawSaying 135 [] [.int rv] N (mC mLi_lawSaying, mS mLi_lawSaying) (QI K)) := fun x y => ⟨vin hc (by decide), vin hc (by decide), sC_agreed (vLi_lawSaying_135 (h _))⟩
  refine lp D (P := fun i => ∀ v x y, X mLi_lawSaying 21 [(0, .ref r), (1, .int (nI c)), (2, .int b), (3, .int v), (4, .int x), (5, .int y), (6, .int (nI i))] [] M (mC mLi_lawSaying, mS mLi_lawSaying) (QI K)) (fun i hi ih v x y => ?_) (fun v x y => ?_) _ _ _
  · refine vLi_lawSaying_21 hl.1 (lr3 hl) (lr4 hl) ⟨fun _ => fin _ _, fun _ => sC_holds (vLi_lawSaying_40 hl.1 (lr0 hl) ⟨fun _ => ?_, fun _ => ⟨ld_v l hi, r + 776 + 64 * i, ld_gw l (by omega), fun _ => vLi_lawSaying_88 ?_, fun _ => vLi_lawSaying_88 ?_⟩⟩)⟩
    · rw [nI_s]; exact ih _ _ _
    · rw [nI_s]; exact ih _ _ _
    · rw [nI_s]; exact ih _ _ _
  · exact vLi_lawSaying_21 hl.1 (lr3 hl) (lr4 hl) ⟨fun _ => fin _ _, fun q => absurd (ld_se l) q.1⟩
theorem lS_askLaws {K : Mm → Prop} (l : LD M r D) (h : ∀ N, ST r M N → K N) : CV mLi_askLaws [.ref r] M K := by
  have hl := l.1
  refine call_of rfl (Nat.le_of_ble_eq_true rfl) rfl (vLi_askLaws_0 ?_)
  refine lp 64 (P := fun c => ∀ N, ST r M N → X mLi_askLaws 2 [(0, .ref r), (1, .int (nI c))] [] N (mC mLi_askLaws, mS mLi_askLaws) (QV K)) (fun c hc ih N sN => ?_) (fun N sN => ?_) _ (st_rf r M)
  · have lN := ld_st sN l
    refine vLi_askLaws_2 hl.1 (lr5 lN.1) ⟨fun q => absurd q (nge rfl (by decide) hc), fun _ => lS_lawSaying lN hc (fun v => vLi_askLaws_19 (lrk hl 333 14 rfl (by decide)) hl.1 (lr6 lN.1) ⟨vin hc (by decide), ?_⟩)⟩
    have s1 : ST r M (si N (r + 333) (nI c).toNatClampNeg v) := st_tr sN (st_si ⟨by omega, by omega, by omega, by omega⟩)
    refine lS_lawSaying (ld_st s1 l) hc (fun v2 => vLi_askLaws_31 (lrk hl 397 14 rfl (by decide)) ⟨vin hc (by decide), ?_⟩)
    rw [nI_s]
    exact ih _ (st_tr s1 (st_si ⟨by omega, by omega, by omega, by omega⟩))
  · exact vLi_askLaws_2 hl.1 (lr5 (ld_st sN l).1) ⟨fun _ => h N sN, fun q => absurd (nself rfl) q⟩
theorem lS_settle {K : Mm → Prop} (l : LD M r D) (h : ∀ N, ST r M N → K N) : CV mLi_settle [.ref r] M K := by
  have hl := l.1
  refine call_of rfl (Nat.le_of_ble_eq_true rfl) rfl (vLi_settle_0 hl.1 (lS_sortWords l (fun N1 s1 => vLi_settle_4 hl.1 (lS_findFollowed (ld_st s1 l) (fun N2 s2 => vLi_settle_8 hl.1 (lS_findRings (ld_st (st_tr s1 s2) l) (fun N3 s3 => vLi_settle_12 hl.1 (lS_speakInOrder (ld_st (st_tr s1 (st_tr s2 s3)) l) (fun N4 s4 => vLi_settle_16 hl.1 (lS_weighAll (ld_st (st_tr s1 (st_tr s2 (st_tr s3 s4))) l) (fun N5 s5 => vLi_settle_20 hl.1 (lS_askLaws (ld_st (st_tr s1 (st_tr s2 (st_tr s3 (st_tr s4 s5)))) l) (fun N6 s6 => vLi_settle_24 (h N6 (st_tr s1 (st_tr s2 (st_tr s3 (st_tr s4 (st_tr s5 s6)))))))))))))))))))
end CS1
