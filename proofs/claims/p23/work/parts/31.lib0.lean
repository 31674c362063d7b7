/-! ===== a library without words ===== -/
def lrt : List (Nat × Nat) := [(0, 81), (2, 140), (3, 205), (4, 269), (5, 333), (6, 397), (7, 460), (8, 524), (9, 590), (14, 651), (15, 715)]
/-- how a library lies -/
def LR (M : Mm) (r : Nat) : Prop := r % 64 = 1 ∧ (∀ q ∈ lrt, gr M r q.1 = some (r + q.2)) ∧ ∀ w, w < 24 → gr M (r + 81) w = some (r + 776 + 64 * w)
theorem lr0 {M : Mm} {r : Nat} (h : LR M r) : gr M r 0 = some (r + 81) := h.2.1 (0, 81) (by decide)
theorem lr2 {M : Mm} {r : Nat} (h : LR M r) : gr M r 2 = some (r + 140) := h.2.1 (2, 140) (by decide)
theorem lr3 {M : Mm} {r : Nat} (h : LR M r) : gr M r 3 = some (r + 205) := h.2.1 (3, 205) (by decide)
theorem lr4 {M : Mm} {r : Nat} (h : LR M r) : gr M r 4 = some (r + 269) := h.2.1 (4, 269) (by decide)
theorem lr5 {M : Mm} {r : Nat} (h : LR M r) : gr M r 5 = some (r + 333) := h.2.1 (5, 333) (by decide)
theorem lr6 {M : Mm} {r : Nat} (h : LR M r) : gr M r 6 = some (r + 397) := h.2.1 (6, 397) (by decide)
theorem lr7 {M : Mm} {r : Nat} (h : LR M r) : gr M r 7 = some (r + 460) := h.2.1 (7, 460) (by decide)
theorem lr8 {M : Mm} {r : Nat} (h : LR M r) : gr M r 8 = some (r + 524) := h.2.1 (8, 524) (by decide)
theorem lr9 {M : Mm} {r : Nat} (h : LR M r) : gr M r 9 = some (r + 590) := h.2.1 (9, 590) (by decide)
theorem lr14 {M : Mm} {r : Nat} (h : LR M r) : gr M r 14 = some (r + 651) := h.2.1 (14, 651) (by decide)
theorem lr15 {M : Mm} {r : Nat} (h : LR M r) : gr M r 15 = some (r + 715) := h.2.1 (15, 715) (by decide)
theorem lrk {M : Mm} {r : Nat} (h : LR M r) (o k : Nat) (ho : o % 64 + 1 = k) (hk : k < 64) : (r + o) % 64 = k := by have := h.1; omega
theorem giR (M : Mm) (a j b k : Nat) (v : Int32) (h : b ≠ a) : gi (si M a j v) b k = gi M b k := by rw [gi_si, if_neg (fun q => h q.1)]
theorem flR (M : Mm) (a n b k : Nat) (v : Int32) (h : b ≠ a) : gi (fl M a n v) b k = gi M b k := by rw [gi_fl, if_neg (fun q => h q.1)]
theorem sLi_clear {M : Mm} {r : Nat} {K : Mm → Prop} (hl : LR M r) (h : K (fl (si M r 1 0) (r + 140) 8 2)) : CV mLi_clear [.ref r] M K := by
  refine call_of rfl (Nat.le_of_ble_eq_true rfl) rfl ?_
  refine vLi_clear_0 hl.1 (lr2 hl) ?_
  refine sJr_fill (lrk hl 140 13 rfl (by decide)) ak_13 (by decide) ?_
  exact vLi_clear_13 h
def sw0 (M : Mm) (r : Nat) : Mm := si (si (fl (fl M (r + 460) 8 0) (r + 524) 8 0) r 10 0) r 11 0
theorem sLi_sortWords0 {M : Mm} {r : Nat} {K : Mm → Prop} (hl : LR M r) (hz : gi M r 1 = 0) (h : K (sw0 M r)) : CV mLi_sortWords [.ref r] M K := by
  refine call_of rfl (Nat.le_of_ble_eq_true rfl) rfl ?_
  refine vLi_sortWords_0 hl.1 (lr7 hl) ?_
  refine sJr_fill (lrk hl 460 13 rfl (by decide)) ak_13 (by decide) ?_
  refine vLi_sortWords_8 hl.1 (lr8 hl) ?_
  refine sJr_fill (lrk hl 524 13 rfl (by decide)) ak_13 (by decide) ?_
  refine vLi_sortWords_16 hl.1 ?_
  have e : gi (sw0 M r) r 1 = 0 := by
    unfold sw0
    rw [gi_si, if_neg (by simp), gi_si, if_neg (by simp), flR _ _ _ _ _ _ (by omega), flR _ _ _ _ _ _ (by omega)]
    exact hz
  refine vLi_sortWords_28 hl.1 (lr0 hl) (lr8 hl) (lr7 hl) ⟨fun _ => h, fun q => ?_⟩
  exact absurd (show gi (sw0 M r) r 1 ≤ 0 by rw [e]; exact Int32.le_refl _) q
theorem sLi_findFollowed0 {M : Mm} {r : Nat} {K : Mm → Prop} (hl : LR M r) (hz : gi M r 1 = 0) (h : K M) : CV mLi_findFollowed [.ref r] M K := by
  refine call_of rfl (Nat.le_of_ble_eq_true rfl) rfl ?_
  refine vLi_findFollowed_0 ?_
  exact vLi_findFollowed_2 hl.1 (lr0 hl) (lr14 hl) (lr7 hl) ⟨fun _ => h, fun q => absurd (by rw [hz]; exact Int32.le_refl _) q⟩
def fr0 (M : Mm) (r : Nat) : Mm := si (si M r 12 0) r 13 0
theorem sLi_findRings0 {M : Mm} {r : Nat} {K : Mm → Prop} (hl : LR M r) (hz : gi M r 1 = 0) (h : K (fr0 M r)) : CV mLi_findRings [.ref r] M K := by
  refine call_of rfl (Nat.le_of_ble_eq_true rfl) rfl ?_
  refine vLi_findRings_0 ?_
  refine vLi_findRings_2 hl.1 ⟨fun _ => ?_, fun q => absurd (by rw [hz]; exact Int32.le_refl _) q⟩
  have e1 : gi (si M r 12 0) r 1 ≤ 0 := by rw [gi_si, if_neg (by simp), hz]; exact Int32.le_refl _
  have e2 : gi (si M r 12 0) r 12 = 0 := by rw [gi_si, if_pos ⟨rfl, rfl⟩]
  refine vLi_findRings_67 hl.1 (lr15 hl) ⟨fun q => absurd e1 q, fun _ => ?_, fun q => absurd e1 q⟩
  rw [e2]
  have e3 : gi (fr0 M r) r 1 ≤ 0 := by unfold fr0; rw [gi_si, if_neg (by simp)]; exact e1
  exact vLi_findRings_110 hl.1 (lr15 hl) ⟨fun q => absurd e3 q, fun _ => h, fun q => absurd e3 q.1, fun q => absurd e3 q.1⟩
def so0 (M : Mm) (r : Nat) : Mm := fl (fl M (r + 205) 64 0) (r + 269) 64 0
theorem sLi_speakInOrder0 {M : Mm} {r : Nat} {K : Mm → Prop} (hl : LR M r) (hz : gi M r 1 = 0) (h : K (so0 M r)) : CV mLi_speakInOrder [.ref r] M K := by
  refine call_of rfl (Nat.le_of_ble_eq_true rfl) rfl ?_
  refine vLi_speakInOrder_0 hl.1 (lr3 hl) ?_
  refine sJr_fill (lrk hl 205 14 rfl (by decide)) ak_14 (by decide) ?_
  refine vLi_speakInOrder_8 hl.1 (lr4 hl) ?_
  refine sJr_fill (lrk hl 269 14 rfl (by decide)) ak_14 (by decide) ?_
  have e : gi (so0 M r) r 1 ≤ 0 := by unfold so0; rw [flR _ _ _ _ _ _ (by omega), flR _ _ _ _ _ _ (by omega), hz]; exact Int32.le_refl _
  refine vLi_speakInOrder_16 hl.1 ?_
  refine vLi_speakInOrder_23 hl.1 ⟨fun _ => ?_, fun q => absurd e q⟩
  exact vLi_speakInOrder_87 hl.1 ⟨fun _ => h, fun q => absurd e q⟩
theorem sLi_weighAll0 {M : Mm} {r : Nat} {K : Mm → Prop} (hl : LR M r) (hz : gi M r 1 = 0) (h : K (fl M (r + 590) 7 0)) : CV mLi_weighAll [.ref r] M K := by
  refine call_of rfl (Nat.le_of_ble_eq_true rfl) rfl ?_
  refine vLi_weighAll_0 hl.1 (lr9 hl) ?_
  refine sJr_fill (lrk hl 590 15 rfl (by decide)) ak_15 (by decide) ?_
  refine vLi_weighAll_8 ?_
  exact vLi_weighAll_10 hl.1 ⟨fun _ => h, fun q => absurd (by rw [flR _ _ _ _ _ _ (by omega), hz]; exact Int32.le_refl _) q⟩
theorem sLi_speaking {M : Mm} {r i : Nat} {K : Int32 → Mm → Prop} (hl : LR M r) (hi : i < 64) (h : K (gi M (r + 205) i ||| gi M (r + 269) i) M) : CI mLi_speaking [.ref r, .int (nI i)] M K := by
  refine call_of rfl (Nat.le_of_ble_eq_true rfl) rfl ?_
  refine vLi_speaking_0 hl.1 (lr3 hl) (lr4 hl) ⟨vin hi (by decide), vin hi (by decide), ?_⟩
  rw [ncl (by omega)]
  exact h
theorem sLi_lawSaying0 {M : Mm} {r i : Nat} {v : Int32} {K : Int32 → Mm → Prop} (hl : LR M r) (hz : gi M r 1 = 0) (hi : i < 64) (h : K (-4) M) : CI mLi_lawSaying [.ref r, .int (nI i), .int v] M K := by
  refine call_of rfl (Nat.le_of_ble_eq_true rfl) rfl ?_
  refine vLi_lawSaying_0 hl.1 ?_
  refine sLi_speaking hl hi ?_
  refine vLi_lawSaying_5 hl.1 ?_
  have e : gi M r 1 ≤ 0 := by rw [hz]; exact Int32.le_refl _
  refine vLi_lawSaying_21 hl.1 (lr3 hl) (lr4 hl) ⟨fun _ => ⟨vin hi (by decide), vin hi (by decide), ?_⟩, fun q => absurd e q.1⟩
  refine sC_agreed ?_
  refine vLi_lawSaying_135 ?_
  rw [Int32.and_zero, Int32.and_zero]
  exact h
def al0 (M : Mm) (r i : Nat) : Mm := fl (fl M (r + 333) i (-4)) (r + 397) i (-4)
theorem al0_s (M : Mm) (r i : Nat) : si (si (al0 M r i) (r + 333) i (-4)) (r + 397) i (-4) = al0 M r (i + 1) := by
  refine mm_ext rfl (fun b k => ?_) (fun _ _ => rfl) (fun _ _ => rfl)
  unfold al0
  simp only [gi_si, gi_fl]
  by_cases h1 : b = r + 397 <;> by_cases h2 : b = r + 333 <;> by_cases h3 : k = i <;> by_cases h4 : k < i <;> simp [h1, h2, h3, h4] <;> omega
theorem sLi_askLaws0 {M : Mm} {r : Nat} {K : Mm → Prop} (hl : LR M r) (hz : gi M r 1 = 0) (h : K (al0 M r 64)) : CV mLi_askLaws [.ref r] M K := by
  refine call_of rfl (Nat.le_of_ble_eq_true rfl) rfl ?_
  refine vLi_askLaws_0 ?_
  have key := lp 64 (P := fun i => X mLi_askLaws 2 [(0, .ref r), (1, .int (nI i))] [] (al0 M r i) (mC mLi_askLaws, mS mLi_askLaws) (QV K)) (fun i hi ih => ?_) ?_
  · rw [al0, fl_0, fl_0] at key
    exact key
  · have e : gi (al0 M r i) r 1 = 0 := by unfold al0; rw [flR _ _ _ _ _ _ (by omega), flR _ _ _ _ _ _ (by omega), hz]
    refine vLi_askLaws_2 hl.1 (lr5 hl) ⟨fun q => absurd q (nge rfl (by decide) hi), fun _ => ?_⟩
    refine sLi_lawSaying0 hl e hi ?_
    refine vLi_askLaws_19 (lrk hl 333 14 rfl (by decide)) hl.1 (lr6 hl) ⟨vin hi (by decide), ?_⟩
    refine sLi_lawSaying0 hl (by rw [giR _ _ _ _ _ _ (by omega)]; exact e) hi ?_
    refine vLi_askLaws_31 (lrk hl 397 14 rfl (by decide)) ⟨vin hi (by decide), ?_⟩
    rw [ncl (by omega), al0_s, nI_s]
    exact ih
  · exact vLi_askLaws_2 hl.1 (lr5 hl) ⟨fun _ => h, fun q => absurd (nself rfl) q⟩
/-- a library without words, settled -/
def st0 (M : Mm) (r : Nat) : Mm := al0 (fl (so0 (fr0 (sw0 M r) r) r) (r + 590) 7 0) r 64
theorem sLi_settle0 {M : Mm} {r : Nat} {K : Mm → Prop} (hl : LR M r) (hz : gi M r 1 = 0) (h : K (st0 M r)) : CV mLi_settle [.ref r] M K := by
  have e1 : gi (sw0 M r) r 1 = 0 := by unfold sw0; rw [gi_si, if_neg (by simp), gi_si, if_neg (by simp), flR _ _ _ _ _ _ (by omega), flR _ _ _ _ _ _ (by omega), hz]
  have e2 : gi (fr0 (sw0 M r) r) r 1 = 0 := by unfold fr0; rw [gi_si, if_neg (by simp), gi_si, if_neg (by simp), e1]
  have e3 : gi (so0 (fr0 (sw0 M r) r) r) r 1 = 0 := by unfold so0; rw [flR _ _ _ _ _ _ (by omega), flR _ _ _ _ _ _ (by omega), e2]
  refine call_of rfl (Nat.le_of_ble_eq_true rfl) rfl ?_
  refine vLi_settle_0 hl.1 (sLi_sortWords0 hl hz ?_)
  refine vLi_settle_4 hl.1 (sLi_findFollowed0 hl e1 ?_)
  refine vLi_settle_8 hl.1 (sLi_findRings0 hl e1 ?_)
  refine vLi_settle_12 hl.1 (sLi_speakInOrder0 hl e2 ?_)
  refine vLi_settle_16 hl.1 (sLi_weighAll0 hl e3 ?_)
  refine vLi_settle_20 hl.1 (sLi_askLaws0 hl (by rw [flR _ _ _ _ _ _ (by omega), e3]) ?_)
  exact vLi_settle_24 h
