/-! ===== the reference at any state: the tape, copies, sheets ===== -/
section GM10
variable {M N : Mm} {W : Nat}
theorem pr1 {W : Nat} (hW : W < 2 ^ 31) : (nI W - 1).toInt + 1 = (nI W).toInt := by
  rcases Nat.eq_zero_or_pos W with e | e
  · subst e; decide
  · have e2 : nI W - 1 = nI (W - 1) := by
      rw [show W = (W - 1) + 1 by omega, ← nI_s, show W - 1 + 1 - 1 = W - 1 by omega]
      exact Int32.add_sub_cancel _ _
    rw [e2]
    show (Int32.ofNat (W - 1)).toInt + 1 = (Int32.ofNat W).toInt
    rw [Int32.toInt_ofNat_of_lt (by omega), Int32.toInt_ofNat_of_lt (by omega)]; omega
def d8 (i : Nat) : Int32 := 56 - 8 * nI i
theorem d8_s : ∀ i, i < 8 → d8 i + (-8) = d8 (i + 1) ∧ ¬ d8 i < 0 := by decide +kernel
def byt (v : Int64) (i : Nat) : Int32 := ((v >>> ((d8 i).toInt64 &&& 63)) &&& 255).toInt32
/-- the first i bytes are fed behind t -/
def FD (t : Nat) (v : Int64) (i : Nat) (M N : Mm) : Prop := gr N = gr M ∧ gl N = gl M ∧ (∀ a, a ≠ 6486 → a ≠ 6027 → gi N a = gi M a) ∧ (∀ k, gi N 6027 k = if k = 11 then nI (t + i) else gi M 6027 k) ∧ ∀ k, gi N 6486 k = if t ≤ k ∧ k < t + i then byt v (k - t) else gi M 6486 k
theorem tM_feed {v : Int64} {t : Nat} {K : Int32 → Mm → Prop} (hm : MR M) (ht : gi M 6027 11 = nI t) (ht2 : t ≤ 400) (h0 : 392 < t → K (-3) M) (h1 : t ≤ 392 → ∀ N, FD t v 8 M N → K (nI (t + 8)) N) : CI mM_feed [.ref 6027, .long v] M K := by
  have e8 : nI t + 8 = nI (t + 8) := by
    show Int32.ofNat t + Int32.ofNat 8 = Int32.ofNat (t + 8)
    rw [Int32.ofNat_add]
  refine call_of rfl (Nat.le_of_ble_eq_true rfl) rfl (vM_feed_0 rfl ⟨fun q => ?_, fun q => h0 ?_⟩)
  · rw [ht, e8] at q
    have hl : t ≤ 392 := by
      have : nI (t + 8) ≤ nI 400 := q
      rw [nle (by decide) (by omega)] at this
      omega
    have key := lp 8 (P := fun i => ∀ N, FD t v i M N → X mM_feed 19 [(0, .ref 6027), (1, .long v), (3, .int (d8 i))] [] N (mC mM_feed, mS mM_feed) (QI K)) (fun i hi ih N s => ?_) (fun N s => ?_)
    · refine key M ⟨rfl, rfl, fun _ _ _ => rfl, fun k => ?_, fun k => by rw [if_neg (by omega)]⟩
      by_cases e : k = 11
      · rw [if_pos e, e, ht]; rfl
      · rw [if_neg e]
    · obtain ⟨s1, s2, s3, s4, s5⟩ := s
      obtain ⟨d1, d2⟩ := d8_s i hi
      have e : gi N 6027 11 = nI (t + i) := by rw [s4, if_pos rfl]
      refine vM_feed_19 rfl (mr10 (mr_w hm s1)) ⟨fun q => absurd q d2, fun _ => ?_⟩
      rw [e]
      refine ⟨vin (by omega) (by decide), ?_⟩
      rw [giR _ _ _ _ _ _ (by decide), e, ncl (by omega), nI_s, d1]
      refine ih _ ⟨s1, s2, fun a h1 h2 => ?_, fun k => ?_, fun k => ?_⟩
      · rw [← s3 a h1 h2]; funext k; rw [giR _ _ _ _ _ _ h2, giR _ _ _ _ _ _ h1]
      · rw [gi_si]
        by_cases e : k = 11
        · rw [if_pos ⟨rfl, e⟩, if_pos e]; rfl
        · rw [if_neg (fun q => e q.2), giR _ _ _ _ _ _ (by decide), s4, if_neg e, if_neg e]
      · rw [giR _ _ _ _ _ _ (by decide), gi_si]
        by_cases e : k = t + i
        · rw [if_pos ⟨rfl, e⟩, if_pos ⟨by omega, by omega⟩, e, show t + i - t = i by omega]; rfl
        · rw [if_neg (fun q => e q.2), s5]
          by_cases l : t ≤ k ∧ k < t + i
          · rw [if_pos l, if_pos ⟨l.1, by omega⟩]
          · rw [if_neg l, if_neg (fun r => l ⟨r.1, by omega⟩)]
    · refine vM_feed_19 rfl (mr10 (mr_w hm s.1)) ⟨fun _ => ?_, fun q => absurd (by decide +kernel) q⟩
      rw [s.2.2.2.1, if_pos rfl]
      exact h1 hl N s
  · rw [ht, e8] at q
    have : ¬ nI (t + 8) ≤ nI 400 := q
    rw [nle (by decide) (by omega)] at this
    omega
theorem tM_copies {b n : Int32} {K : Int32 → Mm → Prop} (hm : MR M) (h0 : (b < 0 ∨ 7 < b ∨ n < 0 ∨ 9 < n) → K (-1) M) (h1 : ∀ i, i < 8 → b = nI i → ¬ n < 0 → ¬ 9 < n → K (gi M 6157 i) (si M 6157 i n)) : CI mM_copies [.ref 6027, .int b, .int n] M K := by
  refine call_of rfl (Nat.le_of_ble_eq_true rfl) rfl (vM_copies_0 (sM_in (l := 0) (m := 7) rfl rfl (fun q => vM_copies_9 ⟨fun _ => h0 (q.imp id Or.inl), fun q => absurd rfl q⟩) (fun q1 q2 => vM_copies_9 ⟨fun q => absurd q (by decide), fun _ => sM_in (l := 0) (m := 9) rfl rfl (fun q => vM_copies_21 rfl (mr2 hm) ⟨fun q => absurd rfl q, fun q => absurd rfl q, fun _ => h0 (Or.inr (Or.inr q))⟩) (fun p1 p2 => ?_)⟩)))
  obtain ⟨i, hi, rfl⟩ := rngL (c := 7) (n := 7) rfl (by decide) q1 q2
  refine vM_copies_21 rfl (mr2 hm) ⟨fun _ => vin hi (by decide), fun _ => ⟨vin hi (by decide), ?_⟩, fun q => absurd q (by decide)⟩
  rw [ncl (by omega)]
  exact h1 i hi rfl p1 p2
theorem sM_isSheet {k l : Int32} {K : Int32 → Mm → Prop} (h1 : (isS k && isL l) = false → K 0 M) (h2 : ∀ i, i < 4 → k = nI i → ¬ l < 0 → ¬ 2 < l → K 1 M) : CI mM_isSheet [.int k, .int l] M K := by
  refine call_of rfl (Nat.le_of_ble_eq_true rfl) rfl (vM_isSheet_0 (sM_in (l := 0) (m := 3) rfl rfl (fun q => vM_isSheet_9 ⟨fun _ => h1 ?_, fun q => absurd rfl q⟩) (fun q1 q2 => vM_isSheet_9 ⟨fun q => absurd q (by decide), fun _ => sM_in (l := 0) (m := 2) rfl rfl (fun q => vM_isSheet_21 ⟨fun _ => h1 ?_, fun q => absurd rfl q⟩) (fun p1 p2 => vM_isSheet_21 ⟨fun q => absurd q (by decide), fun _ => ?_⟩)⟩)))
  · rw [nS (q.imp id (sgt (by decide)).mp), Bool.false_and]
  · rw [nL q, Bool.and_false]
  · obtain ⟨i, hi, e⟩ := rngL (c := 3) (n := 3) rfl (by decide) q1 q2
    exact h2 i hi e p1 p2
/-- a sheet renewed, its first c cells -/
def SH (i : Nat) (l n : Int32) (c : Nat) (M N : Mm) : Prop := gr N = gr M ∧ gl N = gl M ∧ (∀ a, a ≠ 7644 → a ≠ 7708 → a ≠ 7773 → gi N a = gi M a) ∧ (∀ k, gi N 7644 k = if k = i then l else gi M 7644 k) ∧ (∀ k, gi N 7708 k = if k = i then n else gi M 7708 k) ∧ ∀ k, gi N 7773 k = if 40 * i ≤ k ∧ k < 40 * i + c then 0 else gi M 7773 k
theorem nI_40 (i c : Nat) : 40 * nI i + nI c = nI (40 * i + c) := by
  show (40 : Int32) * Int32.ofNat i + Int32.ofNat c = Int32.ofNat (40 * i + c)
  rw [Int32.ofNat_add, Int32.ofNat_mul]; rfl
theorem tM_sheet {k l n : Int32} {K : Int32 → Mm → Prop} (hm : MR M) (h0 : ((isS k && isL l) = false ∨ ¬ n ≤ 40) → K (-1) M) (h1 : (isS k && isL l) = true → n ≤ 40 → ¬ 0 ≤ n → K (-14) M) (h2 : ∀ i, i < 4 → k = nI i → isL l = true → n ≤ 40 → 0 ≤ n → ∀ N, SH i l n 40 M N → K 1 N) : CI mM_sheet [.ref 6027, .int k, .int l, .int n] M K := by
  refine call_of rfl (Nat.le_of_ble_eq_true rfl) rfl (vM_sheet_0 (sM_isSheet (fun q => ?_) (fun i hi e p1 p2 => ?_)))
  · exact vM_sheet_5 rfl (mr40 hm) (mr41 hm) ⟨fun _ => h0 (Or.inl q), fun q => absurd rfl q.1, fun q => absurd rfl q.1⟩
  · subst e
    refine vM_sheet_5 rfl (mr40 hm) (mr41 hm) ⟨fun q => h0 (Or.inr ?_), fun q => ⟨vin hi (by decide), vin hi (by decide), ?_⟩, fun q => h1 ?_ q.2.1 q.2.2⟩
    · rcases q with q | q
      · exact absurd q (by decide)
      · exact q.2
    · rw [ncl (by omega)]
      have key := lp 40 (P := fun c => ∀ N, SH i l n c M N → X mM_sheet 40 [(0, .ref 6027), (1, .int (nI i)), (4, .int (nI c))] [] N (mC mM_sheet, mS mM_sheet) (QI K)) (fun c hc ih N s => ?_) (fun N s => ?_)
      · refine key _ ⟨rfl, rfl, fun a h1 h2 h3 => ?_, fun k => ?_, fun k => ?_, fun k => ?_⟩
        · funext k; rw [giR _ _ _ _ _ _ h2, giR _ _ _ _ _ _ h1]
        · rw [giR _ _ _ _ _ _ (by decide), gi_si]
          by_cases e : k = i
          · rw [if_pos ⟨rfl, e⟩, if_pos e]
          · rw [if_neg (fun q => e q.2), if_neg e]
        · rw [gi_si]
          by_cases e : k = i
          · rw [if_pos ⟨rfl, e⟩, if_pos e]
          · rw [if_neg (fun q => e q.2), if_neg e, giR _ _ _ _ _ _ (by decide)]
        · rw [giR _ _ _ _ _ _ (by decide), giR _ _ _ _ _ _ (by decide), if_neg (by omega)]
      · obtain ⟨s1, s2, s3, s4, s5, s6⟩ := s
        refine vM_sheet_40 rfl (mr42 (mr_w hm s1)) ⟨fun q => absurd q (nge rfl (by decide) hc), fun _ => ?_⟩
        rw [nI_40, nI_s, ncl (by omega)]
        refine ⟨vin (by omega) (by decide), ih _ ⟨s1, s2, fun a h1 h2 h3 => ?_, fun k => ?_, fun k => ?_, fun k => ?_⟩⟩
        · rw [← s3 a h1 h2 h3]; funext k; rw [giR _ _ _ _ _ _ h3]
        · rw [giR _ _ _ _ _ _ (by decide), s4]
        · rw [giR _ _ _ _ _ _ (by decide), s5]
        · rw [gi_si]
          by_cases e : k = 40 * i + c
          · rw [if_pos ⟨rfl, e⟩, if_pos ⟨by omega, by omega⟩]
          · rw [if_neg (fun q => e q.2), s6]
            by_cases l : 40 * i ≤ k ∧ k < 40 * i + c
            · rw [if_pos l, if_pos ⟨l.1, by omega⟩]
            · rw [if_neg l, if_neg (fun r => l ⟨r.1, by omega⟩)]
      · exact vM_sheet_40 rfl (mr42 (mr_w hm s.1)) ⟨fun _ => h2 i hi rfl (yL p1 p2) q.2.1 q.2.2 N s, fun q => absurd (nself rfl) q⟩
    · rw [yS hi, yL p1 p2]; rfl
/-- what is laid in a lane -/
def layv (l v : Int32) : Int32 := if l = 0 then v.toInt8.toInt32 else if l = 1 then v.toInt16.toInt32 else v
theorem tM_lay {k i v : Int32} {K : Int32 → Mm → Prop} (hm : MR M) (hs : ∀ e, e < 4 → ∃ n, n ≤ 40 ∧ gi M 7708 e = nI n) (h0 : isS k = false → K (-1) M) (h1 : ∀ e, e < 4 → k = nI e → gi M 7644 e = -4 → K (-11) M) (h2 : ∀ e, e < 4 → k = nI e → ¬ gi M 7644 e = -4 → (i < 0 ∨ gi M 7708 e ≤ i) → K (-12) M) (h3 : ∀ e c n, e < 4 → k = nI e → i = nI c → n ≤ 40 → gi M 7708 e = nI n → c < n → ¬ gi M 7644 e = -4 → K 1 (si M 7773 (40 * e + c) (layv (gi M 7644 e) v))) : CI mM_lay [.ref 6027, .int k, .int i, .int v] M K := by
  refine call_of rfl (Nat.le_of_ble_eq_true rfl) rfl (vM_lay_0 (sM_isSheet (fun q => ?_) (fun e he ee p1 p2 => ?_)))
  · refine vM_lay_5 rfl (mr40 hm) (mr41 hm) ⟨fun q => absurd rfl q, fun q => absurd rfl q.1, fun q => absurd rfl q.1, fun q => absurd rfl q.1, fun _ => h0 ?_⟩
    rw [show isL 0 = true from by decide, Bool.and_true] at q; exact q
  · subst ee
    obtain ⟨n, hn, en⟩ := hs e he
    have nn : (nI e).toNatClampNeg = e := ncl (by omega)
    refine vM_lay_5 rfl (mr40 hm) (mr41 hm) ⟨fun _ => vin he (by decide), fun _ => vin he (by decide), fun q => ?_, fun q => h1 e he rfl (by rw [nn] at q; exact q.2), fun q => absurd q (by decide)⟩
    rw [nn] at q ⊢
    refine sM_in (l := 0) (m := gi M 7708 e - 1) rfl rfl (fun p => vM_lay_39 rfl (mr42 hm) (mr40 hm) ⟨fun q => absurd rfl q, fun q => absurd rfl q.1, fun q => absurd rfl q.1, fun q => absurd rfl q.1, fun q => absurd rfl q.1, fun _ => h2 e he rfl q.2 (p.imp id (fun p => ?_))⟩) (fun q1 q2 => ?_)
    · rw [en] at p ⊢; exact (sgt (pr1 (by omega))).mp p
    · obtain ⟨c, hc, rfl⟩ := nI_of q1
      have hcn : c < n := by
        have : ¬ nI n ≤ nI c := fun r => q2 (by rw [en]; exact (sgt (pr1 (by omega))).mpr r)
        rw [nle hc (by omega)] at this; omega
      have fin : ∀ x, x = layv (gi M 7644 e) v → X mM_lay 85 [] [.int x, .int ((40 * nI e) + nI c), .ref 7773] M (mC mM_lay, mS mM_lay) (QI K) := by
        rintro x rfl
        refine vM_lay_85 rfl ?_
        rw [nI_40, ncl (by omega)]
        exact ⟨vin (by omega) (by decide), h3 e c n he rfl rfl hn en hcn q.2⟩
      refine vM_lay_39 rfl (mr42 hm) (mr40 hm) ⟨fun _ => vin he (by decide), fun _ => vin he (by decide), fun r => fin _ ?_, fun r => fin _ ?_, fun r => fin _ ?_, fun r => absurd r (by decide)⟩ <;> rw [nn] at r
      · rw [layv, if_neg r.2.1, if_neg r.2.2]
      · rw [layv, if_neg r.2.1, if_pos r.2.2]
      · rw [layv, if_pos r.2]
end GM10
