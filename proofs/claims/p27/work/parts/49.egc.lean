section MG18
/-! ===== the reference at any state: the tape, copies, sheets ===== -/
section GM10
variable {M N : Mm} {W : Nat}
theorem pr1 {W : Nat} (hW : W < 2 ^ 31) : (nI W - 1).toInt + 1 = (nI W).toInt := by
  rcases Nat.eq_zero_or_pos W with e | e
  · subst e; decide
  · have e2 : nI W - 1 = nI (W - 1) := by
      rw [show W = (W - 1) + 1 by omega, ← nI_s, show W - 1 + 1 - 1 = W - 1 by omega]
      exact Int32.add_sub_cancel _ _
    rw [e2]
    show (Int32.ofNat (W - 1)).toInt + 1 = (Int32.ofNat W).toInt
    rw [Int32.toInt_ofNat_of_lt (by omega), Int32.toInt_ofNat_of_lt (by omega)]; omega
def d8 (i : Nat) : Int32 := 56 - 8 * nI i
theorem d8_s : ∀ i, i < 8 → d8 i + (-8) = d8 (i + 1) ∧ ¬ d8 i < 0 := by decide +kernel
def byt (v : Int64) (i : Nat) : Int32 := ((v >>> ((d8 i).toInt64 &&& 63)) &&& 255).toInt32
/-- the first i bytes are fed behind t -/
def FD (t : Nat) (v : Int64) (i : Nat) (M N : Mm) : Prop := gr N = gr M ∧ gl N = gl M ∧ (∀ a, a ≠ 6486 → a ≠ 6027 → gi N a = gi M a) ∧ (∀ k, gi N 6027 k = if k = 11 then nI (t + i) else gi M 6027 k) ∧ ∀ k, gi N 6486 k = if t ≤ k ∧ k < t + i then byt v (k - t) else gi M 6486 k
theorem tM_feed {v : Int64} {t : Nat} {K : Int32 → Mm → Prop} (hm : MR M) (ht : gi M 6027 11 = nI t) (ht2 : t ≤ 400) (h0 : 392 < t → K (-3) M) (h1 : t ≤ 392 → ∀ N, FD t v 8 M N → K (nI (t + 8)) N) : CI mM_feed [.ref 6027, .long v] M K := by
  have e8 : nI t + 8 = nI (t + 8) := by
    show Int32.ofNat t + Int32.ofNat 8 = Int32.ofNat (t + 8)
    rw [Int32.ofNat_add]
  refine call_of rfl (Nat.le_of_ble_eq_true rfl) rfl (vM_feed_0 rfl ⟨fun q => ?_, fun q => h0 ?_⟩)
  · rw [ht, e8] at q
    have hl : t ≤ 392 := by
      have : nI (t + 8) ≤ nI 400 := q
      rw [nle (by decide) (by omega)] at this
      omega
    have key := lp 8 (P := fun i => ∀ N, FD t v i M N → X mM_feed 19 [(0, .ref 6027), (1, .long v), (3, .int (d8 i))] [] N (mC mM_feed, mS mM_feed) (QI K)) (fun i hi ih N s => ?_) (fun N s => ?_)
    · refine key M ⟨rfl, rfl, fun _ _ _ => rfl, fun k => ?_, fun k => by rw [if_neg (by omega)]⟩
      by_cases e : k = 11
      · rw [if_pos e, e, ht]; rfl
      · rw [if_neg e]
    · obtain ⟨s1, s2, s3, s4, s5⟩ := s
      obtain ⟨d1, d2⟩ := d8_s i hi
      have e : gi N 6027 11 = nI (t + i) := by rw [s4, if_pos rfl]
      refine vM_feed_19 rfl (mr10 (mr_w hm s1)) ⟨fun q => absurd q d2, fun _ => ?_⟩
      rw [e]
      refine ⟨vin (by omega) (by decide), ?_⟩
      rw [giR _ _ _ _ _ _ (by decide), e, ncl (by omega), nI_s, d1]
      refine ih _ ⟨s1, s2, fun a h1 h2 => ?_, fun k => ?_, fun k => ?_⟩
      · rw [← s3 a h1 h2]; funext k; rw [giR _ _ _ _ _ _ h2, giR _ _ _ _ _ _ h1]
      · rw [gi_si]
        by_cases e : k = 11
        · rw [if_pos ⟨rfl, e⟩, if_pos e]; rfl
        · rw [if_neg (fun q => e q.2), giR _ _ _ _ _ _ (by decide), s4, if_neg e, if_neg e]
      · rw [giR _ _ _ _ _ _ (by decide), gi_si]
        by_cases e : k = t + i
        · rw [if_pos ⟨rfl, e⟩, if_pos ⟨by omega, by omega⟩, e, show t + i - t = i by omega]; rfl
        · rw [if_neg (fun q => e q.2), s5]
          by_cases l : t ≤ k ∧ k < t + i
          · rw [if_pos l, if_pos ⟨l.1, by omega⟩]
          · rw [if_neg l, if_neg (fun r => l ⟨r.1, by omega⟩)]
    · refine vM_feed_19 rfl (mr10 (mr_w hm s.1)) ⟨fun _ => ?_, fun q => absurd (by decide +kernel) q⟩
      rw [s.2.2.2.1, if_pos rfl]
      exact h1 hl N s
  · rw [ht, e8] at q
    have : ¬ nI (t + 8) ≤ nI 400 := q
    rw [nle (by decide) (by omega)] at this
    omega
theorem tM_copies {b n : Int32} {K : Int32 → Mm → Prop} (hm : MR M) (h0 : (b < 0 ∨ 7 < b ∨ n < 0 ∨ 9 < n) → K (-1) M) (h1 : ∀ i, i < 8 → b = nI i → ¬ n < 0 → ¬ 9 < n → K (gi M 6157 i) (si M 6157 i n)) : CI mM_copies [.ref 6027, .int b, .int n] M K := by
  refine call_of rfl (Nat.le_of_ble_eq_true rfl) rfl (vM_copies_0 (sM_in (l := 0) (m := 7) rfl rfl (fun q => vM_copies_9 ⟨fun _ => h0 (q.imp id Or.inl), fun q => absurd rfl q⟩) (fun q1 q2 => vM_copies_9 ⟨fun q => absurd q (by decide), fun _ => sM_in (l := 0) (m := 9) rfl rfl (fun q => vM_copies_21 rfl (mr2 hm) ⟨fun q => absurd rfl q, fun q => absurd rfl q, fun _ => h0 (Or.inr (Or.inr q))⟩) (fun p1 p2 => ?_)⟩)))
  obtain ⟨i, hi, rfl⟩ := rngL (c := 7) (n := 7) rfl (by decide) q1 q2
  refine vM_copies_21 rfl (mr2 hm) ⟨fun _ => vin hi (by decide), fun _ => ⟨vin hi (by decide), ?_⟩, fun q => absurd q (by decide)⟩
  rw [ncl (by omega)]
  exact h1 i hi rfl p1 p2
theorem sM_isSheet {k l : Int32} {K : Int32 → Mm → Prop} (h1 : (isS k && isL l) = false → K 0 M) (h2 : ∀ i, i < 4 → k = nI i → ¬ l < 0 → ¬ 2 < l → K 1 M) : CI mM_isSheet [.int k, .int l] M K := by
  refine call_of rfl (Nat.le_of_ble_eq_true rfl) rfl (vM_isSheet_0 (sM_in (l := 0) (m := 3) rfl rfl (fun q => vM_isSheet_9 ⟨fun _ => h1 ?_, fun q => absurd rfl q⟩) (fun q1 q2 => vM_isSheet_9 ⟨fun q => absurd q (by decide), fun _ => sM_in (l := 0) (m := 2) rfl rfl (fun q => vM_isSheet_21 ⟨fun _ => h1 ?_, fun q => absurd rfl q⟩) (fun p1 p2 => vM_isSheet_21 ⟨fun q => absurd q (by decide), fun _ => ?_⟩)⟩)))
  · rw [nS (q.imp id (sgt (by decide)).mp), Bool.false_and]
  · rw [nL q, Bool.and_false]
  · obtain ⟨i, hi, e⟩ := rngL (c := 3) (n := 3) rfl (by decide) q1 q2
    exact h2 i hi e p1 p2
/-- a sheet renewed, its first c cells -/
def SH (i : Nat) (l n : Int32) (c : Nat) (M N : Mm) : Prop := gr N = gr M ∧ gl N = gl M ∧ (∀ a, a ≠ 7644 → a ≠ 7708 → a ≠ 7773 → gi N a = gi M a) ∧ (∀ k, gi N 7644 k = if k = i then l else gi M 7644 k) ∧ (∀ k, gi N 7708 k = if k = i then n else gi M 7708 k) ∧ ∀ k, gi N 7773 k = if 40 * i ≤ k ∧ k < 40 * i + c then 0 else gi M 7773 k
theorem nI_40 (i c : Nat) : 40 * nI i + nI c = nI (40 * i + c) := by
  show (40 : Int32) * Int32.ofNat i + Int32.ofNat c = Int32.ofNat (40 * i + c)
  rw [Int32.ofNat_add, Int32.ofNat_mul]; rfl
theorem tM_sheet {k l n : Int32} {K : Int32 → Mm → Prop} (hm : MR M) (h0 : ((isS k && isL l) = false ∨ ¬ n ≤ 40) → K (-1) M) (h1 : (isS k && isL l) = true → n ≤ 40 → ¬ 0 ≤ n → K (-14) M) (h2 : ∀ i, i < 4 → k = nI i → isL l = true → n ≤ 40 → 0 ≤ n → ∀ N, SH i l n 40 M N → K 1 N) : CI mM_sheet [.ref 6027, .int k, .int l, .int n] M K := by
  refine call_of rfl (Nat.le_of_ble_eq_true rfl) rfl (vM_sheet_0 (sM_isSheet (fun q => ?_) (fun i hi e p1 p2 => ?_)))
  · exact vM_sheet_5 rfl (mr40 hm) (mr41 hm) ⟨fun _ => h0 (Or.inl q), fun q => absurd rfl q.1, fun q => absurd rfl q.1⟩
  · subst e
    refine vM_sheet_5 rfl (mr40 hm) (mr41 hm) ⟨fun q => h0 (Or.inr ?_), fun q => ⟨vin hi (by decide), vin hi (by decide), ?_⟩, fun q => h1 ?_ q.2.1 q.2.2⟩
    · rcases q with q | q
      · exact absurd q (by decide)
      · exact q.2
    · rw [ncl (by omega)]
      have key := lp 40 (P := fun c => ∀ N, SH i l n c M N → X mM_sheet 40 [(0, .ref 6027), (1, .int (nI i)), (4, .int (nI c))] [] N (mC mM_sheet, mS mM_sheet) (QI K)) (fun c hc ih N s => ?_) (fun N s => ?_)
      · refine key _ ⟨rfl, rfl, fun a h1 h2 h3 => ?_, fun k => ?_, fun k => ?_, fun k => ?_⟩
        · funext k; rw [giR _ _ _ _ _ _ h2, giR _ _ _ _ _ _ h1]
        · rw [giR _ _ _ _ _ _ (by decide), gi_si]
          by_cases e : k = i
          · rw [if_pos ⟨rfl, e⟩, if_pos e]
          · rw [if_neg (fun q => e q.2), if_neg e]
        · rw [gi_si]
          by_cases e : k = i
          · rw [if_pos ⟨rfl, e⟩, if_pos e]
          · rw [if_neg (fun q => e q.2), if_neg e, giR _ _ _ _ _ _ (by decide)]
        · rw [giR _ _ _ _ _ _ (by decide), giR _ _ _ _ _ _ (by decide), if_neg (by omega)]
      · obtain ⟨s1, s2, s3, s4, s5, s6⟩ := s
        refine vM_sheet_40 rfl (mr42 (mr_w hm s1)) ⟨fun q => absurd q (nge rfl (by decide) hc), fun _ => ?_⟩
        rw [nI_40, nI_s, ncl (by omega)]
        refine ⟨vin (by omega) (by decide), ih _ ⟨s1, s2, fun a h1 h2 h3 => ?_, fun k => ?_, fun k => ?_, fun k => ?_⟩⟩
        · rw [← s3 a h1 h2 h3]; funext k; rw [giR _ _ _ _ _ _ h3]
        · rw [giR _ _ _ _ _ _ (by decide), s4]
        · rw [giR _ _ _ _ _ _ (by decide), s5]
        · rw [gi_si]
          by_cases e : k = 40 * i + c
          · rw [if_pos ⟨rfl, e⟩, if_pos ⟨by omega, by omega⟩]
          · rw [if_neg (fun q => e q.2), s6]
            by_cases l : 40 * i ≤ k ∧ k < 40 * i + c
            · rw [if_pos l, if_pos ⟨l.1, by omega⟩]
            · rw [if_neg l, if_neg (fun r => l ⟨r.1, by omega⟩)]
      · exact vM_sheet_40 rfl (mr42 (mr_w hm s.1)) ⟨fun _ => h2 i hi rfl (yL p1 p2) q.2.1 q.2.2 N s, fun q => absurd (nself rfl) q⟩
    · rw [yS hi, yL p1 p2]; rfl
/-- what is laid in a lane -/
def layv (l v : Int32) : Int32 := if l = 0 then v.toInt8.toInt32 else if l = 1 then v.toInt16.toInt32 else v
theorem tM_lay {k i v : Int32} {K : Int32 → Mm → Prop} (hm : MR M) (hs : ∀ e, e < 4 → ∃ n, n ≤ 40 ∧ gi M 7708 e = nI n) (h0 : isS k = false → K (-1) M) (h1 : ∀ e, e < 4 → k = nI e → gi M 7644 e = -4 → K (-11) M) (h2 : ∀ e, e < 4 → k = nI e → ¬ gi M 7644 e = -4 → (i < 0 ∨ gi M 7708 e ≤ i) → K (-12) M) (h3 : ∀ e c n, e < 4 → k = nI e → i = nI c → n ≤ 40 → gi M 7708 e = nI n → c < n → ¬ gi M 7644 e = -4 → K 1 (si M 7773 (40 * e + c) (layv (gi M 7644 e) v))) : CI mM_lay [.ref 6027, .int k, .int i, .int v] M K := by
  refine call_of rfl (Nat.le_of_ble_eq_true rfl) rfl (vM_lay_0 (sM_isSheet (fun q => ?_) (fun e he ee p1 p2 => ?_)))
  · refine vM_lay_5 rfl (mr40 hm) (mr41 hm) ⟨fun q => absurd rfl q, fun q => absurd rfl q.1, fun q => absurd rfl q.1, fun q => absurd rfl q.1, fun _ => h0 ?_⟩
    rw [show isL 0 = true from by decide, Bool.and_true] at q; exact q
  · subst ee
    obtain ⟨n, hn, en⟩ := hs e he
    have nn : (nI e).toNatClampNeg = e := ncl (by omega)
    refine vM_lay_5 rfl (mr40 hm) (mr41 hm) ⟨fun _ => vin he (by decide), fun _ => vin he (by decide), fun q => ?_, fun q => h1 e he rfl (by rw [nn] at q; exact q.2), fun q => absurd q (by decide)⟩
    rw [nn] at q ⊢
    refine sM_in (l := 0) (m := gi M 7708 e - 1) rfl rfl (fun p => vM_lay_39 rfl (mr42 hm) (mr40 hm) ⟨fun q => absurd rfl q, fun q => absurd rfl q.1, fun q => absurd rfl q.1, fun q => absurd rfl q.1, fun q => absurd rfl q.1, fun _ => h2 e he rfl q.2 (p.imp id (fun p => ?_))⟩) (fun q1 q2 => ?_)
    · rw [en] at p ⊢; exact (sgt (pr1 (by omega))).mp p
    · obtain ⟨c, hc, rfl⟩ := nI_of q1
      have hcn : c < n := by
        have : ¬ nI n ≤ nI c := fun r => q2 (by rw [en]; exact (sgt (pr1 (by omega))).mpr r)
        rw [nle hc (by omega)] at this; omega
      have fin : ∀ x, x = layv (gi M 7644 e) v → X mM_lay 85 [] [.int x, .int ((40 * nI e) + nI c), .ref 7773] M (mC mM_lay, mS mM_lay) (QI K) := by
        rintro x rfl
        refine vM_lay_85 rfl ?_
        rw [nI_40, ncl (by omega)]
        exact ⟨vin (by omega) (by decide), h3 e c n he rfl rfl hn en hcn q.2⟩
      refine vM_lay_39 rfl (mr42 hm) (mr40 hm) ⟨fun _ => vin he (by decide), fun _ => vin he (by decide), fun r => fin _ ?_, fun r => fin _ ?_, fun r => fin _ ?_, fun r => absurd r (by decide)⟩ <;> rw [nn] at r
      · rw [layv, if_neg r.2.1, if_neg r.2.2]
      · rw [layv, if_neg r.2.1, if_pos r.2.2]
      · rw [layv, if_pos r.2]
end GM10
end MG18
section MG19
/-! ===== the reference at any state: read ===== -/
theorem i64_q {x : Int64} {n : Nat} (hn : n ≤ 40) (h0 : ¬ x < 0) (h1 : x < (nI n).toInt64) : ∃ q, q < n ∧ x.toInt32 = nI q := by
  rw [Int64.lt_iff_toInt_lt] at h0 h1
  have e1 : (nI n).toInt = n := by
    show (Int32.ofNat n).toInt = n
    rw [Int32.toInt_ofNat_of_lt (by omega)]
  rw [Int32.toInt_toInt64, e1] at h1
  have h0' : 0 ≤ x.toInt := by
    have : (0 : Int64).toInt = 0 := by decide
    omega
  obtain ⟨q, hq⟩ := Int.eq_ofNat_of_zero_le h0'
  refine ⟨q, by omega, ?_⟩
  apply Int32.toInt_inj.mp
  rw [Int64.toInt_toInt32, hq]
  show _ = (Int32.ofNat q).toInt
  rw [Int32.toInt_ofNat_of_lt (by omega)]
  unfold Int.bmod
  dsimp only
  rw [if_pos (by omega)]
  omega
theorem tM_read {M : Mm} {W : Nat} {k l f n w : Int32} {K : Int32 → Mm → Prop} (j : JW M W) (hh : HD M) (hs : ∀ e, e < 4 → ∃ n, n ≤ 40 ∧ gi M 7708 e = nI n) (h : ∀ r N, QF W M N → K r N) : CI mM_read [.ref 6027, .int k, .int l, .int f, .int n, .int w] M K := by
  have hm := j.1
  refine call_of rfl (Nat.le_of_ble_eq_true rfl) rfl (vM_read_0 (sM_isSheet (fun q => vM_read_5 ⟨fun _ => h _ _ (qf_rf W M), fun q => absurd rfl q⟩) (fun e he ee p1 p2 => vM_read_5 ⟨fun q => absurd q (by decide), fun _ => sM_in (l := 0) (m := 40) rfl rfl (fun q => vM_read_18 ⟨fun _ => h _ _ (qf_rf W M), fun q => absurd rfl q⟩) (fun n1 n2 => vM_read_18 ⟨fun q => absurd q (by decide), fun _ => sM_in (l := 0) (m := 2) rfl rfl (fun q => vM_read_31 rfl (mr40 hm) ⟨fun q => absurd rfl q, fun q => absurd rfl q.1, fun q => absurd rfl q.1, fun q => absurd rfl q.1, fun q => absurd rfl q.1, fun _ => h _ _ (qf_rf W M)⟩) (fun w1 w2 => vM_read_31 rfl (mr40 hm) ⟨fun _ => ?_, fun _ => ?_, fun q => tM_findAll j hh (fun N g _ _ => vM_read_69 ?_), fun _ => h _ _ (qf_rf W M), fun _ => h _ _ (qf_rf W M), fun q => absurd q (by decide)⟩)⟩)⟩)))
  · rw [ee]; exact vin he (by decide)
  · rw [ee]; exact vin he (by decide)
  · subst ee
    have f1 : QF W M N := qf_af g
    have hmN := mr_w hm f1.1
    obtain ⟨m, hm40, hn⟩ := rngL (x := n) (c := 40) (n := 40) rfl (by decide) n1 n2
    subst hn
    obtain ⟨z, hz, ez⟩ := hs e he
    have ez2 : gi N 7708 e = nI z := by rw [f1.2.1 7708 (by decide)]; exact ez
    have key := lp m (P := fun i => ∀ x, X mM_read 75 [(0, .ref 6027), (1, .int (nI e)), (3, .int f), (4, .int (nI m)), (5, .int w), (6, .int x), (7, .int (nI i))] [] N (mC mM_read, mS mM_read) (QI K)) (fun i hi ih x => ?_) (fun x => ?_)
    · exact key 0
    · refine vM_read_75 rfl (mr41 hmN) (mr42 hmN) ⟨fun q => absurd q (nge rfl (by omega) hi), fun _ => ⟨fun _ => vin he (by decide), fun q => ?_, fun _ => h _ _ f1, fun q => sM_isCase (fun r => ?_) (fun c hc ec => ?_)⟩⟩
      · rw [ncl (show e < 2 ^ 31 by omega), ez2] at q
        obtain ⟨u, hu, eu⟩ := i64_q hz q.1 q.2
        rw [eu, nI_40]; exact vin (by omega) (by decide)
      · exact vM_read_133 rfl (mr30 hmN) ⟨fun q => absurd rfl q, fun q => absurd rfl q.1, fun q => absurd rfl q.1, fun q => absurd rfl q.1, fun _ => h _ _ f1⟩
      · have go : ∀ a b y, X mM_read 172 [(0, .ref 6027), (1, .int (nI e)), (3, .int f), (4, .int (nI m)), (5, .int w), (7, .int (nI i))] [.int a, .int b, .int y] N (mC mM_read, mS mM_read) (QI K) := fun a b y => vM_read_172 (by rw [nI_s]; exact ih _)
        exact vM_read_133 rfl (mr30 hmN) ⟨fun _ => by rw [ec]; exact vin hc (by decide), fun _ => go _ _ _, fun _ => go _ _ _, fun _ => go _ _ _, fun q => absurd q (by decide)⟩
    · exact vM_read_75 rfl (mr41 hmN) (mr42 hmN) ⟨fun _ => h _ _ f1, fun q => absurd (nself rfl) q⟩
end MG19
section MG20
/-! ===== the reference's reader: look, wants, next ===== -/
def lk (T : Nat → Int32) (t p : Nat) : Int32 := if t ≤ p then -1 else T p
/-- past bytes of a kind -/
def rn (f : Int32 → Bool) (T : Nat → Int32) (t : Nat) : Nat → Nat → Nat
  | 0, p => p
  | n + 1, p => if f (lk T t p) = true then rn f T t n (p + 1) else p
def isB (c : Int32) : Bool := decide (c = 32)
def isA (c : Int32) : Bool := decide (¬ c < 97 ∧ ¬ 122 < c)
def isF (c : Int32) : Bool := decide (¬ c < 48 ∧ ¬ 57 < c)
theorem rn_ge (f : Int32 → Bool) (T : Nat → Int32) (t : Nat) : ∀ n p, p ≤ rn f T t n p
  | 0, p => Nat.le_refl p
  | n + 1, p => by
    rw [rn]
    split
    · exact Nat.le_trans (Nat.le_succ p) (rn_ge f T t n (p + 1))
    · exact Nat.le_refl p
theorem rn_le (f : Int32 → Bool) (T : Nat → Int32) (t : Nat) (hf : f (-1) = false) : ∀ n p, p ≤ t → rn f T t n p ≤ t
  | 0, p, h => h
  | n + 1, p, h => by
    rw [rn]
    split
    · rename_i q
      refine rn_le f T t hf n (p + 1) ?_
      by_cases l : t ≤ p
      · rw [lk, if_pos l, hf] at q; exact absurd q (by decide)
      · omega
    · exact h
/-- the reader's own fields alone change -/
def PF (M N : Mm) : Prop := gr N = gr M ∧ gl N = gl M ∧ (∀ a, a ≠ 6027 → gi N a = gi M a) ∧ ∀ k, ¬ (12 ≤ k ∧ k ≤ 17) → gi N 6027 k = gi M 6027 k
theorem pf_rf (M : Mm) : PF M M := ⟨rfl, rfl, fun _ _ => rfl, fun _ _ => rfl⟩
theorem pf_tr {M N O : Mm} (f : PF M N) (g : PF N O) : PF M O := ⟨g.1.trans f.1, g.2.1.trans f.2.1, fun a h => (g.2.2.1 a h).trans (f.2.2.1 a h), fun k h => (g.2.2.2 k h).trans (f.2.2.2 k h)⟩
theorem pf_si {M N : Mm} {k : Nat} {v : Int32} (f : PF M N) (h1 : 12 ≤ k) (h2 : k ≤ 17) : PF M (si N 6027 k v) := by
  refine ⟨f.1, f.2.1, fun a h => ?_, fun i h => ?_⟩
  · rw [← f.2.2.1 a h]; funext i; rw [giR _ _ _ _ _ _ h]
  · rw [gi_si, if_neg (fun q => h (by omega))]; exact f.2.2.2 i h
theorem g6 (M : Mm) (k i : Nat) (v : Int32) (h : i ≠ k) : gi (si M 6027 k v) 6027 i = gi M 6027 i := by rw [gi_si, if_neg (fun q => h q.2)]
theorem g6s (M : Mm) (k : Nat) (v : Int32) : gi (si M 6027 k v) 6027 k = v := by rw [gi_si, if_pos ⟨rfl, rfl⟩]
/-- the tape, at t bytes -/
def TP (M : Mm) (T : Nat → Int32) (t : Nat) : Prop := MR M ∧ gi M 6027 11 = nI t ∧ t ≤ 400 ∧ gi M 6486 = T
theorem tp_pf {M N : Mm} {T : Nat → Int32} {t : Nat} (f : PF M N) (h : TP M T t) : TP N T t := ⟨mr_w h.1 f.1, (f.2.2.2 11 (by decide)).trans h.2.1, h.2.2.1, (f.2.2.1 6486 (by decide)).trans h.2.2.2⟩
theorem sM_look {M : Mm} {T : Nat → Int32} {t p : Nat} {K : Int32 → Mm → Prop} (tp : TP M T t) (hp : p < 2 ^ 31) (h : K (lk T t p) M) : CI mM_look [.ref 6027, .int (nI p)] M K := by
  obtain ⟨hm, ht, ht2, hT⟩ := tp
  refine call_of rfl (Nat.le_of_ble_eq_true rfl) rfl (vM_look_0 rfl (mr10 hm) ⟨fun q => ?_, ?_⟩)
  · rw [ht, nle hp (by omega)] at q
    exact vin (by omega) (by decide)
  · rw [ht, hT, ncl hp]
    unfold lk at h
    by_cases l : t ≤ p
    · rw [if_pos l] at h; rw [if_pos ((nle hp (by omega)).mpr l)]; exact h
    · rw [if_neg l] at h; rw [if_neg (fun q => l ((nle hp (by omega)).mp q))]; exact h
theorem sM_wants {M : Mm} {g c : Int32} {K : Mm → Prop} (h0 : (¬ g = 0 ∨ ¬ gi M 6027 16 = 0) → K M) (h1 : g = 0 → gi M 6027 16 = 0 → K (si (si M 6027 16 c) 6027 17 (gi M 6027 13))) : CV mM_wants [.ref 6027, .int g, .int c] M K := by
  refine call_of rfl (Nat.le_of_ble_eq_true rfl) rfl (vM_wants_0 rfl ⟨fun q => h0 (q.imp id (fun q => q.2)), fun q => ?_⟩)
  rw [g6 _ _ _ _ (by decide)]
  exact h1 q.1 q.2
/-- the number of the first figures -/
def vlf (T : Nat → Int32) (t p : Nat) : Nat → Int32
  | 0 => 0
  | k + 1 => if k < 3 then (10 * vlf T t p k + lk T t (p + k)) - 48 else vlf T t p k
theorem nsub {a b : Nat} (h : b ≤ a) : nI a - nI b = nI (a - b) := by
  have : nI a = nI (a - b) + nI b := by
    show Int32.ofNat a = Int32.ofNat (a - b) + Int32.ofNat b
    rw [← Int32.ofNat_add, Nat.sub_add_cancel h]
  rw [this]; exact Int32.add_sub_cancel _ _
/-- where a token begins, and its first byte -/
def nx1 (T : Nat → Int32) (t p : Nat) : Nat := rn isB T t 401 p
/-- what next makes of a reader without a fault at p -/
def NX (T : Nat → Int32) (t p : Nat) (M N : Mm) : Prop := PF M N ∧ gi N 6027 13 = nI (nx1 T t p) ∧
  ((lk T t (nx1 T t p) < 0 ∧ gi N 6027 12 = nI (nx1 T t p) ∧ gi N 6027 14 = 0 ∧ gi N 6027 15 = gi M 6027 15 ∧ gi N 6027 16 = gi M 6027 16 ∧ gi N 6027 17 = gi M 6027 17) ∨
   (¬ lk T t (nx1 T t p) < 0 ∧ isA (lk T t (nx1 T t p)) = true ∧ gi N 6027 12 = nI (rn isA T t 401 (nx1 T t p)) ∧ gi N 6027 14 = 1 ∧ gi N 6027 15 = gi M 6027 15 ∧ gi N 6027 16 = gi M 6027 16 ∧ gi N 6027 17 = gi M 6027 17) ∨
   (¬ lk T t (nx1 T t p) < 0 ∧ isA (lk T t (nx1 T t p)) = false ∧ isF (lk T t (nx1 T t p)) = true ∧ gi N 6027 12 = nI (rn isF T t 401 (nx1 T t p)) ∧ gi N 6027 14 = 2 ∧ gi N 6027 15 = vlf T t (nx1 T t p) (rn isF T t 401 (nx1 T t p) - nx1 T t p) ∧ (if rn isF T t 401 (nx1 T t p) - nx1 T t p ≤ 3 then gi N 6027 16 = gi M 6027 16 ∧ gi N 6027 17 = gi M 6027 17 else gi N 6027 16 = 1 ∧ gi N 6027 17 = nI (nx1 T t p))) ∨
   (¬ lk T t (nx1 T t p) < 0 ∧ isA (lk T t (nx1 T t p)) = false ∧ isF (lk T t (nx1 T t p)) = false ∧ gi N 6027 12 = nI (nx1 T t p + 1) ∧ gi N 6027 14 = (if lk T t (nx1 T t p) = 45 then 3 else 4) ∧ gi N 6027 15 = gi M 6027 15 ∧ (if lk T t (nx1 T t p) = 45 ∨ lk T t (nx1 T t p) = 59 then gi N 6027 16 = gi M 6027 16 ∧ gi N 6027 17 = gi M 6027 17 else gi N 6027 16 = 1 ∧ gi N 6027 17 = nI (nx1 T t p))))
end MG20
section MG21
/-! ===== the reference's reader: next ===== -/
theorem lk_lt {f : Int32 → Bool} {T : Nat → Int32} {t q : Nat} (h : f (lk T t q) = true) (hf : f (-1) = false) : q < t := by
  by_cases l : t ≤ q
  · rw [lk, if_pos l, hf] at h; exact absurd h (by decide)
  · omega
theorem sM_next1 {M : Mm} {K : Mm → Prop} (hf : ¬ gi M 6027 16 ≤ 0) (h : K M) : CV mM_next [.ref 6027] M K :=
  call_of rfl (Nat.le_of_ble_eq_true rfl) rfl (vM_next_0 rfl ⟨fun q => absurd q hf, fun _ => h⟩)
theorem i97 {c : Int32} {K : Int32 → Mm → Prop} {M : Mm} (h0 : isA c = false → K 0 M) (h1 : isA c = true → K 1 M) : CI mM_in [.long c.toInt64, .long 97, .long 122] M K :=
  sM_in (l := 97) (m := 122) rfl rfl (fun q => h0 (decide_eq_false (fun r => q.elim r.1 r.2))) (fun q1 q2 => h1 (decide_eq_true ⟨q1, q2⟩))
theorem i48 {c : Int32} {K : Int32 → Mm → Prop} {M : Mm} (h0 : isF c = false → K 0 M) (h1 : isF c = true → K 1 M) : CI mM_in [.long c.toInt64, .long 48, .long 57] M K :=
  sM_in (l := 48) (m := 57) rfl rfl (fun q => h0 (decide_eq_false (fun r => q.elim r.1 r.2))) (fun q1 q2 => h1 (decide_eq_true ⟨q1, q2⟩))
theorem sM_next {M : Mm} {T : Nat → Int32} {t p : Nat} {K : Mm → Prop} (tp : TP M T t) (hp : gi M 6027 12 = nI p) (hp2 : p ≤ 400) (hf : gi M 6027 16 = 0) (h : ∀ N, NX T t p M N → K N) : CV mM_next [.ref 6027] M K := by
  have ht2 := tp.2.2.1
  refine call_of rfl (Nat.le_of_ble_eq_true rfl) rfl (vM_next_0 rfl ⟨fun _ => ?_, fun q => absurd (by rw [hf]; exact Int32.le_refl _) q⟩)
  generalize e1 : nx1 T t p = p1
  have hh : ∀ N, PF M N → gi N 6027 13 = nI p1 → _ → K N := fun N a b c => h N ⟨a, by rw [e1]; exact b, c⟩
  rw [e1] at hh
  have from1 : ∀ N, p1 ≤ 400 → PF M N → gi N 6027 12 = nI p1 → (∀ k, k ≠ 12 → gi N 6027 k = gi M 6027 k) → CI mM_look [.ref 6027, .int (gi (si N 6027 13 (gi N 6027 12)) 6027 12)] (si N 6027 13 (gi N 6027 12)) (fun rv N => X mM_next 50 [(0, .ref 6027)] [.int rv] N (mC mM_next, mS mM_next) (QV K)) := by
    intro N h400 f h12 hk
    rw [h12, g6 _ _ _ _ (by decide), h12]
    have f1 := pf_si (k := 13) (v := nI p1) f (by decide) (by decide)
    have k12 : gi (si N 6027 13 (nI p1)) 6027 12 = nI p1 := by rw [g6 _ _ _ _ (by decide)]; exact h12
    have k13 : gi (si N 6027 13 (nI p1)) 6027 13 = nI p1 := g6s _ _ _
    have kk : ∀ k, k ≠ 12 → k ≠ 13 → gi (si N 6027 13 (nI p1)) 6027 k = gi M 6027 k := fun k a b => by rw [g6 _ _ _ _ b]; exact hk k a
    generalize si N 6027 13 (nI p1) = N1 at f1 k12 k13 kk ⊢
    refine sM_look (tp_pf f1 tp) (by omega) (vM_next_50 rfl ⟨fun q => i97 (fun a => vM_next_74 rfl ⟨fun _ => i48 (fun b => ?_) (fun b => ?_), fun q => absurd rfl q⟩) (fun a => vM_next_74 rfl ⟨fun q => absurd q (by decide), fun _ => ?_⟩), fun q => ?_⟩)
    · have c0 : ¬ lk T t p1 < 0 := Int32.not_lt.mpr q
      have b280 : ∀ s O, s = (if lk T t p1 = 45 then (3 : Int32) else 4) → PF M O → gi O 6027 12 = nI p1 → gi O 6027 13 = nI p1 → gi O 6027 14 = s → gi O 6027 15 = gi M 6027 15 → (if lk T t p1 = 45 ∨ lk T t p1 = 59 then gi O 6027 16 = gi M 6027 16 ∧ gi O 6027 17 = gi M 6027 17 else gi O 6027 16 = 1 ∧ gi O 6027 17 = nI p1) → X mM_next 280 [(0, .ref 6027)] [] O (mC mM_next, mS mM_next) (QV K) := by
        intro s O hs fO o12 o13 o14 o15 o16
        refine vM_next_280 rfl ?_
        rw [o12, nI_s]
        refine hh _ (pf_si fO (by decide) (by decide)) (by rw [g6 _ _ _ _ (by decide)]; exact o13) (Or.inr (Or.inr (Or.inr ⟨c0, a, b, g6s _ _ _, ?_, ?_, ?_⟩)))
        · rw [g6 _ _ _ _ (by decide), o14, hs]
        · rw [g6 _ _ _ _ (by decide), o15]
        · rw [g6 _ _ _ _ (by decide), g6 _ _ _ _ (by decide)]; exact o16
      have b255 : ∀ s, s = (if lk T t p1 = 45 then (3 : Int32) else 4) → X mM_next 255 [(0, .ref 6027), (1, .int (lk T t p1))] [.int s, .ref 6027] N1 (mC mM_next, mS mM_next) (QV K) := by
        intro s hs
        have f2 := pf_si (k := 14) (v := s) f1 (by decide) (by decide)
        refine vM_next_255 rfl ⟨fun r => vM_next_276 rfl (sM_wants (fun _ => ?_) (fun z => absurd z (by decide))), fun r => vM_next_276 rfl (sM_wants (fun z => ?_) (fun _ _ => ?_))⟩
        · refine b280 s _ hs f2 (by rw [g6 _ _ _ _ (by decide)]; exact k12) (by rw [g6 _ _ _ _ (by decide)]; exact k13) (g6s _ _ _) (by rw [g6 _ _ _ _ (by decide)]; exact kk 15 (by decide) (by decide)) ?_
          rw [if_pos (r.imp id (fun r => r.2)), g6 _ _ _ _ (by decide), g6 _ _ _ _ (by decide)]
          exact ⟨kk 16 (by decide) (by decide), kk 17 (by decide) (by decide)⟩
        · exfalso
          rw [g6 _ _ _ _ (by decide), kk 16 (by decide) (by decide), hf] at z
          rcases z with z | z <;> exact z rfl
        · have f3 := pf_si (k := 17) (v := gi (si N1 6027 14 s) 6027 13) (pf_si (k := 16) (v := 1) f2 (by decide) (by decide)) (by decide) (by decide)
          refine b280 s _ hs f3 ?_ ?_ ?_ ?_ ?_
          · rw [g6 _ _ _ _ (by decide), g6 _ _ _ _ (by decide), g6 _ _ _ _ (by decide)]; exact k12
          · rw [g6 _ _ _ _ (by decide), g6 _ _ _ _ (by decide), g6 _ _ _ _ (by decide)]; exact k13
          · rw [g6 _ _ _ _ (by decide), g6 _ _ _ _ (by decide), g6s]
          · rw [g6 _ _ _ _ (by decide), g6 _ _ _ _ (by decide), g6 _ _ _ _ (by decide)]; exact kk 15 (by decide) (by decide)
          · rw [if_neg (fun n => n.elim r.1 r.2), g6 _ _ _ _ (by decide), g6s, g6s, g6 _ _ _ _ (by decide)]
            exact ⟨rfl, k13⟩
      exact vM_next_127 rfl ⟨fun r => b255 4 (by rw [if_neg r.2]), fun r => b255 3 (by rw [if_pos r.2]), fun r => absurd rfl r⟩
    · have c0 : ¬ lk T t p1 < 0 := Int32.not_lt.mpr q
      refine vM_next_127 rfl ⟨fun r => absurd r.1 (by decide), fun r => absurd r.1 (by decide), fun _ => ?_⟩
      have key : ∀ n k N, t ≤ p1 + k + n → p1 + k ≤ 400 → PF M N → gi N 6027 12 = nI (p1 + k) → gi N 6027 13 = nI p1 → gi N 6027 14 = 2 → gi N 6027 15 = vlf T t p1 k → gi N 6027 16 = gi M 6027 16 → gi N 6027 17 = gi M 6027 17 → rn isF T t n (p1 + k) = rn isF T t 401 p1 → X mM_next 140 [(0, .ref 6027)] [] N (mC mM_next, mS mM_next) (QV K) := by
        intro n
        induction n with
        | zero =>
          intro k N ht hk4 fN n12 n13 n14 n15 n16 n17 e
          rw [rn] at e
          have ek : rn isF T t 401 p1 - p1 = k := by omega
          refine vM_next_140 rfl ?_
          rw [n12]
          refine sM_look (tp_pf fN tp) (by omega) (vM_next_148 (i48 (fun d => ?_) (fun d => absurd (lk_lt d (by decide)) (by omega))))
          refine vM_next_158 rfl ⟨fun r => vM_next_236 rfl (sM_wants (fun z => ?_) (fun _ _ => vM_next_240 ?_)), fun r => vM_next_236 rfl (sM_wants (fun _ => vM_next_240 ?_) (fun z => absurd z (by decide))), fun r => absurd rfl r.1, fun r => absurd rfl r.1⟩
          · exfalso
            rw [n16, hf] at z
            rcases z with z | z <;> exact z rfl
          · have r3 : ¬ k ≤ 3 := by
              have r2 := r.2
              rw [n12, n13, nsub (by omega), show p1 + k - p1 = k by omega] at r2
              have : nI 3 < nI k := r2
              rw [nlt (by omega) (by decide)] at this
              omega
            refine hh _ (pf_si (pf_si fN (by decide) (by decide)) (by decide) (by decide)) ?_ (Or.inr (Or.inr (Or.inl ⟨c0, a, b, ?_, ?_, ?_, ?_⟩)))
            · rw [g6 _ _ _ _ (by decide), g6 _ _ _ _ (by decide)]; exact n13
            · rw [g6 _ _ _ _ (by decide), g6 _ _ _ _ (by decide), n12, e]
            · rw [g6 _ _ _ _ (by decide), g6 _ _ _ _ (by decide), n14]
            · rw [g6 _ _ _ _ (by decide), g6 _ _ _ _ (by decide), n15, ek]
            · rw [ek, if_neg r3, g6 _ _ _ _ (by decide), g6s, g6s]; exact ⟨rfl, n13⟩
          · have r3 : k ≤ 3 := by
              have r2 := r.2
              rw [n12, n13, nsub (by omega), show p1 + k - p1 = k by omega] at r2
              have : ¬ nI 3 < nI k := r2
              rw [nlt (by omega) (by decide)] at this
              omega
            refine hh N fN n13 (Or.inr (Or.inr (Or.inl ⟨c0, a, b, by rw [n12, e], n14, by rw [n15, ek], ?_⟩)))
            rw [ek, if_pos r3]; exact ⟨n16, n17⟩
        | succ n ih =>
          intro k N ht hk4 fN n12 n13 n14 n15 n16 n17 e
          rw [rn] at e
          refine vM_next_140 rfl ?_
          rw [n12]
          refine sM_look (tp_pf fN tp) (by omega) (vM_next_148 (i48 (fun d => ?_) (fun d => ?_)))
          · rw [d, if_neg (by decide)] at e
            have ek : rn isF T t 401 p1 - p1 = k := by omega
            refine vM_next_158 rfl ⟨fun r => vM_next_236 rfl (sM_wants (fun z => ?_) (fun _ _ => vM_next_240 ?_)), fun r => vM_next_236 rfl (sM_wants (fun _ => vM_next_240 ?_) (fun z => absurd z (by decide))), fun r => absurd rfl r.1, fun r => absurd rfl r.1⟩
            · exfalso
              rw [n16, hf] at z
              rcases z with z | z <;> exact z rfl
            · have r3 : ¬ k ≤ 3 := by
                have r2 := r.2
                rw [n12, n13, nsub (by omega), show p1 + k - p1 = k by omega] at r2
                have : nI 3 < nI k := r2
                rw [nlt (by omega) (by decide)] at this
                omega
              refine hh _ (pf_si (pf_si fN (by decide) (by decide)) (by decide) (by decide)) ?_ (Or.inr (Or.inr (Or.inl ⟨c0, a, b, ?_, ?_, ?_, ?_⟩)))
              · rw [g6 _ _ _ _ (by decide), g6 _ _ _ _ (by decide)]; exact n13
              · rw [g6 _ _ _ _ (by decide), g6 _ _ _ _ (by decide), n12, e]
              · rw [g6 _ _ _ _ (by decide), g6 _ _ _ _ (by decide), n14]
              · rw [g6 _ _ _ _ (by decide), g6 _ _ _ _ (by decide), n15, ek]
              · rw [ek, if_neg r3, g6 _ _ _ _ (by decide), g6s, g6s]; exact ⟨rfl, n13⟩
            · have r3 : k ≤ 3 := by
                have r2 := r.2
                rw [n12, n13, nsub (by omega), show p1 + k - p1 = k by omega] at r2
                have : ¬ nI 3 < nI k := r2
                rw [nlt (by omega) (by decide)] at this
                omega
              refine hh N fN n13 (Or.inr (Or.inr (Or.inl ⟨c0, a, b, by rw [n12, e], n14, by rw [n15, ek], ?_⟩)))
              rw [ek, if_pos r3]; exact ⟨n16, n17⟩
          · have lt := lk_lt d (by decide)
            rw [d, if_pos rfl] at e
            have go : ∀ x, x = vlf T t p1 (k + 1) → X mM_next 201 [(0, .ref 6027)] [.int x, .ref 6027] N (mC mM_next, mS mM_next) (QV K) := by
              rintro x rfl
              refine vM_next_201 rfl rfl ?_
              rw [g6 _ _ _ _ (by decide), n12, nI_s]
              refine ih (k + 1) _ (by omega) (by omega) (pf_si (pf_si fN (by decide) (by decide)) (by decide) (by decide)) (g6s _ _ _) ?_ ?_ ?_ ?_ ?_ e
              · rw [g6 _ _ _ _ (by decide), g6 _ _ _ _ (by decide)]; exact n13
              · rw [g6 _ _ _ _ (by decide), g6 _ _ _ _ (by decide)]; exact n14
              · rw [g6 _ _ _ _ (by decide), g6s]
              · rw [g6 _ _ _ _ (by decide), g6 _ _ _ _ (by decide)]; exact n16
              · rw [g6 _ _ _ _ (by decide), g6 _ _ _ _ (by decide)]; exact n17
            have r3 : (3 ≤ gi N 6027 12 - gi N 6027 13) ↔ 3 ≤ k := by
              rw [n12, n13, nsub (by omega), show p1 + k - p1 = k by omega]
              exact nle (n := 3) (by omega) (by decide)
            refine vM_next_158 rfl ⟨fun r => absurd r.1 (by decide), fun r => absurd r.1 (by decide), fun r => go _ ?_, fun r => ?_⟩
            · rw [vlf, if_neg (by have := r3.mp r.2; omega)]; exact n15
            · rw [n12, n15]
              refine sM_look (tp_pf fN tp) (by omega) (vM_next_190 (go _ ?_))
              rw [vlf, if_pos (by have : ¬ 3 ≤ k := fun l => r.2 (r3.mpr l); omega)]
      refine key 401 0 _ (by omega) h400 (pf_si (pf_si f1 (by decide) (by decide)) (by decide) (by decide)) ?_ ?_ ?_ ?_ ?_ ?_ rfl
      · rw [g6 _ _ _ _ (by decide), g6 _ _ _ _ (by decide)]; exact k12
      · rw [g6 _ _ _ _ (by decide), g6 _ _ _ _ (by decide)]; exact k13
      · rw [g6 _ _ _ _ (by decide), g6s]
      · rw [g6s]; rfl
      · rw [g6 _ _ _ _ (by decide), g6 _ _ _ _ (by decide)]; exact kk 16 (by decide) (by decide)
      · rw [g6 _ _ _ _ (by decide), g6 _ _ _ _ (by decide)]; exact kk 17 (by decide) (by decide)
    · have c0 : ¬ lk T t p1 < 0 := Int32.not_lt.mpr q
      have key : ∀ n r N, t ≤ r + n → r ≤ 400 → PF M N → gi N 6027 12 = nI r → gi N 6027 13 = nI p1 → gi N 6027 14 = 1 → (∀ k, k = 15 ∨ k = 16 ∨ k = 17 → gi N 6027 k = gi M 6027 k) → rn isA T t n r = rn isA T t 401 p1 → X mM_next 82 [(0, .ref 6027)] [] N (mC mM_next, mS mM_next) (QV K) := by
        intro n
        induction n with
        | zero =>
          intro r N ht hr fN n12 n13 n14 nk e
          rw [rn] at e
          refine vM_next_82 rfl ?_
          rw [n12]
          refine sM_look (tp_pf fN tp) (by omega) (vM_next_90 (i97 (fun d => vM_next_100 rfl ⟨fun _ => ?_, fun z => absurd rfl z⟩) (fun d => absurd (lk_lt d (by decide)) (by omega))))
          exact hh N fN n13 (Or.inr (Or.inl ⟨c0, a, by rw [n12, e], n14, nk 15 (by decide), nk 16 (by decide), nk 17 (by decide)⟩))
        | succ n ih =>
          intro r N ht hr fN n12 n13 n14 nk e
          rw [rn] at e
          refine vM_next_82 rfl ?_
          rw [n12]
          refine sM_look (tp_pf fN tp) (by omega) (vM_next_90 (i97 (fun d => vM_next_100 rfl ⟨fun _ => ?_, fun z => absurd rfl z⟩) (fun d => vM_next_100 rfl ⟨fun z => absurd z (by decide), fun _ => ?_⟩)))
          · rw [d, if_neg (by decide)] at e
            exact hh N fN n13 (Or.inr (Or.inl ⟨c0, a, by rw [n12, e], n14, nk 15 (by decide), nk 16 (by decide), nk 17 (by decide)⟩))
          · have lt := lk_lt d (by decide)
            rw [d, if_pos rfl] at e
            rw [n12, nI_s]
            refine ih (r + 1) _ (by omega) (by omega) (pf_si fN (by decide) (by decide)) (g6s _ _ _) ?_ ?_ (fun k hk => ?_) e
            · rw [g6 _ _ _ _ (by decide)]; exact n13
            · rw [g6 _ _ _ _ (by decide)]; exact n14
            · rw [g6 _ _ _ _ (by omega)]; exact nk k hk
      refine key 401 p1 _ (by omega) h400 (pf_si f1 (by decide) (by decide)) ?_ ?_ (g6s _ _ _) (fun k hk => ?_) rfl
      · rw [g6 _ _ _ _ (by decide)]; exact k12
      · rw [g6 _ _ _ _ (by decide)]; exact k13
      · rw [g6 _ _ _ _ (by omega)]; exact kk k (by omega) (by omega)
    · have c0 : lk T t p1 < 0 := Int32.not_le.mp q
      refine hh _ (pf_si f1 (by decide) (by decide)) (by rw [g6 _ _ _ _ (by decide)]; exact k13) (Or.inl ⟨c0, ?_, g6s _ _ _, ?_, ?_, ?_⟩)
      · rw [g6 _ _ _ _ (by decide)]; exact k12
      · rw [g6 _ _ _ _ (by decide)]; exact kk 15 (by decide) (by decide)
      · rw [g6 _ _ _ _ (by decide)]; exact kk 16 (by decide) (by decide)
      · rw [g6 _ _ _ _ (by decide)]; exact kk 17 (by decide) (by decide)
  have key : ∀ n q N, t ≤ q + n → q ≤ 400 → PF M N → gi N 6027 12 = nI q → (∀ k, k ≠ 12 → gi N 6027 k = gi M 6027 k) → rn isB T t n q = p1 → X mM_next 8 [(0, .ref 6027)] [] N (mC mM_next, mS mM_next) (QV K) := by
    intro n
    induction n with
    | zero =>
      intro q N ht hq fN n12 nk e
      rw [rn] at e
      subst e
      refine vM_next_8 rfl ?_
      rw [n12]
      refine sM_look (tp_pf fN tp) (by omega) (vM_next_16 rfl ⟨fun _ => from1 N hq fN n12 nk, fun z => absurd (lk_lt (f := isB) (decide_eq_true z) (by decide)) (by omega)⟩)
    | succ n ih =>
      intro q N ht hq fN n12 nk e
      rw [rn] at e
      refine vM_next_8 rfl ?_
      rw [n12]
      refine sM_look (tp_pf fN tp) (by omega) (vM_next_16 rfl ⟨fun z => ?_, fun z => ?_⟩)
      · rw [show isB (lk T t q) = false from decide_eq_false z, if_neg (by decide)] at e
        subst e
        exact from1 N hq fN n12 nk
      · have d : isB (lk T t q) = true := decide_eq_true z
        have lt := lk_lt d (by decide)
        rw [d, if_pos rfl] at e
        rw [n12, nI_s]
        exact ih (q + 1) _ (by omega) (by omega) (pf_si fN (by decide) (by decide)) (g6s _ _ _) (fun k hk => by rw [g6 _ _ _ _ hk]; exact nk k hk) e
  exact key 401 p M (by omega) hp2 (pf_rf M) hp (fun _ _ => rfl) e1
end MG21
section MG22
/-! ===== the reference's reader: names ===== -/
/-- the reader stands: its token from f up to p -/
def RS (M : Mm) (T : Nat → Int32) (t f p : Nat) : Prop := TP M T t ∧ gi M 6027 13 = nI f ∧ gi M 6027 12 = nI p ∧ f ≤ p ∧ p ≤ 400
def isv (T : Nat → Int32) (t f p : Nat) (n a b c d : Int32) : Bool := decide (nI (p - f) = n ∧ lk T t f = a ∧ lk T t (f + 1) = b ∧ (n < 3 ∨ lk T t (f + 2) = c) ∧ (n < 4 ∨ lk T t (f + 3) = d))
def gov (T : Nat → Int32) (t f k : Nat) (a b c : Int32) : Bool := decide (lk T t (f + k) = a ∧ (b = 0 ∨ lk T t (f + k + 1) = b) ∧ (c = 0 ∨ lk T t (f + k + 2) = c))
theorem nI_ad (a k : Nat) : nI a + nI k = nI (a + k) := by
  show Int32.ofNat _ + Int32.ofNat _ = Int32.ofNat _
  rw [Int32.ofNat_add]
section GP3
variable {M : Mm} {T : Nat → Int32} {t f p : Nat} {K : Int32 → Mm → Prop}
theorem sM_is {n a b c d : Int32} (rs : RS M T t f p) (h0 : isv T t f p n a b c d = false → K 0 M) (h1 : isv T t f p n a b c d = true → K 1 M) : CI mM_is [.ref 6027, .int n, .int a, .int b, .int c, .int d] M K := by
  obtain ⟨tp, r13, r12, r1, r2⟩ := rs
  have e1 : nI f + 1 = nI (f + 1) := nI_ad f 1
  have e2 : nI f + 2 = nI (f + 2) := nI_ad f 2
  have e3 : nI f + 3 = nI (f + 3) := nI_ad f 3
  have no : ¬ (nI (p - f) = n ∧ lk T t f = a ∧ lk T t (f + 1) = b ∧ (n < 3 ∨ lk T t (f + 2) = c) ∧ (n < 4 ∨ lk T t (f + 3) = d)) → K 0 M := fun q => h0 (decide_eq_false q)
  have yes : (nI (p - f) = n ∧ lk T t f = a ∧ lk T t (f + 1) = b ∧ (n < 3 ∨ lk T t (f + 2) = c) ∧ (n < 4 ∨ lk T t (f + 3) = d)) → K 1 M := fun q => h1 (decide_eq_true q)
  refine call_of rfl (Nat.le_of_ble_eq_true rfl) rfl (vM_is_0 rfl ?_)
  rw [r13, r12, nsub r1]
  refine ⟨fun q => no (fun z => q z.1), fun q1 => sM_look tp (by omega) (vM_is_21 rfl ⟨fun q => no (fun z => q z.2.1), fun q2 => ?_⟩)⟩
  rw [r13, e1]
  have b59 : (n < 3 ∨ lk T t (f + 2) = c) → lk T t (f + 1) = b → X mM_is 59 [(0, .ref 6027), (1, .int n), (5, .int d)] [] M (mC mM_is, mS mM_is) (QI K) := by
    intro q4 q3
    refine vM_is_59 rfl ⟨fun z => yes ⟨q1, q2, q3, q4, Or.inl z⟩, fun z => ?_⟩
    rw [r13, e3]
    exact sM_look tp (by omega) (vM_is_74 ⟨fun q => no (fun y => q (y.2.2.2.2.resolve_left z)), fun q => yes ⟨q1, q2, q3, q4, Or.inr q⟩⟩)
  refine sM_look tp (by omega) (vM_is_35 rfl ⟨fun q => no (fun z => q z.2.2.1), fun q3 => b59 (Or.inl q3.2) q3.1, fun q3 => ?_⟩)
  rw [r13, e2]
  exact sM_look tp (by omega) (vM_is_54 ⟨fun q => no (fun z => q (z.2.2.2.1.resolve_left q3.2)), fun q => b59 (Or.inr q) q3.1⟩)
theorem sM_goesOn {k : Nat} {kk a b c : Int32} (hk : kk = nI k) (hk2 : k < 10) (rs : RS M T t f p) (h0 : gov T t f k a b c = false → K 0 M) (h1 : gov T t f k a b c = true → K 1 M) : CI mM_goesOn [.ref 6027, .int kk, .int a, .int b, .int c] M K := by
  subst hk
  obtain ⟨tp, r13, r12, r1, r2⟩ := rs
  have e0 : nI f + nI k = nI (f + k) := nI_ad f k
  have e1 : nI (f + k) + 1 = nI (f + k + 1) := nI_ad _ 1
  have e2 : nI (f + k) + 2 = nI (f + k + 2) := nI_ad _ 2
  have no : ¬ (lk T t (f + k) = a ∧ (b = 0 ∨ lk T t (f + k + 1) = b) ∧ (c = 0 ∨ lk T t (f + k + 2) = c)) → K 0 M := fun q => h0 (decide_eq_false q)
  have yes : (lk T t (f + k) = a ∧ (b = 0 ∨ lk T t (f + k + 1) = b) ∧ (c = 0 ∨ lk T t (f + k + 2) = c)) → K 1 M := fun q => h1 (decide_eq_true q)
  refine call_of rfl (Nat.le_of_ble_eq_true rfl) rfl (vM_goesOn_0 rfl ?_)
  rw [r13, e0]
  have b34 : lk T t (f + k) = a → (b = 0 ∨ lk T t (f + k + 1) = b) → X mM_goesOn 34 [(0, .ref 6027), (1, .int (nI k)), (4, .int c)] [] M (mC mM_goesOn, mS mM_goesOn) (QI K) := by
    intro q1 q2
    refine vM_goesOn_34 rfl ⟨fun z => yes ⟨q1, q2, Or.inl z⟩, fun z => ?_⟩
    rw [r13, e0, e2]
    exact sM_look tp (by omega) (vM_goesOn_51 ⟨fun q => no (fun y => q (y.2.2.resolve_left z)), fun q => yes ⟨q1, q2, Or.inr q⟩⟩)
  refine sM_look tp (by omega) (vM_goesOn_10 rfl ⟨fun q => no (fun z => q z.1), fun q => b34 q.1 (Or.inl q.2), fun q1 => ?_⟩)
  rw [r13, e0, e1]
  exact sM_look tp (by omega) (vM_goesOn_30 ⟨fun q => no (fun z => q (z.2.1.resolve_left q1.2)), fun q => b34 q1.1 (Or.inr q)⟩)
def rnv (T : Nat → Int32) (t f p : Nat) : Int32 := if isv T t f p 4 109 97 105 110 = true then 12 else if (isv T t f p 5 110 111 116 101 && gov T t f 4 115 0 0) = true then 13 else if isv T t f p 3 116 119 111 0 = true then 14 else if isv T t f p 4 104 101 97 100 = true then 15 else if (isv T t f p 6 115 105 108 101 && gov T t f 4 110 116 0) = true then 16 else if isv T t f p 4 108 97 119 115 = true then 17 else if (isv T t f p 5 108 97 116 101 && gov T t f 4 114 0 0) = true then 18 else if (isv T t f p 7 115 112 101 99 && gov T t f 4 105 97 108) = true then 19 else if isv T t f p 4 110 111 110 101 = true then 20 else if (isv T t f p 5 102 105 114 115 && gov T t f 4 116 0 0) = true then 21 else if isv T t f p 3 121 101 115 0 = true then 22 else if isv T t f p 2 110 111 0 0 = true then 23 else if isv T t f p 4 111 112 101 110 = true then 24 else -4
theorem sM_ruleNameNow (rs : RS M T t f p) (h : K (rnv T t f p) M) : CI mM_ruleNameNow [.ref 6027] M K := by
  unfold rnv at h
  refine call_of rfl (Nat.le_of_ble_eq_true rfl) rfl (vM_ruleNameNow_0 rfl ?_)
  refine sM_is rs (fun q => vM_ruleNameNow_13 rfl ⟨fun _ => ?_, fun z => absurd rfl z⟩) (fun q => vM_ruleNameNow_13 rfl ⟨fun z => absurd z (by decide), fun _ => by rwa [if_pos q] at h⟩)
  rw [if_neg (by rw [q]; decide)] at h
  have b50 : (isv T t f p 5 110 111 116 101 && gov T t f 4 115 0 0) = false → X mM_ruleNameNow 50 [(0, .ref 6027)] [] M (mC mM_ruleNameNow, mS mM_ruleNameNow) (QI K) := by
    intro q
    rw [if_neg (by rw [q]; decide)] at h
    refine vM_ruleNameNow_50 rfl ?_
    refine sM_is rs (fun q => vM_ruleNameNow_62 rfl ⟨fun _ => ?_, fun z => absurd rfl z⟩) (fun q => vM_ruleNameNow_62 rfl ⟨fun z => absurd z (by decide), fun _ => by rwa [if_pos q] at h⟩)
    rw [if_neg (by rw [q]; decide)] at h
    refine sM_is rs (fun q => vM_ruleNameNow_81 rfl ⟨fun _ => ?_, fun z => absurd rfl z⟩) (fun q => vM_ruleNameNow_81 rfl ⟨fun z => absurd z (by decide), fun _ => by rwa [if_pos q] at h⟩)
    rw [if_neg (by rw [q]; decide)] at h
    have b120 : (isv T t f p 6 115 105 108 101 && gov T t f 4 110 116 0) = false → X mM_ruleNameNow 120 [(0, .ref 6027)] [] M (mC mM_ruleNameNow, mS mM_ruleNameNow) (QI K) := by
      intro q
      rw [if_neg (by rw [q]; decide)] at h
      refine vM_ruleNameNow_120 rfl ?_
      refine sM_is rs (fun q => vM_ruleNameNow_133 rfl ⟨fun _ => ?_, fun z => absurd rfl z⟩) (fun q => vM_ruleNameNow_133 rfl ⟨fun z => absurd z (by decide), fun _ => by rwa [if_pos q] at h⟩)
      rw [if_neg (by rw [q]; decide)] at h
      have b170 : (isv T t f p 5 108 97 116 101 && gov T t f 4 114 0 0) = false → X mM_ruleNameNow 170 [(0, .ref 6027)] [] M (mC mM_ruleNameNow, mS mM_ruleNameNow) (QI K) := by
        intro q
        rw [if_neg (by rw [q]; decide)] at h
        refine vM_ruleNameNow_170 rfl ?_
        have b204 : (isv T t f p 7 115 112 101 99 && gov T t f 4 105 97 108) = false → X mM_ruleNameNow 204 [(0, .ref 6027)] [] M (mC mM_ruleNameNow, mS mM_ruleNameNow) (QI K) := by
          intro q
          rw [if_neg (by rw [q]; decide)] at h
          refine vM_ruleNameNow_204 rfl ?_
          refine sM_is rs (fun q => vM_ruleNameNow_217 rfl ⟨fun _ => ?_, fun z => absurd rfl z⟩) (fun q => vM_ruleNameNow_217 rfl ⟨fun z => absurd z (by decide), fun _ => by rwa [if_pos q] at h⟩)
          rw [if_neg (by rw [q]; decide)] at h
          have b254 : (isv T t f p 5 102 105 114 115 && gov T t f 4 116 0 0) = false → X mM_ruleNameNow 254 [(0, .ref 6027)] [] M (mC mM_ruleNameNow, mS mM_ruleNameNow) (QI K) := by
            intro q
            rw [if_neg (by rw [q]; decide)] at h
            refine vM_ruleNameNow_254 rfl ?_
            refine sM_is rs (fun q => vM_ruleNameNow_266 rfl ⟨fun _ => ?_, fun z => absurd rfl z⟩) (fun q => vM_ruleNameNow_266 rfl ⟨fun z => absurd z (by decide), fun _ => by rwa [if_pos q] at h⟩)
            rw [if_neg (by rw [q]; decide)] at h
            refine sM_is rs (fun q => vM_ruleNameNow_285 rfl ⟨fun _ => ?_, fun z => absurd rfl z⟩) (fun q => vM_ruleNameNow_285 rfl ⟨fun z => absurd z (by decide), fun _ => by rwa [if_pos q] at h⟩)
            rw [if_neg (by rw [q]; decide)] at h
            exact sM_is rs (fun q => vM_ruleNameNow_306 (by rw [if_pos rfl]; rwa [if_neg (by rw [q]; decide)] at h)) (fun q => vM_ruleNameNow_306 (by rw [if_neg (by decide)]; rwa [if_pos q] at h))
          exact sM_is rs (fun q => vM_ruleNameNow_236 rfl ⟨fun _ => b254 (by rw [q, Bool.false_and]), fun z => absurd rfl z⟩) (fun q => vM_ruleNameNow_236 rfl ⟨fun z => absurd z (by decide), fun _ => sM_goesOn (k := 4) rfl (by decide) rs (fun q2 => vM_ruleNameNow_248 ⟨fun _ => b254 (by rw [q2, Bool.and_false]), fun z => absurd rfl z⟩) (fun q2 => vM_ruleNameNow_248 ⟨fun z => absurd z (by decide), fun _ => by rwa [if_pos (by rw [q, q2]; rfl)] at h⟩)⟩)
        exact sM_is rs (fun q => vM_ruleNameNow_184 rfl ⟨fun _ => b204 (by rw [q, Bool.false_and]), fun z => absurd rfl z⟩) (fun q => vM_ruleNameNow_184 rfl ⟨fun z => absurd z (by decide), fun _ => sM_goesOn (k := 4) rfl (by decide) rs (fun q2 => vM_ruleNameNow_198 ⟨fun _ => b204 (by rw [q2, Bool.and_false]), fun z => absurd rfl z⟩) (fun q2 => vM_ruleNameNow_198 ⟨fun z => absurd z (by decide), fun _ => by rwa [if_pos (by rw [q, q2]; rfl)] at h⟩)⟩)
      exact sM_is rs (fun q => vM_ruleNameNow_152 rfl ⟨fun _ => b170 (by rw [q, Bool.false_and]), fun z => absurd rfl z⟩) (fun q => vM_ruleNameNow_152 rfl ⟨fun z => absurd z (by decide), fun _ => sM_goesOn (k := 4) rfl (by decide) rs (fun q2 => vM_ruleNameNow_164 ⟨fun _ => b170 (by rw [q2, Bool.and_false]), fun z => absurd rfl z⟩) (fun q2 => vM_ruleNameNow_164 ⟨fun z => absurd z (by decide), fun _ => by rwa [if_pos (by rw [q, q2]; rfl)] at h⟩)⟩)
    exact sM_is rs (fun q => vM_ruleNameNow_101 rfl ⟨fun _ => b120 (by rw [q, Bool.false_and]), fun z => absurd rfl z⟩) (fun q => vM_ruleNameNow_101 rfl ⟨fun z => absurd z (by decide), fun _ => sM_goesOn (k := 4) rfl (by decide) rs (fun q2 => vM_ruleNameNow_114 ⟨fun _ => b120 (by rw [q2, Bool.and_false]), fun z => absurd rfl z⟩) (fun q2 => vM_ruleNameNow_114 ⟨fun z => absurd z (by decide), fun _ => by rwa [if_pos (by rw [q, q2]; rfl)] at h⟩)⟩)
  exact sM_is rs (fun q => vM_ruleNameNow_32 rfl ⟨fun _ => b50 (by rw [q, Bool.false_and]), fun z => absurd rfl z⟩) (fun q => vM_ruleNameNow_32 rfl ⟨fun z => absurd z (by decide), fun _ => sM_goesOn (k := 4) rfl (by decide) rs (fun q2 => vM_ruleNameNow_44 ⟨fun _ => b50 (by rw [q2, Bool.and_false]), fun z => absurd rfl z⟩) (fun q2 => vM_ruleNameNow_44 ⟨fun z => absurd z (by decide), fun _ => by rwa [if_pos (by rw [q, q2]; rfl)] at h⟩)⟩)
def nmv (T : Nat → Int32) (t f p : Nat) : Int32 := if isv T t f p 4 119 111 114 100 = true then 0 else if isv T t f p 4 99 105 116 101 = true then 1 else if (isv T t f p 7 97 103 97 105 && gov T t f 4 110 115 116) = true then 2 else if isv T t f p 4 110 111 116 101 = true then 3 else if isv T t f p 4 108 105 107 101 = true then 4 else if isv T t f p 3 108 97 119 0 = true then 5 else if isv T t f p 2 105 110 0 0 = true then 10 else if (isv T t f p 6 99 111 112 105 && gov T t f 4 101 115 0) = true then 11 else rnv T t f p
theorem sM_nameNow (rs : RS M T t f p) (h : K (nmv T t f p) M) : CI mM_nameNow [.ref 6027] M K := by
  unfold nmv at h
  refine call_of rfl (Nat.le_of_ble_eq_true rfl) rfl (vM_nameNow_0 rfl ?_)
  refine sM_is rs (fun q => vM_nameNow_13 rfl ⟨fun _ => ?_, fun z => absurd rfl z⟩) (fun q => vM_nameNow_13 rfl ⟨fun z => absurd z (by decide), fun _ => by rwa [if_pos q] at h⟩)
  rw [if_neg (by rw [q]; decide)] at h
  refine sM_is rs (fun q => vM_nameNow_31 rfl ⟨fun _ => ?_, fun z => absurd rfl z⟩) (fun q => vM_nameNow_31 rfl ⟨fun z => absurd z (by decide), fun _ => by rwa [if_pos q] at h⟩)
  rw [if_neg (by rw [q]; decide)] at h
  have b69 : (isv T t f p 7 97 103 97 105 && gov T t f 4 110 115 116) = false → X mM_nameNow 69 [(0, .ref 6027)] [] M (mC mM_nameNow, mS mM_nameNow) (QI K) := by
    intro q
    rw [if_neg (by rw [q]; decide)] at h
    refine vM_nameNow_69 rfl ?_
    refine sM_is rs (fun q => vM_nameNow_82 rfl ⟨fun _ => ?_, fun z => absurd rfl z⟩) (fun q => vM_nameNow_82 rfl ⟨fun z => absurd z (by decide), fun _ => by rwa [if_pos q] at h⟩)
    rw [if_neg (by rw [q]; decide)] at h
    refine sM_is rs (fun q => vM_nameNow_100 rfl ⟨fun _ => ?_, fun z => absurd rfl z⟩) (fun q => vM_nameNow_100 rfl ⟨fun z => absurd z (by decide), fun _ => by rwa [if_pos q] at h⟩)
    rw [if_neg (by rw [q]; decide)] at h
    refine sM_is rs (fun q => vM_nameNow_117 rfl ⟨fun _ => ?_, fun z => absurd rfl z⟩) (fun q => vM_nameNow_117 rfl ⟨fun z => absurd z (by decide), fun _ => by rwa [if_pos q] at h⟩)
    rw [if_neg (by rw [q]; decide)] at h
    refine sM_is rs (fun q => vM_nameNow_133 rfl ⟨fun _ => ?_, fun z => absurd rfl z⟩) (fun q => vM_nameNow_133 rfl ⟨fun z => absurd z (by decide), fun _ => by rwa [if_pos q] at h⟩)
    rw [if_neg (by rw [q]; decide)] at h
    have b174 : (isv T t f p 6 99 111 112 105 && gov T t f 4 101 115 0) = false → X mM_nameNow 174 [(0, .ref 6027)] [] M (mC mM_nameNow, mS mM_nameNow) (QI K) := by
      intro q
      rw [if_neg (by rw [q]; decide)] at h
      refine vM_nameNow_174 rfl ?_
      exact sM_ruleNameNow rs (vM_nameNow_178 h)
    exact sM_is rs (fun q => vM_nameNow_153 rfl ⟨fun _ => b174 (by rw [q, Bool.false_and]), fun z => absurd rfl z⟩) (fun q => vM_nameNow_153 rfl ⟨fun z => absurd z (by decide), fun _ => sM_goesOn (k := 4) rfl (by decide) rs (fun q2 => vM_nameNow_166 ⟨fun _ => b174 (by rw [q2, Bool.and_false]), fun z => absurd rfl z⟩) (fun q2 => vM_nameNow_166 ⟨fun z => absurd z (by decide), fun _ => by rwa [if_pos (by rw [q, q2]; rfl)] at h⟩)⟩)
  exact sM_is rs (fun q => vM_nameNow_50 rfl ⟨fun _ => b69 (by rw [q, Bool.false_and]), fun z => absurd rfl z⟩) (fun q => vM_nameNow_50 rfl ⟨fun z => absurd z (by decide), fun _ => sM_goesOn (k := 4) rfl (by decide) rs (fun q2 => vM_nameNow_64 ⟨fun _ => b69 (by rw [q2, Bool.and_false]), fun z => absurd rfl z⟩) (fun q2 => vM_nameNow_64 ⟨fun z => absurd z (by decide), fun _ => by rwa [if_pos (by rw [q, q2]; rfl)] at h⟩)⟩)
end GP3
end MG22
section MG23
/-! ===== the reference's reader as a state: from, pos, sort, value, fault, place ===== -/
abbrev Rst : Type := Nat × Nat × Int32 × Int32 × Int32 × Int32
def RD (M : Mm) (T : Nat → Int32) (t : Nat) (s : Rst) : Prop := TP M T t ∧ gi M 6027 13 = nI s.1 ∧ gi M 6027 12 = nI s.2.1 ∧ gi M 6027 14 = s.2.2.1 ∧ gi M 6027 15 = s.2.2.2.1 ∧ gi M 6027 16 = s.2.2.2.2.1 ∧ gi M 6027 17 = s.2.2.2.2.2 ∧ s.1 ≤ s.2.1 ∧ s.2.1 ≤ t ∧ (s.2.2.2.2.1 = 0 ∨ ¬ s.2.2.2.2.1 ≤ 0)
def nxs (T : Nat → Int32) (t : Nat) (s : Rst) : Rst := if s.2.2.2.2.1 = 0 then
    (if lk T t (nx1 T t s.2.1) < 0 then (nx1 T t s.2.1, nx1 T t s.2.1, 0, s.2.2.2.1, s.2.2.2.2.1, s.2.2.2.2.2)
     else if isA (lk T t (nx1 T t s.2.1)) = true then (nx1 T t s.2.1, rn isA T t 401 (nx1 T t s.2.1), 1, s.2.2.2.1, s.2.2.2.2.1, s.2.2.2.2.2)
     else if isF (lk T t (nx1 T t s.2.1)) = true then (nx1 T t s.2.1, rn isF T t 401 (nx1 T t s.2.1), 2, vlf T t (nx1 T t s.2.1) (rn isF T t 401 (nx1 T t s.2.1) - nx1 T t s.2.1), if rn isF T t 401 (nx1 T t s.2.1) - nx1 T t s.2.1 ≤ 3 then s.2.2.2.2.1 else 1, if rn isF T t 401 (nx1 T t s.2.1) - nx1 T t s.2.1 ≤ 3 then s.2.2.2.2.2 else nI (nx1 T t s.2.1))
     else (nx1 T t s.2.1, nx1 T t s.2.1 + 1, if lk T t (nx1 T t s.2.1) = 45 then 3 else 4, s.2.2.2.1, if lk T t (nx1 T t s.2.1) = 45 ∨ lk T t (nx1 T t s.2.1) = 59 then s.2.2.2.2.1 else 1, if lk T t (nx1 T t s.2.1) = 45 ∨ lk T t (nx1 T t s.2.1) = 59 then s.2.2.2.2.2 else nI (nx1 T t s.2.1)))
  else s
theorem nM_next {M : Mm} {T : Nat → Int32} {t : Nat} {s : Rst} {K : Mm → Prop} (rd : RD M T t s) (h : ∀ N, PF M N → RD N T t (nxs T t s) → K N) : CV mM_next [.ref 6027] M K := by
  have rd0 := rd
  obtain ⟨tp, r13, r12, r14, r15, r16, r17, r1, r2, r3⟩ := rd
  have ht := tp.2.2.1
  by_cases z : s.2.2.2.2.1 = 0
  · refine sM_next tp r12 (by omega) (by rw [r16, z]) (fun N nx => ?_)
    obtain ⟨pf, n13, nx⟩ := nx
    have tpN := tp_pf pf tp
    have h1 : nx1 T t s.2.1 ≤ t := rn_le isB T t (by decide) 401 _ r2
    refine h N pf ?_
    unfold nxs
    rw [if_pos z]
    rcases nx with ⟨c, n12, n14, n15, n16, n17⟩ | ⟨c, a, n12, n14, n15, n16, n17⟩ | ⟨c, a, b, n12, n14, n15, n16⟩ | ⟨c, a, b, n12, n14, n15, n16⟩
    · rw [if_pos c]
      exact ⟨tpN, n13, n12, n14, n15.trans r15, n16.trans r16, n17.trans r17, Nat.le_refl _, h1, r3⟩
    · rw [if_neg c, if_pos a]
      exact ⟨tpN, n13, n12, n14, n15.trans r15, n16.trans r16, n17.trans r17, rn_ge _ _ _ _ _, rn_le isA T t (by decide) 401 _ h1, r3⟩
    · rw [if_neg c, if_neg (by rw [a]; decide), if_pos b]
      by_cases l : rn isF T t 401 (nx1 T t s.2.1) - nx1 T t s.2.1 ≤ 3
      · rw [if_pos l] at n16
        rw [if_pos l, if_pos l]
        exact ⟨tpN, n13, n12, n14, n15, n16.1.trans r16, n16.2.trans r17, rn_ge _ _ _ _ _, rn_le isF T t (by decide) 401 _ h1, r3⟩
      · rw [if_neg l] at n16
        rw [if_neg l, if_neg l]
        exact ⟨tpN, n13, n12, n14, n15, n16.1, n16.2, rn_ge _ _ _ _ _, rn_le isF T t (by decide) 401 _ h1, Or.inr (show ¬ (1 : Int32) ≤ 0 by decide)⟩
    · rw [if_neg c, if_neg (by rw [a]; decide), if_neg (by rw [b]; decide)]
      have h2 : nx1 T t s.2.1 + 1 ≤ t := by
        by_cases l : t ≤ nx1 T t s.2.1
        · exfalso
          rw [lk, if_pos l] at c
          exact c (by decide)
        · omega
      by_cases l : lk T t (nx1 T t s.2.1) = 45 ∨ lk T t (nx1 T t s.2.1) = 59
      · rw [if_pos l] at n16
        rw [if_pos l, if_pos l]
        exact ⟨tpN, n13, n12, n14, n15.trans r15, n16.1.trans r16, n16.2.trans r17, Nat.le_succ _, h2, r3⟩
      · rw [if_neg l] at n16
        rw [if_neg l, if_neg l]
        exact ⟨tpN, n13, n12, n14, n15.trans r15, n16.1, n16.2, Nat.le_succ _, h2, Or.inr (show ¬ (1 : Int32) ≤ 0 by decide)⟩
  · refine sM_next1 (by rw [r16]; exact r3.resolve_left z) (h M (pf_rf M) ?_)
    unfold nxs
    rw [if_neg z]; exact rd0
def wts (g c : Int32) (s : Rst) : Rst := if g = 0 ∧ s.2.2.2.2.1 = 0 then (s.1, s.2.1, s.2.2.1, s.2.2.2.1, c, nI s.1) else s
theorem nM_wants {M : Mm} {T : Nat → Int32} {t : Nat} {s : Rst} {g c : Int32} {K : Mm → Prop} (rd : RD M T t s) (hc : ¬ c ≤ 0) (h : ∀ N, PF M N → RD N T t (wts g c s) → K N) : CV mM_wants [.ref 6027, .int g, .int c] M K := by
  have rd0 := rd
  obtain ⟨tp, r13, r12, r14, r15, r16, r17, r1, r2, r3⟩ := rd
  refine sM_wants (fun q => h M (pf_rf M) ?_) (fun q1 q2 => ?_)
  · unfold wts
    rw [r16] at q
    rw [if_neg (fun z => q.elim (fun y => y z.1) (fun y => y z.2))]; exact rd0
  · rw [r16] at q2
    have pf : PF M (si (si M 6027 16 c) 6027 17 (gi M 6027 13)) := pf_si (pf_si (pf_rf M) (by decide) (by decide)) (by decide) (by decide)
    refine h _ pf ?_
    unfold wts
    rw [if_pos ⟨q1, q2⟩]
    have k : ∀ i, i ≠ 16 → i ≠ 17 → gi (si (si M 6027 16 c) 6027 17 (gi M 6027 13)) 6027 i = gi M 6027 i := fun i a b => by rw [g6 _ _ _ _ b, g6 _ _ _ _ a]
    refine ⟨tp_pf pf tp, (k 13 (by decide) (by decide)).trans r13, (k 12 (by decide) (by decide)).trans r12, (k 14 (by decide) (by decide)).trans r14, (k 15 (by decide) (by decide)).trans r15, ?_, ?_, r1, r2, Or.inr hc⟩
    · rw [g6 _ _ _ _ (by decide), g6s]
    · rw [g6s]; exact r13
/-- a number of these bounds is wanted -/
def isn (lo hi : Int32) (s : Rst) : Rst := wts (if ¬ s.2.2.2.1 < lo ∧ ¬ hi < s.2.2.2.1 then 1 else 0) 3 (wts (if s.2.2.1 = 2 then 1 else 0) 2 s)
theorem wts_v (g c : Int32) (s : Rst) : (wts g c s).2.2.2.1 = s.2.2.2.1 := by unfold wts; split <;> rfl
theorem wts_o (g c : Int32) (s : Rst) : (wts g c s).2.2.1 = s.2.2.1 := by unfold wts; split <;> rfl
theorem wts_f {g c : Int32} {s : Rst} (h : ¬ s.2.2.2.2.1 = 0) : wts g c s = s := by unfold wts; rw [if_neg (fun q => h q.2)]
theorem nM_isNumber {M : Mm} {T : Nat → Int32} {t : Nat} {s : Rst} {lo hi : Int32} {K : Mm → Prop} (rd : RD M T t s) (h : ∀ N, PF M N → RD N T t (isn lo hi s) → K N) : CV mM_isNumber [.ref 6027, .int lo, .int hi] M K := by
  have r16 := rd.2.2.2.2.2.1
  have r14 := rd.2.2.2.1
  have b25 : ∀ N, PF M N → RD N T t (wts (if s.2.2.1 = 2 then 1 else 0) 2 s) → X mM_isNumber 25 [(0, .ref 6027), (1, .int lo), (2, .int hi)] [] N (mC mM_isNumber, mS mM_isNumber) (QV K) := by
    intro N pf rN
    have n16 := rN.2.2.2.2.2.1
    have n15 := rN.2.2.2.2.1
    rw [wts_v] at n15
    refine vM_isNumber_25 rfl ⟨fun q => h N pf ?_, fun q => ?_⟩
    · rw [n16] at q
      unfold isn
      rw [wts_f q]; exact rN
    · rw [n15]
      refine sM_in (l := lo) (m := hi) rfl rfl (fun y => vM_isNumber_45 rfl (nM_wants rN (by decide) (fun O pf2 rO => vM_isNumber_49 (h O (pf_tr pf pf2) ?_)))) (fun y1 y2 => vM_isNumber_45 rfl (nM_wants rN (by decide) (fun O pf2 rO => vM_isNumber_49 (h O (pf_tr pf pf2) ?_))))
      · unfold isn
        rw [if_neg (fun z => y.elim z.1 z.2)]; exact rO
      · unfold isn
        rw [if_pos ⟨y1, y2⟩]; exact rO
  refine call_of rfl (Nat.le_of_ble_eq_true rfl) rfl (vM_isNumber_0 rfl ⟨fun q => b25 M (pf_rf M) ?_, fun q => vM_isNumber_21 rfl (nM_wants rd (by decide) (fun N pf rN => b25 N pf ?_)), fun q => vM_isNumber_21 rfl (nM_wants rd (by decide) (fun N pf rN => b25 N pf ?_))⟩)
  · rw [r16] at q
    rw [wts_f q]; exact rd
  · rw [r14] at q
    rw [if_neg q.2]; exact rN
  · rw [r14] at q
    rw [if_pos q.2]; exact rN
theorem nM_readNumber {M : Mm} {T : Nat → Int32} {t : Nat} {s : Rst} {lo hi : Int32} {K : Int32 → Mm → Prop} (rd : RD M T t s) (h : ∀ N, PF M N → RD N T t (nxs T t (isn lo hi s)) → K s.2.2.2.1 N) : CI mM_readNumber [.ref 6027, .int lo, .int hi] M K := by
  refine call_of rfl (Nat.le_of_ble_eq_true rfl) rfl (vM_readNumber_0 rfl (nM_isNumber rd (fun N pf rN => vM_readNumber_6 rfl (nM_next rN (fun O pf2 rO => vM_readNumber_15 ?_)))))
  have n15 := rN.2.2.2.2.1
  unfold isn at n15
  rw [wts_v, wts_v] at n15
  rw [n15]
  exact h O (pf_tr pf pf2) rO
end MG23
section MG24
/-! ===== the reference's reader: what a line is made of ===== -/
theorem wts_1 (g c : Int32) (s : Rst) : (wts g c s).1 = s.1 := by unfold wts; split <;> rfl
theorem wts_p (g c : Int32) (s : Rst) : (wts g c s).2.1 = s.2.1 := by unfold wts; split <;> rfl
section GP5
variable {M : Mm} {T : Nat → Int32} {t : Nat} {s : Rst}
theorem rs_rd (rd : RD M T t s) : RS M T t s.1 s.2.1 := ⟨rd.1, rd.2.1, rd.2.2.1, rd.2.2.2.2.2.2.2.1, Nat.le_trans rd.2.2.2.2.2.2.2.2.1 rd.1.2.2.1⟩
def eln (T : Nat → Int32) (t : Nat) (s : Rst) : Rst := nxs T t (wts (if s.2.2.1 = 4 then 1 else 0) 2 s)
theorem nM_endLine {K : Mm → Prop} (rd : RD M T t s) (h : ∀ N, PF M N → RD N T t (eln T t s) → K N) : CV mM_endLine [.ref 6027] M K := by
  have r16 := rd.2.2.2.2.2.1
  have r14 := rd.2.2.2.1
  have b25 : ∀ N, PF M N → RD N T t (wts (if s.2.2.1 = 4 then 1 else 0) 2 s) → X mM_endLine 25 [(0, .ref 6027)] [] N (mC mM_endLine, mS mM_endLine) (QV K) := fun N pf rN => vM_endLine_25 rfl (nM_next rN (fun O pf2 rO => vM_endLine_29 (h O (pf_tr pf pf2) rO)))
  refine call_of rfl (Nat.le_of_ble_eq_true rfl) rfl (vM_endLine_0 rfl ⟨fun q => b25 M (pf_rf M) ?_, fun q => vM_endLine_21 rfl (nM_wants rd (by decide) (fun N pf rN => b25 N pf ?_)), fun q => vM_endLine_21 rfl (nM_wants rd (by decide) (fun N pf rN => b25 N pf ?_))⟩)
  · rw [r16] at q
    rw [wts_f q]; exact rd
  · rw [r14] at q
    rw [if_neg q.2]; exact rN
  · rw [r14] at q
    rw [if_pos q.2]; exact rN
/-- letters as bits -/
def ltr (T : Nat → Int32) (t : Nat) (fi ma : Int32) : Nat → Nat → Int32 → Int32
  | 0, _, b => b
  | n + 1, i, b => if (lk T t i - fi < 0 ∨ ma - 1 < lk T t i - fi) ∨ ((b >>> ((lk T t i - fi) &&& 31)) &&& 1) = 1 then -4 else ltr T t fi ma n (i + 1) (b ||| ((1 : Int32) <<< ((lk T t i - fi) &&& 31)))
theorem sM_letters {f p : Nat} {fi ma : Int32} {K : Int32 → Mm → Prop} (rs : RS M T t f p) (h : K (ltr T t fi ma (p - f) f 0) M) : CI mM_letters [.ref 6027, .int fi, .int ma] M K := by
  obtain ⟨tp, r13, r12, r1, r2⟩ := rs
  refine call_of rfl (Nat.le_of_ble_eq_true rfl) rfl (vM_letters_0 rfl ?_)
  rw [r13]
  have key : ∀ n i b, i + n = p → K (ltr T t fi ma n i b) M → X mM_letters 8 [(0, .ref 6027), (1, .int fi), (2, .int ma), (3, .int b), (4, .int (nI i))] [] M (mC mM_letters, mS mM_letters) (QI K) := by
    intro n
    induction n with
    | zero =>
      intro i b hi h2
      rw [Nat.add_zero] at hi
      rw [hi]
      exact vM_letters_8 rfl ⟨fun _ => h2, fun q => absurd (by rw [r12]; exact Int32.le_refl _) q⟩
    | succ n ih =>
      intro i b hi h
      rw [ltr] at h
      refine vM_letters_8 rfl ⟨fun q => ?_, fun _ => sM_look tp (by omega) (vM_letters_23 (sM_in (l := 0) (m := ma - 1) rfl rfl (fun q => vM_letters_38 ⟨fun _ => ?_, fun z => absurd rfl z.1⟩) (fun q1 q2 => vM_letters_38 ⟨fun z => ?_, fun z => ?_⟩)))⟩
      · rw [r12, nle (by omega) (by omega)] at q; omega
      · rwa [if_pos (Or.inl q)] at h
      · rcases z with z | z
        · exact absurd z (by decide)
        · rwa [if_pos (Or.inr z.2)] at h
      · rw [if_neg (fun y => y.elim (fun y => y.elim q1 q2) z.2)] at h
        rw [nI_s]
        exact ih (i + 1) _ (by omega) h
  exact key (p - f) f 0 (by omega) h
/-- the token is a name -/
def nam (s : Rst) : Rst := wts (if s.2.2.1 = 1 then 1 else 0) 2 s
def rmv (T : Nat → Int32) (t : Nat) (s : Rst) : Int32 := if (nam s).2.2.2.2.1 = 0 then ltr T t 97 8 (s.2.1 - s.1) s.1 0 else 0
def rms (T : Nat → Int32) (t : Nat) (s : Rst) : Rst := nxs T t (wts (if rmv T t s = -4 then 0 else 1) 3 (nam s))
theorem nM_readMain {K : Int32 → Mm → Prop} (rd : RD M T t s) (h : ∀ N, PF M N → RD N T t (rms T t s) → K (rmv T t s) N) : CI mM_readMain [.ref 6027] M K := by
  have r16 := rd.2.2.2.2.2.1
  have r14 := rd.2.2.2.1
  have b25 : ∀ N, PF M N → RD N T t (nam s) → X mM_readMain 25 [(0, .ref 6027)] [] N (mC mM_readMain, mS mM_readMain) (QI K) := by
    intro N pf rN
    have n16 := rN.2.2.2.2.2.1
    have b44 : X mM_readMain 44 [(0, .ref 6027)] [.int (rmv T t s)] N (mC mM_readMain, mS mM_readMain) (QI K) := by
      have b68 : ∀ O, PF M O → RD O T t (wts (if rmv T t s = -4 then 0 else 1) 3 (nam s)) → X mM_readMain 68 [(0, .ref 6027), (1, .int (rmv T t s))] [] O (mC mM_readMain, mS mM_readMain) (QI K) := fun O pf2 rO => vM_readMain_68 rfl (nM_next rO (fun P pf3 rP => vM_readMain_72 (h P (pf_tr pf2 pf3) rP)))
      refine vM_readMain_44 rfl ⟨fun q => b68 N pf ?_, fun q => vM_readMain_64 rfl (nM_wants rN (by decide) (fun O pf2 rO => b68 O (pf_tr pf pf2) ?_)), fun q => vM_readMain_64 rfl (nM_wants rN (by decide) (fun O pf2 rO => b68 O (pf_tr pf pf2) ?_))⟩
      · rw [n16] at q
        rw [wts_f q]; exact rN
      · rw [if_pos q.2]; exact rO
      · rw [if_neg q.2]; exact rO
    refine vM_readMain_25 rfl ⟨fun q => ?_, fun q => ?_⟩
    · rw [n16] at q
      have e : rmv T t s = 0 := by rw [rmv, if_neg q]
      rw [e] at b44; exact b44
    · rw [n16] at q
      have e : rmv T t s = ltr T t 97 8 (s.2.1 - s.1) s.1 0 := by rw [rmv, if_pos q]
      have rs := rs_rd rN
      unfold nam at rs
      rw [wts_1, wts_p] at rs
      rw [e] at b44
      exact sM_letters rs (vM_readMain_40 b44)
  refine call_of rfl (Nat.le_of_ble_eq_true rfl) rfl (vM_readMain_0 rfl ⟨fun q => b25 M (pf_rf M) ?_, fun q => vM_readMain_21 rfl (nM_wants rd (by decide) (fun N pf rN => b25 N pf ?_)), fun q => vM_readMain_21 rfl (nM_wants rd (by decide) (fun N pf rN => b25 N pf ?_))⟩)
  · rw [r16] at q
    rw [nam, wts_f q]; exact rd
  · rw [r14] at q
    rw [nam, if_neg q.2]; exact rN
  · rw [r14] at q
    rw [nam, if_pos q.2]; exact rN
def rdv (T : Nat → Int32) (t : Nat) (s : Rst) : Int32 := lk T t s.1 - 97
def rds (T : Nat → Int32) (t : Nat) (s : Rst) : Rst := nxs T t (wts (if nI (s.2.1 - s.1) = 1 ∧ ¬ rdv T t s < 0 ∧ ¬ 7 < rdv T t s then 1 else 0) 3 (nam s))
theorem nM_readDoctor {K : Int32 → Mm → Prop} (rd : RD M T t s) (h : ∀ N, PF M N → RD N T t (rds T t s) → K (rdv T t s) N) : CI mM_readDoctor [.ref 6027] M K := by
  have r16 := rd.2.2.2.2.2.1
  have r14 := rd.2.2.2.1
  have b25 : ∀ N, PF M N → RD N T t (nam s) → X mM_readDoctor 25 [(0, .ref 6027)] [] N (mC mM_readDoctor, mS mM_readDoctor) (QI K) := by
    intro N pf rN
    have n16 := rN.2.2.2.2.2.1
    have rs := rs_rd rN
    unfold nam at rs
    rw [wts_1, wts_p] at rs
    obtain ⟨tpN, n13, n12, m1, m2⟩ := rs
    refine vM_readDoctor_25 rfl ?_
    rw [n13]
    refine sM_look tpN (by omega) ?_
    have b79 : ∀ O, PF M O → RD O T t (wts (if nI (s.2.1 - s.1) = 1 ∧ ¬ rdv T t s < 0 ∧ ¬ 7 < rdv T t s then 1 else 0) 3 (nam s)) → X mM_readDoctor 79 [(0, .ref 6027), (1, .int (lk T t s.1 - 97))] [] O (mC mM_readDoctor, mS mM_readDoctor) (QI K) := fun O pf2 rO => vM_readDoctor_79 rfl (nM_next rO (fun P pf3 rP => vM_readDoctor_83 (h P (pf_tr pf2 pf3) rP)))
    have b75 : ∀ g : Int32, g = (if nI (s.2.1 - s.1) = 1 ∧ ¬ rdv T t s < 0 ∧ ¬ 7 < rdv T t s then 1 else 0) → X mM_readDoctor 75 [(0, .ref 6027), (1, .int (lk T t s.1 - 97))] [.int g, .ref 6027] N (mC mM_readDoctor, mS mM_readDoctor) (QI K) := fun g hg => vM_readDoctor_75 rfl (nM_wants rN (by decide) (fun O pf2 rO => b79 O (pf_tr pf pf2) (by rw [← hg]; exact rO)))
    refine vM_readDoctor_33 rfl ⟨fun q => b79 N pf ?_, fun q => vM_readDoctor_74 (b75 0 ?_), fun q => sM_in (l := 0) (m := 7) rfl rfl (fun y => vM_readDoctor_67 ⟨fun _ => vM_readDoctor_74 (b75 0 ?_), fun z => absurd rfl z⟩) (fun y1 y2 => vM_readDoctor_67 ⟨fun z => absurd z (by decide), fun _ => b75 1 ?_⟩)⟩
    · rw [n16] at q
      rw [wts_f q]; exact rN
    · rw [n12, n13, nsub m1] at q
      rw [if_neg (fun z => q.2 z.1)]
    · rw [if_neg (fun z => y.elim z.2.1 z.2.2)]
    · rw [n12, n13, nsub m1] at q
      rw [if_pos ⟨q.2, y1, y2⟩]
  refine call_of rfl (Nat.le_of_ble_eq_true rfl) rfl (vM_readDoctor_0 rfl ⟨fun q => b25 M (pf_rf M) ?_, fun q => vM_readDoctor_21 rfl (nM_wants rd (by decide) (fun N pf rN => b25 N pf ?_)), fun q => vM_readDoctor_21 rfl (nM_wants rd (by decide) (fun N pf rN => b25 N pf ?_))⟩)
  · rw [r16] at q
    rw [nam, wts_f q]; exact rd
  · rw [r14] at q
    rw [nam, if_neg q.2]; exact rN
  · rw [r14] at q
    rw [nam, if_pos q.2]; exact rN
end GP5
end MG24
section MG25
/-! ===== the reference's reader: answers, marks, one of some names ===== -/
section GP6
variable {M : Mm} {T : Nat → Int32} {t : Nat} {s : Rst}
/-- the name that stands there, if there is no fault -/
def nmk (T : Nat → Int32) (t : Nat) (s : Rst) : Int32 := if (nam s).2.2.2.2.1 = 0 then nmv T t s.1 s.2.1 else -4
theorem nam_rs {N : Mm} (rN : RD N T t (nam s)) : RS N T t s.1 s.2.1 := by
  have rs := rs_rd rN
  unfold nam at rs
  rw [wts_1, wts_p] at rs
  exact rs
def ras (T : Nat → Int32) (t : Nat) (s : Rst) : Rst := nxs T t (wts (if nmk T t s = 22 ∨ nmk T t s = 23 then 1 else 0) 3 (nam s))
theorem nM_readAnswer {K : Int32 → Mm → Prop} (rd : RD M T t s) (h : ∀ N, PF M N → RD N T t (ras T t s) → K (if nmk T t s = 22 then 1 else 0) N) : CI mM_readAnswer [.ref 6027] M K := by
  have r16 := rd.2.2.2.2.2.1
  have r14 := rd.2.2.2.1
  have b25 : ∀ N, PF M N → RD N T t (nam s) → X mM_readAnswer 25 [(0, .ref 6027)] [] N (mC mM_readAnswer, mS mM_readAnswer) (QI K) := by
    intro N pf rN
    have n16 := rN.2.2.2.2.2.1
    have b41 : X mM_readAnswer 41 [(0, .ref 6027)] [.int (nmk T t s)] N (mC mM_readAnswer, mS mM_readAnswer) (QI K) := by
      have b71 : ∀ O, PF M O → RD O T t (wts (if nmk T t s = 22 ∨ nmk T t s = 23 then 1 else 0) 3 (nam s)) → X mM_readAnswer 71 [(0, .ref 6027), (1, .int (nmk T t s))] [] O (mC mM_readAnswer, mS mM_readAnswer) (QI K) := fun O pf2 rO => vM_readAnswer_71 rfl (nM_next rO (fun P pf3 rP => vM_readAnswer_75 (h P (pf_tr pf2 pf3) rP)))
      refine vM_readAnswer_41 rfl ⟨fun q => b71 N pf ?_, fun q => vM_readAnswer_67 rfl (nM_wants rN (by decide) (fun O pf2 rO => b71 O (pf_tr pf pf2) ?_)), fun q => vM_readAnswer_67 rfl (nM_wants rN (by decide) (fun O pf2 rO => b71 O (pf_tr pf pf2) ?_))⟩
      · rw [n16] at q
        rw [wts_f q]; exact rN
      · rw [if_pos (q.imp (fun q => q.2) (fun q => q.2.2))]; exact rO
      · rw [if_neg (fun z => z.elim q.2.1 q.2.2)]; exact rO
    refine vM_readAnswer_25 rfl ⟨fun q => ?_, fun q => ?_⟩
    · rw [n16] at q
      have e : nmk T t s = -4 := by rw [nmk, if_neg q]
      rw [e] at b41; exact b41
    · rw [n16] at q
      have e : nmk T t s = nmv T t s.1 s.2.1 := by rw [nmk, if_pos q]
      rw [e] at b41
      exact sM_nameNow (nam_rs rN) (vM_readAnswer_36 b41)
  refine call_of rfl (Nat.le_of_ble_eq_true rfl) rfl (vM_readAnswer_0 rfl ⟨fun q => b25 M (pf_rf M) ?_, fun q => vM_readAnswer_21 rfl (nM_wants rd (by decide) (fun N pf rN => b25 N pf ?_)), fun q => vM_readAnswer_21 rfl (nM_wants rd (by decide) (fun N pf rN => b25 N pf ?_))⟩)
  · rw [r16] at q
    rw [nam, wts_f q]; exact rd
  · rw [r14] at q
    rw [nam, if_neg q.2]; exact rN
  · rw [r14] at q
    rw [nam, if_pos q.2]; exact rN
def oos (T : Nat → Int32) (t : Nat) (a b c : Int32) (s : Rst) : Rst := nxs T t (wts (if nmk T t s = a ∨ nmk T t s = b ∨ nmk T t s = c then 1 else 0) 2 (nam s))
theorem nM_oneOf {a o1 b o2 c o3 : Int32} {K : Int32 → Mm → Prop} (rd : RD M T t s) (h : ∀ N, PF M N → RD N T t (oos T t a b c s) → K (if nmk T t s = a then o1 else if nmk T t s = b then o2 else o3) N) : CI mM_oneOf [.ref 6027, .int a, .int o1, .int b, .int o2, .int c, .int o3] M K := by
  have r16 := rd.2.2.2.2.2.1
  have r14 := rd.2.2.2.1
  have b25 : ∀ N, PF M N → RD N T t (nam s) → X mM_oneOf 25 [(0, .ref 6027), (1, .int a), (2, .int o1), (3, .int b), (4, .int o2), (5, .int c), (6, .int o3)] [] N (mC mM_oneOf, mS mM_oneOf) (QI K) := by
    intro N pf rN
    have n16 := rN.2.2.2.2.2.1
    have b41 : X mM_oneOf 41 [(0, .ref 6027), (1, .int a), (2, .int o1), (3, .int b), (4, .int o2), (5, .int c), (6, .int o3)] [.int (nmk T t s)] N (mC mM_oneOf, mS mM_oneOf) (QI K) := by
      have b79 : ∀ O, PF M O → RD O T t (wts (if nmk T t s = a ∨ nmk T t s = b ∨ nmk T t s = c then 1 else 0) 2 (nam s)) → X mM_oneOf 79 [(0, .ref 6027), (1, .int a), (2, .int o1), (3, .int b), (4, .int o2), (6, .int o3), (7, .int (nmk T t s))] [] O (mC mM_oneOf, mS mM_oneOf) (QI K) := fun O pf2 rO => vM_oneOf_79 rfl (nM_next rO (fun P pf3 rP => vM_oneOf_83 (h P (pf_tr pf2 pf3) rP)))
      refine vM_oneOf_41 rfl ⟨fun q => b79 N pf ?_, fun q => vM_oneOf_75 rfl (nM_wants rN (by decide) (fun O pf2 rO => b79 O (pf_tr pf pf2) ?_)), fun q => vM_oneOf_75 rfl (nM_wants rN (by decide) (fun O pf2 rO => b79 O (pf_tr pf pf2) ?_))⟩
      · rw [n16] at q
        rw [wts_f q]; exact rN
      · have y : nmk T t s = a ∨ nmk T t s = b ∨ nmk T t s = c := by
          rcases q with q | q | q
          · exact Or.inl q.2
          · exact Or.inr (Or.inl q.2.2)
          · exact Or.inr (Or.inr q.2.2.2)
        rw [if_pos y]; exact rO
      · rw [if_neg (fun z => z.elim q.2.1 (fun z => z.elim q.2.2.1 q.2.2.2))]; exact rO
    refine vM_oneOf_25 rfl ⟨fun q => ?_, fun q => ?_⟩
    · rw [n16] at q
      have e : nmk T t s = -4 := by rw [nmk, if_neg q]
      rw [e] at b41; exact b41
    · rw [n16] at q
      have e : nmk T t s = nmv T t s.1 s.2.1 := by rw [nmk, if_pos q]
      rw [e] at b41
      exact sM_nameNow (nam_rs rN) (vM_oneOf_36 b41)
  refine call_of rfl (Nat.le_of_ble_eq_true rfl) rfl (vM_oneOf_0 rfl ⟨fun q => b25 M (pf_rf M) ?_, fun q => vM_oneOf_21 rfl (nM_wants rd (by decide) (fun N pf rN => b25 N pf ?_)), fun q => vM_oneOf_21 rfl (nM_wants rd (by decide) (fun N pf rN => b25 N pf ?_))⟩)
  · rw [r16] at q
    rw [nam, wts_f q]; exact rd
  · rw [r14] at q
    rw [nam, if_neg q.2]; exact rN
  · rw [r14] at q
    rw [nam, if_pos q.2]; exact rN
/-- marks -/
def mk1 (s : Rst) : Rst := wts (if s.2.2.1 = 1 ∨ s.2.2.1 = 3 then 1 else 0) 2 s
def mkv (T : Nat → Int32) (t : Nat) (s : Rst) : Int32 := if s.2.2.1 = 1 then ltr T t 112 6 (s.2.1 - s.1) s.1 0 else 0
def mks (T : Nat → Int32) (t : Nat) (no : Int32) (s : Rst) : Rst := nxs T t (wts (if (mkv T t s &&& no) = 0 then 1 else 0) 4 (wts (if mkv T t s = -4 then 0 else 1) 3 (mk1 s)))
theorem nM_readMarks {no : Int32} {K : Int32 → Mm → Prop} (rd : RD M T t s) (h : ∀ N, PF M N → RD N T t (mks T t no s) → K (mkv T t s) N) : CI mM_readMarks [.ref 6027, .int no] M K := by
  have r16 := rd.2.2.2.2.2.1
  have r14 := rd.2.2.2.1
  have b33 : ∀ N, PF M N → RD N T t (mk1 s) → X mM_readMarks 33 [(0, .ref 6027), (1, .int no)] [] N (mC mM_readMarks, mS mM_readMarks) (QI K) := by
    intro N pf rN
    have n16 := rN.2.2.2.2.2.1
    have n14 : gi N 6027 14 = s.2.2.1 := by
      have := rN.2.2.2.1
      unfold mk1 at this
      rwa [wts_o] at this
    have b53 : X mM_readMarks 53 [(0, .ref 6027), (1, .int no)] [.int (mkv T t s)] N (mC mM_readMarks, mS mM_readMarks) (QI K) := by
      have b77 : ∀ O, PF M O → RD O T t (wts (if mkv T t s = -4 then 0 else 1) 3 (mk1 s)) → X mM_readMarks 77 [(0, .ref 6027), (1, .int no), (2, .int (mkv T t s))] [] O (mC mM_readMarks, mS mM_readMarks) (QI K) := by
        intro O pfO rO
        have o16 := rO.2.2.2.2.2.1
        have b100 : ∀ P, PF M P → RD P T t (wts (if (mkv T t s &&& no) = 0 then 1 else 0) 4 (wts (if mkv T t s = -4 then 0 else 1) 3 (mk1 s))) → X mM_readMarks 100 [(0, .ref 6027), (2, .int (mkv T t s))] [] P (mC mM_readMarks, mS mM_readMarks) (QI K) := fun P pf2 rP => vM_readMarks_100 rfl (nM_next rP (fun R pf3 rR => vM_readMarks_104 (h R (pf_tr pf2 pf3) rR)))
        refine vM_readMarks_77 rfl ⟨fun q => b100 O pfO ?_, fun q => vM_readMarks_96 rfl (nM_wants rO (by decide) (fun P pf2 rP => b100 P (pf_tr pfO pf2) ?_)), fun q => vM_readMarks_96 rfl (nM_wants rO (by decide) (fun P pf2 rP => b100 P (pf_tr pfO pf2) ?_))⟩
        · rw [o16] at q
          rw [wts_f (g := if (mkv T t s &&& no) = 0 then 1 else 0) q]; exact rO
        · rw [if_neg q.2]; exact rP
        · rw [if_pos q.2]; exact rP
      refine vM_readMarks_53 rfl ⟨fun q => b77 N pf ?_, fun q => vM_readMarks_73 rfl (nM_wants rN (by decide) (fun O pf2 rO => b77 O (pf_tr pf pf2) ?_)), fun q => vM_readMarks_73 rfl (nM_wants rN (by decide) (fun O pf2 rO => b77 O (pf_tr pf pf2) ?_))⟩
      · rw [n16] at q
        rw [wts_f q]; exact rN
      · rw [if_pos q.2]; exact rO
      · rw [if_neg q.2]; exact rO
    refine vM_readMarks_33 rfl ⟨fun q => ?_, fun q => ?_⟩
    · rw [n14] at q
      have e : mkv T t s = 0 := by rw [mkv, if_neg q]
      rw [e] at b53; exact b53
    · rw [n14] at q
      have e : mkv T t s = ltr T t 112 6 (s.2.1 - s.1) s.1 0 := by rw [mkv, if_pos q]
      have rs := rs_rd rN
      unfold mk1 at rs
      rw [wts_1, wts_p] at rs
      rw [e] at b53
      exact sM_letters rs (vM_readMarks_49 b53)
  refine call_of rfl (Nat.le_of_ble_eq_true rfl) rfl (vM_readMarks_0 rfl ⟨fun q => b33 M (pf_rf M) ?_, fun q => vM_readMarks_29 rfl (nM_wants rd (by decide) (fun N pf rN => b33 N pf ?_)), fun q => vM_readMarks_29 rfl (nM_wants rd (by decide) (fun N pf rN => b33 N pf ?_))⟩)
  · rw [r16] at q
    rw [mk1, wts_f q]; exact rd
  · rw [r14] at q
    rw [mk1, if_pos (q.imp (fun q => q.2) (fun q => q.2.2))]; exact rN
  · rw [r14] at q
    rw [mk1, if_neg (fun z => z.elim q.2.1 q.2.2)]; exact rN
end GP6
end MG25
section MG26
/-! ===== the reference's reader: copies ===== -/
theorem wts_ok {g c : Int32} {s : Rst} (hc : ¬ c = 0) (h : (wts g c s).2.2.2.2.1 = 0) : ¬ g = 0 ∧ s.2.2.2.2.1 = 0 ∧ wts g c s = s := by
  unfold wts at h ⊢
  by_cases q : g = 0 ∧ s.2.2.2.2.1 = 0
  · rw [if_pos q] at h; exact absurd h hc
  · rw [if_neg q] at h ⊢
    exact ⟨fun z => q ⟨z, h⟩, h, rfl⟩
theorem nxs_ok {T : Nat → Int32} {t : Nat} {s : Rst} (h : (nxs T t s).2.2.2.2.1 = 0) : s.2.2.2.2.1 = 0 := by
  by_cases q : s.2.2.2.2.1 = 0
  · exact q
  · unfold nxs at h
    rw [if_neg q] at h; exact h
theorem isn_ok {lo hi : Int32} {s : Rst} (h : (isn lo hi s).2.2.2.2.1 = 0) : ¬ s.2.2.2.1 < lo ∧ ¬ hi < s.2.2.2.1 ∧ s.2.2.1 = 2 ∧ s.2.2.2.2.1 = 0 ∧ isn lo hi s = s := by
  unfold isn at h ⊢
  obtain ⟨a1, a2, a3⟩ := wts_ok (by decide) h
  obtain ⟨b1, b2, b3⟩ := wts_ok (by decide) a2
  have c1 : ¬ s.2.2.2.1 < lo ∧ ¬ hi < s.2.2.2.1 := by
    by_cases q : ¬ s.2.2.2.1 < lo ∧ ¬ hi < s.2.2.2.1
    · exact q
    · rw [if_neg q] at a1; exact absurd rfl a1
  have c2 : s.2.2.1 = 2 := by
    by_cases q : s.2.2.1 = 2
    · exact q
    · rw [if_neg q] at b1; exact absurd rfl b1
  exact ⟨c1.1, c1.2, c2, b2, a3.trans b3⟩
theorem isn_v (lo hi : Int32) (s : Rst) : (isn lo hi s).2.2.2.1 = s.2.2.2.1 := by unfold isn; rw [wts_v, wts_v]
def rc2 (c : Int32) (s : Rst) : Rst := wts (if c = 0 then 1 else 0) 4 (isn 0 7 s)
def rc3 (T : Nat → Int32) (t : Nat) (c : Int32) (s : Rst) : Rst := nxs T t (rc2 c s)
def rcs (T : Nat → Int32) (t : Nat) (c : Int32) (s : Rst) : Rst := nxs T t (isn 0 9 (rc3 T t c s))
theorem nM_readCopies {M : Mm} {T : Nat → Int32} {t : Nat} {s : Rst} {K : Mm → Prop} (rd : RD M T t s) (h0 : ∀ N, PF M N → RD N T t (rcs T t (gi M 6360 s.2.2.2.1.toNatClampNeg) s) → ¬ (rcs T t (gi M 6360 s.2.2.2.1.toNatClampNeg) s).2.2.2.2.1 = 0 → K N) (h1 : ∀ N i, PF M N → RD N T t (rcs T t (gi M 6360 s.2.2.2.1.toNatClampNeg) s) → (rcs T t (gi M 6360 s.2.2.2.1.toNatClampNeg) s).2.2.2.2.1 = 0 → i < 8 → s.2.2.2.1 = nI i → K (si (si N 6360 i 1) 6285 i (rc3 T t (gi M 6360 s.2.2.2.1.toNatClampNeg) s).2.2.2.1)) : CV mM_readCopies [.ref 6027] M K := by
  refine call_of rfl (Nat.le_of_ble_eq_true rfl) rfl (vM_readCopies_0 rfl (nM_isNumber rd (fun N pf rN => ?_)))
  have n16 := rN.2.2.2.2.2.1
  have n15 := rN.2.2.2.2.1
  rw [isn_v] at n15
  have g6360 : gi N 6360 = gi M 6360 := pf.2.2.1 6360 (by decide)
  have b38 : ∀ O, PF M O → RD O T t (rc2 (gi M 6360 s.2.2.2.1.toNatClampNeg) s) → X mM_readCopies 38 [(0, .ref 6027), (1, .int s.2.2.2.1)] [] O (mC mM_readCopies, mS mM_readCopies) (QV K) := by
    intro O pfO rO
    generalize gi M 6360 s.2.2.2.1.toNatClampNeg = c at h0 h1 rO ⊢
    refine vM_readCopies_38 rfl (nM_next rO (fun P pfP rP => ?_))
    have rP' : RD P T t (rc3 T t c s) := by unfold rc3; exact rP
    refine vM_readCopies_42 rfl (nM_readNumber rP' (fun R pfR rR => ?_))
    have pfa := pf_tr (pf_tr pfO pfP) pfR
    have rR' : RD R T t (rcs T t c s) := by unfold rcs; exact rR
    have hm := rR'.1.1
    have e16 := rR'.2.2.2.2.2.1
    have h0' := h0 R pfa rR'
    have h1' := fun i => h1 R i pfa rR'
    have q0 : (rcs T t c s).2.2.2.2.1 = 0 → (isn 0 7 s).2.2.2.2.1 = 0 := by
      intro q
      unfold rcs at q
      have q1 := (isn_ok (nxs_ok q)).2.2.2.1
      unfold rc3 at q1
      have q2 := nxs_ok q1
      unfold rc2 at q2
      exact (wts_ok (by decide) q2).2.1
    generalize (rc3 T t c s).2.2.2.1 = n at h1' ⊢
    generalize (rcs T t c s).2.2.2.2.1 = z at e16 h0' h1' q0
    refine vM_readCopies_49 rfl (mr6 hm) (mr5 hm) ⟨fun q => h0' (by rw [e16] at q; exact q), fun q => ?_⟩
    rw [e16] at q
    obtain ⟨y1, y2, -, -, -⟩ := isn_ok (q0 q)
    obtain ⟨i, hi, e⟩ := rngL (c := 7) (n := 7) rfl (by decide) y1 y2
    have := h1' i q hi e
    rw [e]
    refine ⟨vin hi (by decide), vin hi (by decide), ?_⟩
    rw [ncl (by omega)]
    exact this
  refine vM_readCopies_7 rfl (mr6 rN.1.1) ⟨fun q => ?_, fun q => ?_, fun q => ?_, fun q => ?_⟩
  · rw [n16] at q
    obtain ⟨y1, y2, -, -, -⟩ := isn_ok q
    obtain ⟨i, hi, e⟩ := rngL (c := 7) (n := 7) rfl (by decide) y1 y2
    rw [n15, e]; exact vin hi (by decide)
  · rw [n16] at q
    rw [n15]
    refine b38 N pf ?_
    rw [rc2, wts_f q]; exact rN
  · rw [n15, g6360] at q
    rw [n15]
    refine vM_readCopies_34 rfl (nM_wants rN (by decide) (fun O pfO rO => b38 O (pf_tr pf pfO) ?_))
    rw [rc2, if_neg q.2]; exact rO
  · rw [n15, g6360] at q
    rw [n15]
    refine vM_readCopies_34 rfl (nM_wants rN (by decide) (fun O pfO rO => b38 O (pf_tr pf pfO) ?_))
    rw [rc2, if_pos q.2]; exact rO
end MG26
section MG27
/-! ===== the reference's reader: a word ===== -/
theorem n10 (D : Nat) : 10 * nI D = nI (10 * D) := by
  show (10 : Int32) * Int32.ofNat D = Int32.ofNat (10 * D)
  rw [Int32.ofNat_mul]; rfl
theorem nadd (a b : Nat) : nI a + nI b = nI (a + b) := by
  show Int32.ofNat a + Int32.ofNat b = Int32.ofNat (a + b)
  rw [Int32.ofNat_add]
/-- a word's row is written -/
def r8 (N : Mm) (D : Nat) (v : Nat → Int32) : Mm := si (si (si (si (si (si (si (si N 6229 (10 * D) (v 0)) 6229 (10 * D + 1) (v 1)) 6229 (10 * D + 2) (v 2)) 6229 (10 * D + 3) (v 3)) 6229 (10 * D + 4) (v 4)) 6229 (10 * D + 5) (v 5)) 6229 (10 * D + 6) (v 6)) 6229 (10 * D + 7) (v 7)
theorem r8_ne (N : Mm) (D a : Nat) (v : Nat → Int32) (h : a ≠ 6229) : gi (r8 N D v) a = gi N a := by
  unfold r8
  rw [gi_ne h, gi_ne h, gi_ne h, gi_ne h, gi_ne h, gi_ne h, gi_ne h, gi_ne h]
theorem r8_at (N : Mm) (D i : Nat) (v : Nat → Int32) (h : i < 8) : gi (r8 N D v) 6229 (10 * D + i) = v i := by
  unfold r8
  simp only [gi_si]
  match i, h with
  | 0, _ => simp
  | 1, _ => simp
  | 2, _ => simp
  | 3, _ => simp
  | 4, _ => simp
  | 5, _ => simp
  | 6, _ => simp
  | 7, _ => simp
theorem r8_lt (N : Mm) (D j : Nat) (v : Nat → Int32) (h : j < 10 * D ∨ 10 * D + 8 ≤ j) : gi (r8 N D v) 6229 j = gi N 6229 j := by
  unfold r8
  simp only [gi_si]
  rw [if_neg (by omega), if_neg (by omega), if_neg (by omega), if_neg (by omega), if_neg (by omega), if_neg (by omega), if_neg (by omega), if_neg (by omega)]
section GP8
variable (T : Nat → Int32) (t : Nat) (k : Int32) (s : Rst)
abbrev kWL : Prop := k = 0 ∨ k = 5
abbrev kWLL : Prop := k = 0 ∨ k = 5 ∨ k = 4
abbrev kCN : Prop := ¬ k < 1 ∧ ¬ 3 < k
def rw1 : Rst := if k = 5 then nxs T t (isn 0 999 s) else s
def ra1 : Int32 := if k = 5 then s.2.2.2.1 else -4
def rw2 : Rst := if k = 5 then rw1 T t k s else rds T t (rw1 T t k s)
def ra2 : Int32 := if k = 5 then -4 else rdv T t (rw1 T t k s)
def rw3 : Rst := if kWLL k then mks T t 0 (rw2 T t k s) else rw2 T t k s
def ra3 : Int32 := if kWLL k then mkv T t (rw2 T t k s) else 0
def rw4 : Rst := if kWL k then mks T t (ra3 T t k s) (rw3 T t k s) else rw3 T t k s
def ra4 : Int32 := if kWL k then mkv T t (rw3 T t k s) else 0
def rw5 : Rst := if kWL k then ras T t (rw4 T t k s) else rw4 T t k s
def ra5 : Int32 := if kWL k then (if nmk T t (rw4 T t k s) = 22 then 1 else 0) else -4
def rw6 : Rst := if kCN k then nxs T t (isn 0 23 (rw5 T t k s)) else rw5 T t k s
def ra6 : Int32 := if kCN k then (rw5 T t k s).2.2.2.1 else -4
def rwr (b : Int32) (j : Nat) : Int32 := if j = 0 then k else if j = 1 then ra2 T t k s else if j = 2 then b else if j = 3 then ra3 T t k s else if j = 4 then ra4 T t k s else if j = 5 then ra5 T t k s else if j = 6 then ra6 T t k s else ra1 k s
end GP8
/-- what a word's line may change; the place of what it follows -/
def PW (D : Nat) (M N : Mm) : Prop := gr N = gr M ∧ gl N = gl M ∧ (∀ a, a ≠ 6027 → a ≠ 6423 → gi N a = gi M a) ∧ (∀ k, ¬ (12 ≤ k ∧ k ≤ 17) → gi N 6027 k = gi M 6027 k) ∧ ∀ j, j ≠ D → gi N 6423 j = gi M 6423 j
theorem pw_pf {D : Nat} {M N : Mm} (f : PF M N) : PW D M N := ⟨f.1, f.2.1, fun a h _ => f.2.2.1 a h, f.2.2.2, fun j _ => by rw [f.2.2.1 6423 (by decide)]⟩
theorem pw_tr {D : Nat} {M N O : Mm} (f : PW D M N) (g : PW D N O) : PW D M O := ⟨g.1.trans f.1, g.2.1.trans f.2.1, fun a h h2 => (g.2.2.1 a h h2).trans (f.2.2.1 a h h2), fun k h => (g.2.2.2.1 k h).trans (f.2.2.2.1 k h), fun j h => (g.2.2.2.2 j h).trans (f.2.2.2.2 j h)⟩
theorem pw_si {D : Nat} {M : Mm} {v : Int32} : PW D M (si M 6423 D v) := by
  refine ⟨rfl, rfl, fun a _ h => gi_ne h, fun k _ => by rw [gi_ne (by decide)], fun j h => by rw [gi_si, if_neg (fun q => h q.2)]⟩
theorem rd_si {M : Mm} {T : Nat → Int32} {t : Nat} {s : Rst} {a j : Nat} {v : Int32} (h1 : a ≠ 6027) (h2 : a ≠ 6486) (rd : RD M T t s) : RD (si M a j v) T t s := by
  obtain ⟨⟨m1, m2, m3, m4⟩, r⟩ := rd
  have e : gi (si M a j v) 6027 = gi M 6027 := gi_ne (Ne.symm h1)
  have e2 : gi (si M a j v) 6486 = gi M 6486 := gi_ne (Ne.symm h2)
  unfold RD
  rw [e]
  exact ⟨⟨mr_w m1 rfl, by rw [e]; exact m2, m3, by rw [e2]; exact m4⟩, r⟩
theorem nM_readWord {M : Mm} {T : Nat → Int32} {t : Nat} {k : Int32} {s : Rst} {D : Nat} {K : Mm → Prop} (rd : RD M T t s) (hD : gi M 6027 3 = nI D) (hD2 : D ≤ 24)
    (h0 : ∀ N, PW D M N → RD N T t (rw6 T t k s) → ¬ (rw6 T t k s).2.2.2.2.1 = 0 → K N)
    (h1 : ∀ N, PW D M N → RD N T t (rw6 T t k s) → (kCN k → gi N 6423 D = nI (rw5 T t k s).1) → (rw6 T t k s).2.2.2.2.1 = 0 → K (si (r8 N D (rwr T t k s (gi M 6027 8))) 6027 3 (nI (D + 1)))) : CV mM_readWord [.ref 6027, .int k] M K := by
  have b147 : ∀ N, PW D M N → RD N T t (rw6 T t k s) → (kCN k → gi N 6423 D = nI (rw5 T t k s).1) → X mM_readWord 147 [(0, .ref 6027), (1, .int k), (2, .int (nI (10 * D))), (3, .int (ra1 k s)), (4, .int (ra2 T t k s)), (5, .int (ra3 T t k s)), (6, .int (ra4 T t k s)), (7, .int (ra5 T t k s)), (8, .int (ra6 T t k s))] [] N (mC mM_readWord, mS mM_readWord) (QV K) := by
    intro N pw rN hp
    have n16 := rN.2.2.2.2.2.1
    have n3 : gi N 6027 3 = nI D := (pw.2.2.2.1 3 (by decide)).trans hD
    have n8 : gi N 6027 8 = gi M 6027 8 := pw.2.2.2.1 8 (by decide)
    have hm := rN.1.1
    have h0' := h0 N pw rN
    have h1' := h1 N pw rN hp
    have e : ∀ i, nI (10 * D) + nI i = nI (10 * D + i) := fun i => nadd _ _
    have c : ∀ i, i < 8 → (nI (10 * D + i)).toNatClampNeg = 10 * D + i := fun i hi => ncl (by omega)
    have w : ∀ i, i < 8 → vp_in (nI (10 * D + i)) 250 := fun i hi => vin (by omega) (by decide)
    refine vM_readWord_147 rfl (mr4 hm) ⟨fun q => h0' (by rw [n16] at q; exact q), fun q => ?_⟩
    rw [n16] at q
    have h2 := h1' q
    have e0 : (nI (10 * D)).toNatClampNeg = 10 * D := c 0 (by decide)
    rw [show (1 : Int32) = nI 1 from rfl, show (2 : Int32) = nI 2 from rfl, show (3 : Int32) = nI 3 from rfl, show (4 : Int32) = nI 4 from rfl, show (5 : Int32) = nI 5 from rfl, show (6 : Int32) = nI 6 from rfl, show (7 : Int32) = nI 7 from rfl, e, e, e, e, e, e, e]
    refine ⟨w 0 (by decide), w 1 (by decide), w 2 (by decide), w 3 (by decide), w 4 (by decide), w 5 (by decide), w 6 (by decide), w 7 (by decide), ?_⟩
    rw [e0, c 1 (by decide), c 2 (by decide), c 3 (by decide), c 4 (by decide), c 5 (by decide), c 6 (by decide), c 7 (by decide)]
    have g8 : gi (si (si N 6229 (10 * D) k) 6229 (10 * D + 1) (ra2 T t k s)) 6027 8 = gi M 6027 8 := by rw [gi_ne (by decide), gi_ne (by decide), n8]
    rw [g8]
    have g3 : ∀ v0 v1 v2 v3 v4 v5 v6 v7, gi (si (si (si (si (si (si (si (si N 6229 (10 * D) v0) 6229 (10 * D + 1) v1) 6229 (10 * D + 2) v2) 6229 (10 * D + 3) v3) 6229 (10 * D + 4) v4) 6229 (10 * D + 5) v5) 6229 (10 * D + 6) v6) 6229 (10 * D + 7) v7) 6027 3 = nI D := by
      intro v0 v1 v2 v3 v4 v5 v6 v7
      rw [gi_ne (by decide), gi_ne (by decide), gi_ne (by decide), gi_ne (by decide), gi_ne (by decide), gi_ne (by decide), gi_ne (by decide), gi_ne (by decide), n3]
    rw [g3, nadd]
    exact h2
  have b107 : ∀ N, PF M N → RD N T t (rw5 T t k s) → X mM_readWord 107 [(0, .ref 6027), (1, .int k), (2, .int (nI (10 * D))), (3, .int (ra1 k s)), (4, .int (ra2 T t k s)), (5, .int (ra3 T t k s)), (6, .int (ra4 T t k s))] [.int (ra5 T t k s)] N (mC mM_readWord, mS mM_readWord) (QV K) := by
    intro N pf rN
    have n3 : gi N 6027 3 = nI D := (pf.2.2.2 3 (by decide)).trans hD
    have n13 := rN.2.1
    refine vM_readWord_107 (sM_in (l := 1) (m := 3) rfl rfl (fun y => vM_readWord_122 rfl (mr7 rN.1.1) ⟨fun _ => ?_, fun z => absurd rfl z⟩) (fun y1 y2 => vM_readWord_122 rfl (mr7 rN.1.1) ⟨fun z => absurd z (by decide), fun _ => ?_⟩))
    · have ny : ¬ kCN k := fun z => y.elim z.1 z.2
      have e6 : rw6 T t k s = rw5 T t k s := by unfold rw6; rw [if_neg ny]
      have e7 : ra6 T t k s = -4 := by unfold ra6; rw [if_neg ny]
      have := b147 N (pw_pf pf) (by rw [e6]; exact rN) (fun z => absurd z ny)
      rw [e7] at this; exact this
    · have ny : kCN k := ⟨y1, y2⟩
      rw [n3]
      refine ⟨vin (by omega) (by decide), ?_⟩
      rw [ncl (by omega), n13]
      have e6 : rw6 T t k s = nxs T t (isn 0 23 (rw5 T t k s)) := by unfold rw6; rw [if_pos ny]
      have e7 : ra6 T t k s = (rw5 T t k s).2.2.2.1 := by unfold ra6; rw [if_pos ny]
      refine nM_readNumber (rd_si (by decide) (by decide) rN) (fun O pfO rO => vM_readWord_145 ?_)
      rw [← e6] at rO
      rw [← e7]
      refine b147 O (pw_tr (pw_pf pf) (pw_tr pw_si (pw_pf pfO))) rO (fun _ => ?_)
      rw [pfO.2.2.1 6423 (by decide), gi_si, if_pos ⟨rfl, rfl⟩]
  have b87 : ∀ N, PF M N → RD N T t (rw4 T t k s) → X mM_readWord 87 [(0, .ref 6027), (1, .int k), (2, .int (nI (10 * D))), (3, .int (ra1 k s)), (4, .int (ra2 T t k s)), (5, .int (ra3 T t k s))] [.int (ra4 T t k s)] N (mC mM_readWord, mS mM_readWord) (QV K) := by
    intro N pf rN
    refine vM_readWord_87 rfl ⟨fun q => ?_, fun q => ?_⟩
    · have q' : kWL k := q.imp id (fun q => q.2)
      have e1 : rw5 T t k s = ras T t (rw4 T t k s) := by unfold rw5; rw [if_pos q']
      have e2 : ra5 T t k s = (if nmk T t (rw4 T t k s) = 22 then 1 else 0) := by unfold ra5; rw [if_pos q']
      refine nM_readAnswer rN (fun O pfO rO => vM_readWord_102 ?_)
      rw [← e1] at rO
      rw [← e2]
      exact b107 O (pf_tr pf pfO) rO
    · have q' : ¬ kWL k := fun z => z.elim q.1 q.2
      have e1 : rw5 T t k s = rw4 T t k s := by unfold rw5; rw [if_neg q']
      have e2 : ra5 T t k s = -4 := by unfold ra5; rw [if_neg q']
      rw [← e1] at rN
      rw [← e2]
      exact b107 N pf rN
  have b66 : ∀ N, PF M N → RD N T t (rw3 T t k s) → X mM_readWord 66 [(0, .ref 6027), (1, .int k), (2, .int (nI (10 * D))), (3, .int (ra1 k s)), (4, .int (ra2 T t k s))] [.int (ra3 T t k s)] N (mC mM_readWord, mS mM_readWord) (QV K) := by
    intro N pf rN
    refine vM_readWord_66 rfl ⟨fun q => ?_, fun q => ?_⟩
    · have q' : kWL k := q.imp id (fun q => q.2)
      have e1 : rw4 T t k s = mks T t (ra3 T t k s) (rw3 T t k s) := by unfold rw4; rw [if_pos q']
      have e2 : ra4 T t k s = mkv T t (rw3 T t k s) := by unfold ra4; rw [if_pos q']
      refine nM_readMarks rN (fun O pfO rO => vM_readWord_83 ?_)
      rw [← e1] at rO
      rw [← e2]
      exact b87 O (pf_tr pf pfO) rO
    · have q' : ¬ kWL k := fun z => z.elim q.1 q.2
      have e1 : rw4 T t k s = rw3 T t k s := by unfold rw4; rw [if_neg q']
      have e2 : ra4 T t k s = 0 := by unfold ra4; rw [if_neg q']
      rw [← e1] at rN
      rw [← e2]
      exact b87 N pf rN
  have b41 : ∀ N, PF M N → RD N T t (rw2 T t k s) → X mM_readWord 41 [(0, .ref 6027), (1, .int k), (2, .int (nI (10 * D))), (3, .int (ra1 k s))] [.int (ra2 T t k s)] N (mC mM_readWord, mS mM_readWord) (QV K) := by
    intro N pf rN
    refine vM_readWord_41 rfl ⟨fun q => ?_, fun q => ?_⟩
    · have q' : kWLL k := q.imp id (fun q => q.imp (fun q => q.2) (fun q => q.2.2))
      have e1 : rw3 T t k s = mks T t 0 (rw2 T t k s) := by unfold rw3; rw [if_pos q']
      have e2 : ra3 T t k s = mkv T t (rw2 T t k s) := by unfold ra3; rw [if_pos q']
      refine nM_readMarks rN (fun O pfO rO => vM_readWord_62 ?_)
      rw [← e1] at rO
      rw [← e2]
      exact b66 O (pf_tr pf pfO) rO
    · have q' : ¬ kWLL k := fun z => z.elim q.1 (fun z => z.elim q.2.1 q.2.2)
      have e1 : rw3 T t k s = rw2 T t k s := by unfold rw3; rw [if_neg q']
      have e2 : ra3 T t k s = 0 := by unfold ra3; rw [if_neg q']
      rw [← e1] at rN
      rw [← e2]
      exact b66 N pf rN
  have b26 : ∀ N, PF M N → RD N T t (rw1 T t k s) → X mM_readWord 26 [(0, .ref 6027), (1, .int k), (2, .int (nI (10 * D)))] [.int (ra1 k s)] N (mC mM_readWord, mS mM_readWord) (QV K) := by
    intro N pf rN
    refine vM_readWord_26 rfl ⟨fun q => ?_, fun q => ?_⟩
    · have e1 : rw2 T t k s = rds T t (rw1 T t k s) := by unfold rw2; rw [if_neg q]
      have e2 : ra2 T t k s = rdv T t (rw1 T t k s) := by unfold ra2; rw [if_neg q]
      refine nM_readDoctor rN (fun O pfO rO => ?_)
      rw [← e1] at rO
      rw [← e2]
      exact b41 O (pf_tr pf pfO) rO
    · have e1 : rw2 T t k s = rw1 T t k s := by unfold rw2; rw [if_pos q]
      have e2 : ra2 T t k s = -4 := by unfold ra2; rw [if_pos q]
      rw [← e1] at rN
      rw [← e2]
      exact b41 N pf rN
  refine call_of rfl (Nat.le_of_ble_eq_true rfl) rfl (vM_readWord_0 rfl ⟨fun q => ?_, fun q => ?_⟩)
  · have e1 : rw1 T t k s = s := by unfold rw1; rw [if_neg q]
    have e2 : ra1 k s = -4 := by unfold ra1; rw [if_neg q]
    rw [hD, n10, ← e2]
    rw [← e1] at rd
    exact b26 M (pf_rf M) rd
  · have e1 : rw1 T t k s = nxs T t (isn 0 999 s) := by unfold rw1; rw [if_pos q]
    have e2 : ra1 k s = s.2.2.2.1 := by unfold ra1; rw [if_pos q]
    refine nM_readNumber rd (fun O pfO rO => vM_readWord_21 ?_)
    rw [hD, n10, ← e2]
    rw [← e1] at rO
    exact b26 O pfO rO
end MG27
section MG28
/-! ===== the reference's reader: it goes on; a line ===== -/
def GE (s u : Rst) : Prop := s.2.1 ≤ u.2.1 ∧ (u.2.2.2.2.1 = 0 → s.2.2.2.2.1 = 0)
def GO (s u : Rst) : Prop := s.2.1 ≤ u.2.1 ∧ (u.2.2.2.2.1 = 0 → s.2.2.2.2.1 = 0 ∧ (¬ u.2.2.1 = 0 → s.2.1 < u.2.1))
theorem ge_rf (s : Rst) : GE s s := ⟨Nat.le_refl _, id⟩
theorem go_ge {s u : Rst} (h : GO s u) : GE s u := ⟨h.1, fun q => (h.2 q).1⟩
theorem ge_go {s u v : Rst} (a : GE s u) (b : GO u v) : GO s v := ⟨Nat.le_trans a.1 b.1, fun q => ⟨a.2 (b.2 q).1, fun n => Nat.lt_of_le_of_lt a.1 ((b.2 q).2 n)⟩⟩
theorem ge_tr {s u v : Rst} (a : GE s u) (b : GE u v) : GE s v := ⟨Nat.le_trans a.1 b.1, fun q => a.2 (b.2 q)⟩
theorem ge_wts {g c : Int32} {s : Rst} (hc : ¬ c = 0) : GE s (wts g c s) := ⟨Nat.le_of_eq (wts_p g c s).symm, fun q => (wts_ok hc q).2.1⟩
theorem ge_isn {lo hi : Int32} {s : Rst} : GE s (isn lo hi s) := by unfold isn; exact ge_tr (ge_wts (by decide)) (ge_wts (by decide))
theorem go_nxs {T : Nat → Int32} {t : Nat} {s : Rst} : GO s (nxs T t s) := by
  have g : s.2.1 ≤ nx1 T t s.2.1 := rn_ge _ _ _ _ _
  have r : ∀ f : Int32 → Bool, nx1 T t s.2.1 ≤ rn f T t 401 (nx1 T t s.2.1) := fun f => rn_ge _ _ _ _ _
  have r1 : ∀ f : Int32 → Bool, f (lk T t (nx1 T t s.2.1)) = true → nx1 T t s.2.1 + 1 ≤ rn f T t 401 (nx1 T t s.2.1) := fun f e => by rw [rn, if_pos e]; exact rn_ge _ _ _ _ _
  refine ⟨?_, fun q => ⟨nxs_ok q, ?_⟩⟩
  · unfold nxs
    by_cases z : s.2.2.2.2.1 = 0
    · rw [if_pos z]
      split
      · exact g
      · split
        · exact Nat.le_trans g (r isA)
        · split
          · exact Nat.le_trans g (r isF)
          · exact Nat.le_trans g (Nat.le_succ _)
    · rw [if_neg z]; exact Nat.le_refl _
  · have z := nxs_ok q
    unfold nxs
    rw [if_pos z]
    by_cases c1 : lk T t (nx1 T t s.2.1) < 0
    · rw [if_pos c1]; exact fun n => absurd rfl n
    · rw [if_neg c1]
      by_cases c2 : isA (lk T t (nx1 T t s.2.1)) = true
      · rw [if_pos c2]; exact fun _ => Nat.lt_of_le_of_lt g (r1 isA c2)
      · rw [if_neg c2]
        by_cases c3 : isF (lk T t (nx1 T t s.2.1)) = true
        · rw [if_pos c3]; exact fun _ => Nat.lt_of_le_of_lt g (r1 isF c3)
        · rw [if_neg c3]; exact fun _ => Nat.lt_succ_of_le g
section GP9
variable {T : Nat → Int32} {t : Nat} {s : Rst}
theorem go_rds : GO s (rds T t s) := by unfold rds nam; exact ge_go (ge_tr (ge_wts (by decide)) (ge_wts (by decide))) go_nxs
theorem go_rms : GO s (rms T t s) := by unfold rms nam; exact ge_go (ge_tr (ge_wts (by decide)) (ge_wts (by decide))) go_nxs
theorem go_ras : GO s (ras T t s) := by unfold ras nam; exact ge_go (ge_tr (ge_wts (by decide)) (ge_wts (by decide))) go_nxs
theorem go_oos {a b c : Int32} : GO s (oos T t a b c s) := by unfold oos nam; exact ge_go (ge_tr (ge_wts (by decide)) (ge_wts (by decide))) go_nxs
theorem go_mks {no : Int32} : GO s (mks T t no s) := by unfold mks mk1; exact ge_go (ge_tr (ge_tr (ge_wts (by decide)) (ge_wts (by decide))) (ge_wts (by decide))) go_nxs
theorem go_rn {lo hi : Int32} : GO s (nxs T t (isn lo hi s)) := ge_go ge_isn go_nxs
theorem go_rcs {c : Int32} : GO s (rcs T t c s) := by unfold rcs rc3 rc2; exact ge_go (ge_tr (ge_tr ge_isn (ge_wts (by decide))) (go_ge go_nxs)) go_rn
theorem ge_eln : GE s (eln T t s) := by unfold eln; exact ge_tr (ge_wts (by decide)) (go_ge go_nxs)
theorem eln_ok (h : (eln T t s).2.2.2.2.1 = 0) : s.2.2.1 = 4 ∧ s.2.2.2.2.1 = 0 := by
  unfold eln at h
  obtain ⟨a, b, -⟩ := wts_ok (by decide) (nxs_ok h)
  refine ⟨?_, b⟩
  by_cases q : s.2.2.1 = 4
  · exact q
  · rw [if_neg q] at a; exact absurd rfl a
theorem ge_rw1 {k : Int32} : GE s (rw1 T t k s) := by
  unfold rw1
  split
  · exact go_ge go_rn
  · exact ge_rf s
theorem go_rw2 {k : Int32} : GO s (rw2 T t k s) := by
  unfold rw2
  split
  · rename_i q
    unfold rw1; rw [if_pos q]; exact go_rn
  · exact ge_go ge_rw1 go_rds
theorem go_rw3 {k : Int32} : GO s (rw3 T t k s) := by
  unfold rw3
  split
  · exact ge_go (go_ge go_rw2) go_mks
  · exact go_rw2
theorem go_rw4 {k : Int32} : GO s (rw4 T t k s) := by
  unfold rw4
  split
  · exact ge_go (go_ge go_rw3) go_mks
  · exact go_rw3
theorem go_rw5 {k : Int32} : GO s (rw5 T t k s) := by
  unfold rw5
  split
  · exact ge_go (go_ge go_rw4) go_ras
  · exact go_rw4
theorem go_rw6 {k : Int32} : GO s (rw6 T t k s) := by
  unfold rw6
  split
  · exact ge_go (go_ge go_rw5) go_rn
  · exact go_rw5
end GP9
section GP9b
variable (T : Nat → Int32) (t D : Nat) (cp : Nat → Int32) (s : Rst)
/-- the name that a line begins with -/
def lnk : Int32 := if s.2.2.1 = 1 then nmv T t s.1 s.2.1 else -4
def ln1 : Rst := wts (if 5 < lnk T t s ∨ D < 24 then 1 else 0) 5 (wts (if (¬ lnk T t s < 0 ∧ ¬ 5 < lnk T t s) ∨ lnk T t s = 10 ∨ lnk T t s = 11 then 1 else 0) 2 s)
def ln2 : Rst := nxs T t (ln1 T t D s)
def ln3 : Rst := if lnk T t s = 10 then nxs T t (isn 0 7 (ln2 T t D s)) else if lnk T t s = 11 then rcs T t (cp (ln2 T t D s).2.2.2.1.toNatClampNeg) (ln2 T t D s) else rw6 T t (lnk T t s) (ln2 T t D s)
def ln4 : Rst := eln T t (ln3 T t D cp s)
end GP9b
theorem ge_ln1 {T : Nat → Int32} {t D : Nat} {s : Rst} : GE s (ln1 T t D s) := by unfold ln1; exact ge_tr (ge_wts (by decide)) (ge_wts (by decide))
theorem go_ln2 {T : Nat → Int32} {t D : Nat} {s : Rst} : GO s (ln2 T t D s) := by unfold ln2; exact ge_go ge_ln1 go_nxs
theorem go_ln3 {T : Nat → Int32} {t D : Nat} {cp : Nat → Int32} {s : Rst} : GO s (ln3 T t D cp s) := by
  unfold ln3
  split
  · exact ge_go (go_ge go_ln2) go_rn
  · split
    · exact ge_go (go_ge go_ln2) go_rcs
    · exact ge_go (go_ge go_ln2) go_rw6
/-- a line without a fault goes on -/
theorem go_ln4 {T : Nat → Int32} {t D : Nat} {cp : Nat → Int32} {s : Rst} (h : (ln4 T t D cp s).2.2.2.2.1 = 0) : s.2.1 < (ln4 T t D cp s).2.1 := by
  unfold ln4 at h ⊢
  obtain ⟨a, b⟩ := eln_ok h
  exact Nat.lt_of_lt_of_le ((go_ln3.2 b).2 (by rw [a]; decide)) ge_eln.1
/-- what a line may change -/
def PL (M N : Mm) : Prop := gr N = gr M ∧ gl N = gl M ∧ (∀ a, ¬ (a = 6027 ∨ a = 6423 ∨ a = 6229 ∨ a = 6285 ∨ a = 6360) → gi N a = gi M a) ∧ ∀ k, ¬ ((12 ≤ k ∧ k ≤ 17) ∨ k = 3 ∨ k = 8) → gi N 6027 k = gi M 6027 k
theorem pl_pf {M N : Mm} (f : PF M N) : PL M N := ⟨f.1, f.2.1, fun a h => f.2.2.1 a (fun e => h (by omega)), fun k h => f.2.2.2 k (fun e => h (by omega))⟩
theorem pl_pw {D : Nat} {M N : Mm} (f : PW D M N) : PL M N := ⟨f.1, f.2.1, fun a h => f.2.2.1 a (fun e => h (by omega)) (fun e => h (by omega)), fun k h => f.2.2.2.1 k (fun e => h (by omega))⟩
theorem pl_tr {M N O : Mm} (f : PL M N) (g : PL N O) : PL M O := ⟨g.1.trans f.1, g.2.1.trans f.2.1, fun a h => (g.2.2.1 a h).trans (f.2.2.1 a h), fun k h => (g.2.2.2 k h).trans (f.2.2.2 k h)⟩
theorem pl_si {M : Mm} {a j : Nat} {v : Int32} (h : (a = 6423 ∨ a = 6229 ∨ a = 6285 ∨ a = 6360) ∨ (a = 6027 ∧ (j = 3 ∨ j = 8))) : PL M (si M a j v) := by
  refine ⟨rfl, rfl, fun b n => gi_ne (fun e => n (by omega)), fun k n => ?_⟩
  rw [gi_si, if_neg (fun e => n (by omega))]
theorem pl_r8 {M : Mm} {D : Nat} {v : Nat → Int32} : PL M (r8 M D v) := by
  refine ⟨rfl, rfl, fun a h => r8_ne _ _ _ _ (fun e => h (by omega)), fun k h => ?_⟩
  rw [r8_ne _ _ _ _ (by decide)]
theorem rd_3 {M : Mm} {T : Nat → Int32} {t : Nat} {s : Rst} {j : Nat} {v : Int32} (h : j = 3 ∨ j = 8) (rd : RD M T t s) : RD (si M 6027 j v) T t s := by
  obtain ⟨⟨m1, m2, m3, m4⟩, r⟩ := rd
  have e : ∀ i, 11 ≤ i → gi (si M 6027 j v) 6027 i = gi M 6027 i := fun i hi => g6 _ _ _ _ (by omega)
  unfold RD
  rw [e 13 (by decide), e 12 (by decide), e 14 (by decide), e 15 (by decide), e 16 (by decide), e 17 (by decide)]
  exact ⟨⟨mr_w m1 rfl, by rw [e 11 (by decide)]; exact m2, m3, by rw [gi_ne (by decide)]; exact m4⟩, r⟩
theorem rd_r8 {M : Mm} {T : Nat → Int32} {t : Nat} {s : Rst} {D : Nat} {v : Nat → Int32} (rd : RD M T t s) : RD (r8 M D v) T t s := by
  unfold r8
  exact rd_si (by decide) (by decide) (rd_si (by decide) (by decide) (rd_si (by decide) (by decide) (rd_si (by decide) (by decide) (rd_si (by decide) (by decide) (rd_si (by decide) (by decide) (rd_si (by decide) (by decide) (rd_si (by decide) (by decide) rd)))))))
theorem nM_readLine {M : Mm} {T : Nat → Int32} {t : Nat} {s : Rst} {D : Nat} {K : Mm → Prop} (rd : RD M T t s) (hD : gi M 6027 3 = nI D) (hD2 : D ≤ 24)
    (hF : ∀ N, PL M N → RD N T t (ln4 T t D (gi M 6360) s) → ¬ (ln4 T t D (gi M 6360) s).2.2.2.2.1 = 0 → K N)
    (hI : ∀ N O, PF M N → PF (si N 6027 8 (ln2 T t D s).2.2.2.1) O → RD O T t (ln4 T t D (gi M 6360) s) → (ln4 T t D (gi M 6360) s).2.2.2.2.1 = 0 → lnk T t s = 10 → K O)
    (hC : ∀ N O i, PF M N → PF (si (si N 6360 i 1) 6285 i (rc3 T t (gi M 6360 (ln2 T t D s).2.2.2.1.toNatClampNeg) (ln2 T t D s)).2.2.2.1) O → RD O T t (ln4 T t D (gi M 6360) s) → (ln4 T t D (gi M 6360) s).2.2.2.2.1 = 0 → lnk T t s = 11 → i < 8 → (ln2 T t D s).2.2.2.1 = nI i → K O)
    (hW : ∀ N O, PW D M N → PF (si (r8 N D (rwr T t (lnk T t s) (ln2 T t D s) (gi M 6027 8))) 6027 3 (nI (D + 1))) O → RD O T t (ln4 T t D (gi M 6360) s) → (ln4 T t D (gi M 6360) s).2.2.2.2.1 = 0 → ¬ lnk T t s = 10 → ¬ lnk T t s = 11 → (kCN (lnk T t s) → gi N 6423 D = nI (rw5 T t (lnk T t s) (ln2 T t D s)).1) → K O) : CV mM_readLine [.ref 6027] M K := by
  have r14 := rd.2.2.2.1
  have hk : ∀ k3, k3 = ln3 T t D (gi M 6360) s → eln T t k3 = ln4 T t D (gi M 6360) s := fun k3 e => by rw [e, ln4]
  have f4 : ¬ (ln3 T t D (gi M 6360) s).2.2.2.2.1 = 0 → ¬ (ln4 T t D (gi M 6360) s).2.2.2.2.1 = 0 := fun a b => a (by unfold ln4 at b; exact (eln_ok b).2)
  generalize e4 : ln4 T t D (gi M 6360) s = s4 at *
  have b118 : ∀ N, RD N T t (ln3 T t D (gi M 6360) s) → (∀ O, PF N O → RD O T t s4 → K O) → X mM_readLine 118 [(0, .ref 6027)] [] N (mC mM_readLine, mS mM_readLine) (QV K) := by
    intro N rN h
    refine vM_readLine_118 rfl (nM_endLine rN (fun O pf rO => vM_readLine_122 (h O pf ?_)))
    rw [hk _ rfl] at rO; exact rO
  have b80 : ∀ N, PF M N → RD N T t (ln2 T t D s) → X mM_readLine 80 [(0, .ref 6027), (1, .int (lnk T t s))] [] N (mC mM_readLine, mS mM_readLine) (QV K) := by
    intro N pf rN
    have n3 : gi N 6027 3 = nI D := (pf.2.2.2 3 (by decide)).trans hD
    have n8 : gi N 6027 8 = gi M 6027 8 := pf.2.2.2 8 (by decide)
    have n6360 : gi N 6360 = gi M 6360 := pf.2.2.1 6360 (by decide)
    refine vM_readLine_80 rfl ⟨fun q => ?_, fun q => ?_, fun q => ?_⟩
    · have e3 : ln3 T t D (gi M 6360) s = rw6 T t (lnk T t s) (ln2 T t D s) := by unfold ln3; rw [if_neg q.1, if_neg q.2]
      refine nM_readWord rN n3 hD2 (fun O pw rO nf => b118 O (by rw [e3]; exact rO) (fun P pP rP => hF P (pl_tr (pl_pf pf) (pl_tr (pl_pw pw) (pl_pf pP))) rP (f4 (by rw [e3]; exact nf)))) (fun O pw rO hp nf => b118 _ (by rw [e3]; exact rd_3 (Or.inl rfl) (rd_r8 rO)) (fun P pP rP => ?_))
      by_cases z : s4.2.2.2.2.1 = 0
      · rw [n8] at pP
        exact hW O P (pw_tr (pw_pf pf) pw) pP rP z q.1 q.2 hp
      · exact hF P (pl_tr (pl_pf pf) (pl_tr (pl_pw pw) (pl_tr pl_r8 (pl_tr (pl_si (by decide)) (pl_pf pP))))) rP z
    · have e3 : ln3 T t D (gi M 6360) s = rcs T t (gi M 6360 (ln2 T t D s).2.2.2.1.toNatClampNeg) (ln2 T t D s) := by unfold ln3; rw [if_neg q.1, if_pos q.2]
      refine nM_readCopies rN (fun O pO rO nf => ?_) (fun O i pO rO nf hi ei => ?_)
      · rw [n6360] at rO nf
        exact vM_readLine_110 (b118 O (by rw [e3]; exact rO) (fun P pP rP => hF P (pl_tr (pl_pf pf) (pl_tr (pl_pf pO) (pl_pf pP))) rP (f4 (by rw [e3]; exact nf))))
      · rw [n6360] at rO nf ⊢
        refine vM_readLine_110 (b118 _ (by rw [e3]; exact rd_si (by decide) (by decide) (rd_si (by decide) (by decide) rO)) (fun P pP rP => ?_))
        by_cases z : s4.2.2.2.2.1 = 0
        · exact hC O P i (pf_tr pf pO) pP rP z q.2 hi ei
        · exact hF P (pl_tr (pl_pf pf) (pl_tr (pl_pf pO) (pl_tr (pl_si (Or.inl (by decide))) (pl_tr (pl_si (Or.inl (by decide))) (pl_pf pP))))) rP z
    · have e3 : ln3 T t D (gi M 6360) s = nxs T t (isn 0 7 (ln2 T t D s)) := by unfold ln3; rw [if_pos q]
      refine nM_readNumber rN (fun O pO rO => vM_readLine_94 rfl (b118 _ (by rw [e3]; exact rd_3 (Or.inr rfl) rO) (fun P pP rP => ?_)))
      by_cases z : s4.2.2.2.2.1 = 0
      · exact hI O P (pf_tr pf pO) pP rP z q
      · exact hF P (pl_tr (pl_pf pf) (pl_tr (pl_pf pO) (pl_tr (pl_si (by decide)) (pl_pf pP)))) rP z
  have b17 : X mM_readLine 17 [(0, .ref 6027)] [.int (lnk T t s)] M (mC mM_readLine, mS mM_readLine) (QV K) := by
    have b72 : ∀ N g, PF M N → RD N T t (wts (if (¬ lnk T t s < 0 ∧ ¬ 5 < lnk T t s) ∨ lnk T t s = 10 ∨ lnk T t s = 11 then 1 else 0) 2 s) → g = (if 5 < lnk T t s ∨ D < 24 then 1 else 0) → X mM_readLine 72 [(0, .ref 6027), (1, .int (lnk T t s))] [.int g, .ref 6027] N (mC mM_readLine, mS mM_readLine) (QV K) := by
      intro N g pf rN hg
      refine vM_readLine_72 rfl (nM_wants rN (by decide) (fun O pO rO => vM_readLine_76 rfl ?_))
      have rO' : RD O T t (ln1 T t D s) := by unfold ln1; rw [← hg]; exact rO
      refine nM_next rO' (fun P pP rP => b80 P (pf_tr pf (pf_tr pO pP)) ?_)
      unfold ln2; exact rP
    have b48 : ∀ g, g = (if (¬ lnk T t s < 0 ∧ ¬ 5 < lnk T t s) ∨ lnk T t s = 10 ∨ lnk T t s = 11 then 1 else 0) → X mM_readLine 48 [(0, .ref 6027), (1, .int (lnk T t s))] [.int g, .ref 6027] M (mC mM_readLine, mS mM_readLine) (QV K) := by
      intro g hg
      refine vM_readLine_48 rfl (nM_wants rd (by decide) (fun N pf rN => ?_))
      rw [hg] at rN
      have n3 : gi N 6027 3 = nI D := (pf.2.2.2 3 (by decide)).trans hD
      have l24 : (24 : Int32) ≤ nI D ↔ 24 ≤ D := nle (n := 24) (by omega) (by decide)
      refine vM_readLine_52 rfl ⟨fun q => b72 N 1 pf rN ?_, fun q => b72 N 0 pf rN ?_⟩
      · rw [n3, l24] at q
        rw [if_pos (q.imp id (fun q => by omega))]
      · rw [n3, l24] at q
        rw [if_neg (fun z => z.elim q.1 (fun z => by omega))]
    refine vM_readLine_17 (sM_in (l := 0) (m := 5) rfl rfl (fun y => vM_readLine_28 ⟨fun q => b48 1 ?_, fun q => b48 0 ?_⟩) (fun y1 y2 => vM_readLine_28 ⟨fun q => b48 1 ?_, fun q => absurd q.1 (by decide)⟩))
    · rw [if_pos]
      rcases q with q | q | q
      · exact absurd rfl q
      · exact Or.inr (Or.inl q.2)
      · exact Or.inr (Or.inr q.2.2)
    · rw [if_neg]
      rintro (z | z | z)
      · exact y.elim z.1 z.2
      · exact q.2.1 z
      · exact q.2.2 z
    · rw [if_pos (Or.inl ⟨y1, y2⟩)]
  refine call_of rfl (Nat.le_of_ble_eq_true rfl) rfl (vM_readLine_0 rfl ⟨fun q => ?_, fun q => sM_nameNow (rs_rd rd) (vM_readLine_12 ?_)⟩)
  · rw [r14] at q
    have e : lnk T t s = -4 := by unfold lnk; rw [if_neg q]
    rw [e] at b17; exact b17
  · rw [r14] at q
    have e : lnk T t s = nmv T t s.1 s.2.1 := by unfold lnk; rw [if_pos q]
    rw [e] at b17; exact b17
end MG28
section MG29
/-! ===== the reference's reader: the first token, the check of what words follow, rows that are as they should be ===== -/
theorem nM_next0 {M : Mm} {T : Nat → Int32} {t : Nat} {K : Mm → Prop} (tp : TP M T t) (r12 : gi M 6027 12 = 0) (r16 : gi M 6027 16 = 0) (h : ∀ N, PF M N → RD N T t (nxs T t (0, 0, gi M 6027 14, gi M 6027 15, 0, gi M 6027 17)) → K N) : CV mM_next [.ref 6027] M K := by
  have ht := tp.2.2.1
  refine sM_next (p := 0) tp r12 (by omega) r16 (fun N nx => ?_)
  obtain ⟨pf, n13, nx⟩ := nx
  have tpN := tp_pf pf tp
  have h1 : nx1 T t 0 ≤ t := rn_le isB T t (by decide) 401 _ (Nat.zero_le _)
  refine h N pf ?_
  unfold nxs
  rw [if_pos rfl]
  show RD N T t (if lk T t (nx1 T t 0) < 0 then _ else _)
  rw [r16] at nx
  rcases nx with ⟨c, n12, n14, n15, n16, n17⟩ | ⟨c, a, n12, n14, n15, n16, n17⟩ | ⟨c, a, b, n12, n14, n15, n16⟩ | ⟨c, a, b, n12, n14, n15, n16⟩
  · rw [if_pos c]
    exact ⟨tpN, n13, n12, n14, n15, n16, n17, Nat.le_refl _, h1, Or.inl rfl⟩
  · rw [if_neg c, if_pos a]
    exact ⟨tpN, n13, n12, n14, n15, n16, n17, rn_ge _ _ _ _ _, rn_le isA T t (by decide) 401 _ h1, Or.inl rfl⟩
  · rw [if_neg c, if_neg (by rw [a]; decide), if_pos b]
    by_cases l : rn isF T t 401 (nx1 T t 0) - nx1 T t 0 ≤ 3
    · rw [if_pos l] at n16
      rw [if_pos l, if_pos l]
      exact ⟨tpN, n13, n12, n14, n15, n16.1, n16.2, rn_ge _ _ _ _ _, rn_le isF T t (by decide) 401 _ h1, Or.inl rfl⟩
    · rw [if_neg l] at n16
      rw [if_neg l, if_neg l]
      exact ⟨tpN, n13, n12, n14, n15, n16.1, n16.2, rn_ge _ _ _ _ _, rn_le isF T t (by decide) 401 _ h1, Or.inr (show ¬ (1 : Int32) ≤ 0 by decide)⟩
  · rw [if_neg c, if_neg (by rw [a]; decide), if_neg (by rw [b]; decide)]
    have h2 : nx1 T t 0 + 1 ≤ t := by
      by_cases l : t ≤ nx1 T t 0
      · exfalso
        rw [lk, if_pos l] at c
        exact c (by decide)
      · omega
    by_cases l : lk T t (nx1 T t 0) = 45 ∨ lk T t (nx1 T t 0) = 59
    · rw [if_pos l] at n16
      rw [if_pos l, if_pos l]
      exact ⟨tpN, n13, n12, n14, n15, n16.1, n16.2, Nat.le_succ _, h2, Or.inl rfl⟩
    · rw [if_neg l] at n16
      rw [if_neg l, if_neg l]
      exact ⟨tpN, n13, n12, n14, n15, n16.1, n16.2, Nat.le_succ _, h2, Or.inr (show ¬ (1 : Int32) ≤ 0 by decide)⟩
/-- a word that follows wrongly -/
def bad (M : Mm) (D w : Nat) : Prop := ¬ gi M 6229 (10 * w + 6) = -4 ∧ (nI D ≤ gi M 6229 (10 * w + 6) ∨ gi M 6229 (10 * w + 6) = nI w ∨ gi M 6229 (10 * (gi M 6229 (10 * w + 6)).toNatClampNeg) = 5)
theorem n10c (f : Nat) (h : f < 25) : (10 * nI f).toNatClampNeg = 10 * f ∧ vp_in (10 * nI f) 250 := by
  rw [n10]
  exact ⟨ncl (by omega), vin (by omega) (by decide)⟩
theorem nM_checks {M : Mm} {D : Nat} {K : Mm → Prop} (hm : MR M) (hD : gi M 6027 3 = nI D) (hD2 : D ≤ 24) (hr : gi M 6027 16 = 0 → ∀ w, w < D → gi M 6229 (10 * w + 6) = -4 ∨ ∃ f, f < 24 ∧ gi M 6229 (10 * w + 6) = nI f) (hf : ¬ gi M 6027 16 = 0 → K M) (h0 : gi M 6027 16 = 0 → (∀ w, w < D → ¬ bad M D w) → K M) (h1 : gi M 6027 16 = 0 → ∀ w, w < D → bad M D w → (∀ v, v < w → ¬ bad M D v) → K (si (si M 6027 16 6) 6027 17 (gi M 6423 w))) : CV mM_checks [.ref 6027] M K := by
  refine call_of rfl (Nat.le_of_ble_eq_true rfl) rfl (vM_checks_0 ?_)
  by_cases z : gi M 6027 16 = 0
  · have key : ∀ n i, i + n = D → (∀ v, v < i → ¬ bad M D v) → X mM_checks 2 [(0, .ref 6027), (1, .int (nI i))] [] M (mC mM_checks, mS mM_checks) (QV K) := by
      intro n
      induction n with
      | zero =>
        intro i hi hb
        rw [Nat.add_zero] at hi
        subst hi
        have l : gi M 6027 3 ≤ nI i := by rw [hD]; exact Int32.le_refl _
        exact vM_checks_2 rfl (mr4 hm) (mr7 hm) ⟨fun q => absurd l q.1, fun _ => h0 z hb, fun q => absurd l q.1⟩
      | succ n ih =>
        intro i hi hb
        have hi2 : i < D := by omega
        have l : ¬ gi M 6027 3 ≤ nI i := by rw [hD]; exact nge rfl (by omega) hi2
        have e6 : (10 * nI i + 6 : Int32) = nI (10 * i + 6) := nI_ix i 6
        have c6 : (nI (10 * i + 6)).toNatClampNeg = 10 * i + 6 := ncl (by omega)
        have go : ¬ bad M D i → X mM_checks 2 [(0, .ref 6027), (1, .int (nI i + 1))] [] M (mC mM_checks, mS mM_checks) (QV K) := by
          intro nb
          rw [nI_s]
          refine ih (i + 1) (by omega) (fun v hv => ?_)
          by_cases e : v = i
          · rw [e]; exact nb
          · exact hb v (by omega)
        have stop : bad M D i → vp_in (nI i) 25 ∧ X mM_checks 2 [(0, .ref 6027), (1, .int (nI i + 1))] [] (si (si M 6027 16 6) 6027 17 (gi (si M 6027 16 6) 6423 (nI i).toNatClampNeg)) (mC mM_checks, mS mM_checks) (QV K) := by
          intro b
          refine ⟨vin (by omega) (by decide), ?_⟩
          rw [ncl (by omega), gi_ne (show (6423 : Nat) ≠ 6027 by decide)]
          have k := h1 z i hi2 b hb
          have k16 : gi (si (si M 6027 16 6) 6027 17 (gi M 6423 i)) 6027 16 = 6 := by rw [g6 _ _ _ _ (by decide), g6s]
          have k3 : gi (si (si M 6027 16 6) 6027 17 (gi M 6423 i)) 6027 3 = gi M 6027 3 := by rw [g6 _ _ _ _ (by decide), g6 _ _ _ _ (by decide)]
          refine vM_checks_2 rfl (mr4 (mr_w hm rfl)) (mr7 (mr_w hm rfl)) ⟨fun q => absurd (k16.symm.trans q.2) (by decide), fun _ => k, fun q => absurd (k16.symm.trans q.2) (by decide)⟩
        rcases hr z i hi2 with e4 | ⟨f, hf2, ef⟩
        · have nb : ¬ bad M D i := fun b => b.1 e4
          refine vM_checks_2 rfl (mr4 hm) (mr7 hm) ⟨fun _ => by rw [e6]; exact vin (by omega) (by decide), fun q => absurd z (q.elim (fun q => absurd q l) (fun q => q.2)), fun _ => ?_⟩
          rw [e6, c6]
          refine ⟨fun q => absurd e4 q.1, fun _ => go nb, fun q => ?_⟩
          exfalso
          rcases q with q | q | q <;> exact q.1 e4
        · obtain ⟨c10, v10⟩ := n10c f (by omega)
          refine vM_checks_2 rfl (mr4 hm) (mr7 hm) ⟨fun _ => by rw [e6]; exact vin (by omega) (by decide), fun q => absurd z (q.elim (fun q => absurd q l) (fun q => q.2)), fun _ => ?_⟩
          rw [e6, c6, ef, hD, c10]
          have hb2 : bad M D i ↔ ¬ nI f = -4 ∧ (nI D ≤ nI f ∨ nI f = nI i ∨ gi M 6229 (10 * f) = 5) := by
            unfold bad
            rw [ef, ncl (by omega)]
          refine ⟨fun _ => v10, fun q => go (fun b => ?_), fun q => stop (hb2.mpr ?_)⟩
          · have b' := hb2.mp b
            rcases q with q | q
            · exact b'.1 q
            · exact b'.2.elim q.2.1 (fun y => y.elim q.2.2.1 q.2.2.2)
          · rcases q with q | q | q
            · exact ⟨q.1, Or.inl q.2⟩
            · exact ⟨q.1, Or.inr (Or.inl q.2.2)⟩
            · exact ⟨q.1, Or.inr (Or.inr q.2.2.2)⟩
    exact key D 0 (by omega) (fun v hv => absurd hv (by omega))
  · exact vM_checks_2 rfl (mr4 hm) (mr7 hm) ⟨fun q => absurd q.2 z, fun _ => hf z, fun q => absurd q.2 z⟩
/-- a told row is as it should be -/
def RK (M : Mm) (w : Nat) : Prop := (∃ b, b < 8 ∧ gi M 6229 (10 * w + 2) = nI b) ∧ ∃ k, k < 6 ∧ gi M 6229 (10 * w) = nI k ∧ ((¬ (1 ≤ k ∧ k ≤ 3) ∧ gi M 6229 (10 * w + 6) = -4) ∨ ((1 ≤ k ∧ k ≤ 3) ∧ ∃ f, f < 24 ∧ gi M 6229 (10 * w + 6) = nI f))
def LB (M : Mm) (D : Nat) : Prop := gi M 6027 3 = nI D ∧ D ≤ 24 ∧ (∃ b, b < 8 ∧ gi M 6027 8 = nI b) ∧ ∀ w, w < D → RK M w
theorem rk_eq {M N : Mm} {w : Nat} (h : ∀ i, i < 10 → gi N 6229 (10 * w + i) = gi M 6229 (10 * w + i)) (r : RK M w) : RK N w := by
  have h0 := h 0 (by decide)
  rw [Nat.add_zero] at h0
  unfold RK
  rw [h 2 (by decide), h0, h 6 (by decide)]
  exact r
theorem ite1 {p : Prop} [Decidable p] (h : ¬ (if p then (1 : Int32) else 0) = 0) : p := by
  by_cases q : p
  · exact q
  · rw [if_neg q] at h; exact absurd rfl h
end MG29
