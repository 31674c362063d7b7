section CT6
variable {M : Mm} {T : Nat → Int32} {t : Nat} {s : Tst}
theorem nTo_takeNumber {g : Int32} {K : Int32 → Mm → Prop} (td : TD M T t s) (h : ∀ N, PT M N → TD N T t (tkN g (adv T t s)) → K (tkNv g (adv T t s)) N) : CI mTo_takeNumber [.ref 199, .int g] M K := by
  refine call_of rfl (Nat.le_of_ble_eq_true rfl) rfl (vTo_takeNumber_0 rfl (nTo_advance td (fun N pN tN => ?_)))
  generalize adv T t s = a at h tN
  have n1 := tN.2.1
  have n4 := tN.2.2.2.2.1
  refine vTo_takeNumber_4 rfl ⟨fun q => ?_, fun q => nTo_fail tN (fun O pO tO => vTo_takeNumber_31 ?_), fun q => nTo_fail tN (fun O pO tO => vTo_takeNumber_17 ?_)⟩
  · rw [n1, n4] at q
    have := h N pN
    rw [tkN, tkNv, if_pos q.1, if_pos q.2, if_pos q.1, if_pos q.2] at this
    rw [n4]; exact this tN
  · rw [n1, n4] at q
    have := h O (pt_tr pN pO)
    rw [tkN, tkNv, if_pos q.1, if_neg q.2, if_pos q.1, if_neg q.2] at this
    exact this tO
  · rw [n1] at q
    have := h O (pt_tr pN pO)
    rw [tkN, tkNv, if_neg q, if_neg q] at this
    exact this tO
theorem nTo_takeDoctors {K : Int32 → Mm → Prop} (td : TD M T t s) (h : ∀ N, PT M N → TD N T t (tkD T t (adv T t s)) → K (tkDv T t (adv T t s)) N) : CI mTo_takeDoctors [.ref 199] M K := by
  refine call_of rfl (Nat.le_of_ble_eq_true rfl) rfl (vTo_takeDoctors_0 rfl (nTo_advance td (fun N pN tN => ?_)))
  generalize adv T t s = a at h tN
  have n1 := tN.2.1
  refine vTo_takeDoctors_4 rfl ⟨fun q => ?_, fun q => nTo_fail tN (fun O pO tO => vTo_takeDoctors_17 ?_)⟩
  · rw [n1] at q
    refine sTo_letters tN (vTo_takeDoctors_26 rfl ⟨fun r => ?_, fun r => nTo_fail tN (fun O pO tO => vTo_takeDoctors_36 ?_)⟩)
    · have := h N pN
      have r' : 0 ≤ tLt T t 97 8 a := r
      rw [tkD, tkDv, if_pos q, if_pos r', if_pos q, if_pos r'] at this
      exact this tN
    · have := h O (pt_tr pN pO)
      have r' : ¬ 0 ≤ tLt T t 97 8 a := r
      rw [tkD, tkDv, if_pos q, if_neg r', if_pos q, if_neg r'] at this
      exact this tO
  · rw [n1] at q
    have := h O (pt_tr pN pO)
    rw [tkD, tkDv, if_neg q, if_neg q] at this
    exact this tO
theorem nTo_takeDoctor {K : Int32 → Mm → Prop} (td : TD M T t s) (h : ∀ N, PT M N → TD N T t (tkO T t (adv T t s)) → K (tkOv T t (adv T t s)) N) : CI mTo_takeDoctor [.ref 199] M K := by
  refine call_of rfl (Nat.le_of_ble_eq_true rfl) rfl (vTo_takeDoctor_0 rfl (nTo_takeDoctors td (fun N pN tN => ?_)))
  generalize adv T t s = a at h tN ⊢
  refine vTo_takeDoctor_4 ⟨fun q => sJi_bitCount (fun r hr => vTo_takeDoctor_15 rfl ⟨fun p => nTo_fail tN (fun O pO tO => vTo_takeDoctor_31 ?_), fun p => sJi_ntz (vTo_takeDoctor_23 ?_)⟩), fun q => ?_⟩
  · rw [hr] at p
    have := h O (pt_tr pN pO)
    rw [tkO, tkOv, if_pos q, if_neg p, if_pos q, if_neg p] at this
    exact this tO
  · rw [hr] at p
    have := h N pN
    rw [tkO, tkOv, if_pos q, if_pos p, if_pos q, if_pos p] at this
    exact this tN
  · have := h N pN
    rw [tkO, tkOv, if_neg q, if_neg q] at this
    exact this tN
theorem nTo_takeMarks {K : Int32 → Mm → Prop} (td : TD M T t s) (h : ∀ N, PT M N → TD N T t (tkM T t (adv T t s)) → K (tkMv T t (adv T t s)) N) : CI mTo_takeMarks [.ref 199] M K := by
  refine call_of rfl (Nat.le_of_ble_eq_true rfl) rfl (vTo_takeMarks_0 rfl (nTo_advance td (fun N pN tN => ?_)))
  generalize adv T t s = a at h tN
  have n1 := tN.2.1
  refine vTo_takeMarks_4 rfl ⟨fun q => ?_, fun q => nTo_fail tN (fun O pO tO => vTo_takeMarks_27 ?_), fun q => ?_⟩
  · rw [n1] at q
    refine sTo_letters tN (vTo_takeMarks_36 rfl ⟨fun r => ?_, fun r => nTo_fail tN (fun O pO tO => vTo_takeMarks_46 ?_)⟩)
    · have := h N pN
      have r' : 0 ≤ tLt T t 112 6 a := r
      rw [tkM, tkMv, if_neg q.1, if_pos q.2, if_pos r', if_neg q.1, if_pos q.2, if_pos r'] at this
      exact this tN
    · have := h O (pt_tr pN pO)
      have r' : ¬ 0 ≤ tLt T t 112 6 a := r
      rw [tkM, tkMv, if_neg q.1, if_pos q.2, if_neg r', if_neg q.1, if_pos q.2, if_neg r'] at this
      exact this tO
  · rw [n1] at q
    have := h O (pt_tr pN pO)
    rw [tkM, tkMv, if_neg q.1, if_neg q.2, if_neg q.1, if_neg q.2] at this
    exact this tO
  · rw [n1] at q
    have := h N pN
    rw [tkM, tkMv, if_pos q, if_pos q] at this
    exact this tN
theorem nTo_takeAnswer {K : Int32 → Mm → Prop} (td : TD M T t s) (h : ∀ N, PT M N → TD N T t (tkA T t (adv T t s)) → K (tkAv T t (adv T t s)) N) : CI mTo_takeAnswer [.ref 199] M K := by
  refine call_of rfl (Nat.le_of_ble_eq_true rfl) rfl (vTo_takeAnswer_0 rfl (nTo_advance td (fun N pN tN => ?_)))
  generalize adv T t s = a at h tN
  have n1 := tN.2.1
  refine vTo_takeAnswer_4 rfl ⟨fun q => ?_, fun q => nTo_fail tN (fun O pO tO => vTo_takeAnswer_17 ?_)⟩
  · rw [n1] at q
    refine sTo_among (j := 1) tN (by decide) (vTo_takeAnswer_24 rfl ⟨fun r => ?_, fun r => nTo_fail tN (fun O pO tO => vTo_takeAnswer_34 ?_)⟩)
    · have := h N pN
      rw [tkA, tkAv, if_pos q, if_pos r, if_pos q, if_pos r] at this
      exact this tN
    · have := h O (pt_tr pN pO)
      rw [tkA, tkAv, if_pos q, if_neg r, if_pos q, if_neg r] at this
      exact this tO
  · rw [n1] at q
    have := h O (pt_tr pN pO)
    rw [tkA, tkAv, if_neg q, if_neg q] at this
    exact this tO
theorem nTo_takeOneOf {j : Nat} {K : Int32 → Mm → Prop} (td : TD M T t s) (hj : j < 6) (h : ∀ N, PT M N → TD N T t (tk1 T t j (adv T t s)) → K (tk1v T t j (adv T t s)) N) : CI mTo_takeOneOf [.ref 199, .ref (64 * j + 63)] M K := by
  refine call_of rfl (Nat.le_of_ble_eq_true rfl) rfl (vTo_takeOneOf_0 rfl hj (nTo_advance td (fun N pN tN => ?_)))
  generalize adv T t s = a at h tN
  have n1 := tN.2.1
  have b21 : ∀ v, v = tk1n T t j a → X mTo_takeOneOf 21 [(0, .ref 199)] [.int v] N (mC mTo_takeOneOf, mS mTo_takeOneOf) (QI K) := by
    rintro v rfl
    refine vTo_takeOneOf_21 rfl ⟨fun r => ?_, fun r => nTo_fail tN (fun O pO tO => vTo_takeOneOf_31 ?_)⟩
    · have := h N pN
      rw [tk1, tk1v, if_pos r, if_pos r] at this
      exact this tN
    · have := h O (pt_tr pN pO)
      rw [tk1, tk1v, if_neg r, if_neg r] at this
      exact this tO
  refine vTo_takeOneOf_4 rfl hj ⟨fun q => b21 _ ?_, fun q => sTo_among tN hj (vTo_takeOneOf_17 (b21 _ ?_))⟩
  · rw [n1] at q; rw [tk1n, if_neg q]
  · rw [n1] at q; rw [tk1n, if_pos q]
theorem nTo_closeLine {K : Mm → Prop} (td : TD M T t s) (h : ∀ N, PT M N → TD N T t (tkC T t s) → K N) : CV mTo_closeLine [.ref 199] M K := by
  have t5 := td.2.2.2.2.2.1
  refine call_of rfl (Nat.le_of_ble_eq_true rfl) rfl (vTo_closeLine_0 rfl ⟨fun q => ?_, fun q => ?_⟩)
  · rw [t5] at q
    refine nTo_advance td (fun N pN tN => ?_)
    have n1 := tN.2.1
    refine vTo_closeLine_12 rfl ⟨fun r => ?_, fun r => nTo_fail tN (fun O pO tO => vTo_closeLine_25 ?_)⟩
    · rw [n1] at r
      have h' := fun O => h O
      rw [tkC, if_pos q, if_pos r] at h'
      generalize adv T t s = a at h' tN
      exact nTo_advance tN (fun O pO tO => vTo_closeLine_31 (h' O (pt_tr pN pO) tO))
    · rw [n1] at r
      have h' := fun O => h O
      rw [tkC, if_pos q, if_neg r] at h'
      exact h' O (pt_tr pN pO) tO
  · rw [t5] at q
    have h' := fun O => h O
    rw [tkC, if_neg q] at h'
    exact h' M (pt_rf M) td
theorem nTo_begin {v : Int32} {K : Mm → Prop} (tc : TC M T t) (h4 : gi M 199 4 = v) (h : ∀ N, PT M N → TD N T t (0, 0, 0, v, 0, 0) → K N) : CV mTo_begin [.ref 199] M K := by
  refine call_of rfl (Nat.le_of_ble_eq_true rfl) rfl (vTo_begin_0 rfl (h _ (pt_tr pt_si (pt_tr pt_si (pt_tr pt_si (pt_tr pt_si pt_si)))) ?_))
  refine ⟨tc_pt (pt_tr pt_si (pt_tr pt_si (pt_tr pt_si (pt_tr pt_si pt_si)))) tc, ?_, ?_, ?_, ?_, ?_, ?_, Nat.le_refl _, Nat.zero_le _⟩
  · rw [g1 _ _ _ _ (by decide), g1 _ _ _ _ (by decide), g1 _ _ _ _ (by decide), g1 _ _ _ _ (by decide), g1s]
  · rw [g1 _ _ _ _ (by decide), g1 _ _ _ _ (by decide), g1 _ _ _ _ (by decide), g1s]; rfl
  · rw [g1 _ _ _ _ (by decide), g1 _ _ _ _ (by decide), g1s]; rfl
  · rw [g1 _ _ _ _ (by decide), g1 _ _ _ _ (by decide), g1 _ _ _ _ (by decide), g1 _ _ _ _ (by decide), g1 _ _ _ _ (by decide)]; exact h4
  · rw [g1 _ _ _ _ (by decide), g1s]
  · rw [g1s]
end CT6
/-! ===== bounds of what is taken ===== -/
theorem vlf_nn {M : Mm} {T : Nat → Int32} {t : Nat} (tc : TC M T t) {p d : Nat} (hd : d ≤ 3) (hF : ∀ k, k < d → isF (lk T t (p + k)) = true) : ∃ n, n < 10 ^ d ∧ vlf T t p d = nI n := by
  induction d with
  | zero => exact ⟨0, by decide, rfl⟩
  | succ d ih =>
    obtain ⟨n, hn, e⟩ := ih (by omega) (fun k hk => hF k (by omega))
    have hf := hF d (by omega)
    obtain ⟨c, hc, ec⟩ : ∃ c, (48 ≤ c ∧ c ≤ 57) ∧ lk T t (p + d) = nI c := by
      rcases lk_c tc (p + d) with ⟨e, -⟩ | ⟨-, c, hc, e⟩
      · rw [e] at hf; exact absurd hf (by decide)
      · rw [e] at hf
        have : ∀ c, c < 256 → isF (nI c) = true → 48 ≤ c ∧ c ≤ 57 := by decide +kernel
        exact ⟨c, this c hc hf, e⟩
    refine ⟨10 * n + (c - 48), ?_, ?_⟩
    · have : 10 ^ (d + 1) = 10 * 10 ^ d := by rw [Nat.pow_succ, Nat.mul_comm]
      omega
    · rw [vlf, if_pos (by omega), e, ec, n10, nadd, show (48 : Int32) = nI 48 from rfl, nsub (by omega)]
      congr 1; omega
/-- letters are bits below ma -/
theorem ltc_b {M : Mm} {T : Nat → Int32} {t : Nat} (tc : TC M T t) {fi ma : Nat} (hfi : fi < 256) (hma : ma ≤ 8) : ∀ n i b, b < 2 ^ ma → ltc T t (nI fi) (nI ma) n i (nI b) = -1 ∨ ∃ c, c < 2 ^ ma ∧ ltc T t (nI fi) (nI ma) n i (nI b) = nI c
  | 0, _, b, hb => Or.inr ⟨b, hb, rfl⟩
  | n + 1, i, b, hb => by
    rw [ltc]
    by_cases c : (lk T t i - nI fi < 0 ∨ nI ma ≤ lk T t i - nI fi) ∨ ((ushr (nI b) (lk T t i - nI fi)) &&& 1) = 1
    · rw [if_pos c]; exact Or.inl rfl
    · rw [if_neg c]
      have c1 : ¬ (lk T t i - nI fi < 0 ∨ nI ma ≤ lk T t i - nI fi) := fun z => c (Or.inl z)
      obtain ⟨d, hd, e⟩ := rng (n := ma) rfl (by omega) (fun z => c1 (Or.inl z)) (fun z => c1 (Or.inr z))
      rw [e]
      have : ∀ ma, ma ≤ 8 → ∀ d, d < ma → ∀ b, b < 2 ^ ma → (b ||| 2 ^ d) < 2 ^ ma ∧ nI b ||| ((1 : Int32) <<< (nI d &&& 31)) = nI (b ||| 2 ^ d) := by decide +kernel
      obtain ⟨h1, h2⟩ := this ma hma d hd b hb
      rw [h2]
      exact ltc_b tc hfi hma n (i + 1) _ h1
section CT7
variable {M : Mm} {T : Nat → Int32} {t : Nat} {s : Tst}
theorem tfl_ne {c : Int32} (hc : ¬ c = 0) : ¬ (tfl c s).2.2.2.2.1 = 0 := by
  unfold tfl
  by_cases q : s.2.2.2.2.1 = 0
  · rw [if_pos q]; exact hc
  · rw [if_neg q]; exact q
theorem adv0_f : (adv0 T t s).2.2.2.2.1 = s.2.2.2.2.1 := by
  unfold adv0
  split
  · rfl
  split
  · rfl
  split
  · rfl
  · rfl
theorem adv_ok (h : (adv T t s).2.2.2.2.1 = 0) : ¬ (adv0 T t s).1 = 0 ∧ s.2.2.2.2.1 = 0 ∧ adv T t s = adv0 T t s := by
  unfold adv at h ⊢
  by_cases q : (adv0 T t s).1 = 0
  · rw [if_pos q] at h; exact absurd h (tfl_ne (by decide))
  · rw [if_neg q] at h ⊢
    exact ⟨q, adv0_f.symm.trans h, rfl⟩
/-- a number that is taken -/
theorem tkN_ok {g : Nat} (hg : g < 2 ^ 31) (tc : TC M T t) (h : (tkN (nI g) (adv T t s)).2.2.2.2.1 = 0) : (∃ n, n ≤ g ∧ tkNv (nI g) (adv T t s) = nI n) ∧ tkN (nI g) (adv T t s) = adv T t s ∧ (adv T t s).1 = 3 := by
  unfold tkN at h ⊢
  unfold tkNv
  by_cases q : (adv T t s).1 = 3
  · rw [if_pos q] at h ⊢
    rw [if_pos q]
    by_cases r : (adv T t s).2.2.2.1 ≤ nI g
    · rw [if_pos r] at h ⊢
      rw [if_pos r]
      refine ⟨?_, rfl, q⟩
      obtain ⟨a, b, c⟩ := adv_ok h
      rw [c] at q r ⊢
      have hn : ∃ n, n < 1000 ∧ (adv0 T t s).2.2.2.1 = nI n := by
        unfold adv0 at q ⊢
        by_cases c1 : lk T t (nx1 T t s.2.2.1) < 0
        · rw [if_pos c1] at q; exact absurd (show (1 : Int32) = 3 from q) (by decide)
        rw [if_neg c1] at q ⊢
        by_cases c2 : isA (lk T t (nx1 T t s.2.2.1)) = true
        · rw [if_pos c2] at q; exact absurd (show (2 : Int32) = 3 from q) (by decide)
        rw [if_neg c2] at q ⊢
        by_cases c3 : isF (lk T t (nx1 T t s.2.2.1)) = true
        · rw [if_pos c3]
          have m3 := Nat.min_le_right (rn isF T t 401 (nx1 T t s.2.2.1) - nx1 T t s.2.2.1) 3
          obtain ⟨n, hn, e⟩ := vlf_nn tc (p := nx1 T t s.2.2.1) m3 (fun k hk => rn_in isF T t 401 _ k (by have := Nat.min_le_left (rn isF T t 401 (nx1 T t s.2.2.1) - nx1 T t s.2.2.1) 3; omega))
          refine ⟨n, Nat.lt_of_lt_of_le hn (Nat.le_trans (Nat.pow_le_pow_right (by decide) m3) (by decide)), e⟩
        · rw [if_neg c3] at q
          exfalso
          by_cases c4 : lk T t (nx1 T t s.2.2.1) = 45
          · have q' : (4 : Int32) = 3 := by rw [if_pos c4] at q; exact q
            exact absurd q' (by decide)
          · by_cases c5 : lk T t (nx1 T t s.2.2.1) = 59
            · have q' : (5 : Int32) = 3 := by rw [if_neg c4, if_pos c5] at q; exact q
              exact absurd q' (by decide)
            · have q' : (0 : Int32) = 3 := by rw [if_neg c4, if_neg c5] at q; exact q
              exact absurd q' (by decide)
      obtain ⟨n, hn, e⟩ := hn
      rw [e] at r ⊢
      rw [nle hg (by omega)] at r
      exact ⟨n, r, rfl⟩
    · rw [if_neg r] at h; exact absurd h (tfl_ne (by decide))
  · rw [if_neg q] at h; exact absurd h (tfl_ne (by decide))
theorem tkM_ok (tc : TC M T t) {a : Tst} (h : (tkM T t a).2.2.2.2.1 = 0) : (∃ n, n < 64 ∧ tkMv T t a = nI n) ∧ tkM T t a = a := by
  unfold tkM at h ⊢
  unfold tkMv
  by_cases q : a.1 = 4
  · rw [if_pos q, if_pos q]; exact ⟨⟨0, by decide, rfl⟩, rfl⟩
  · rw [if_neg q] at h ⊢
    rw [if_neg q]
    by_cases r : a.1 = 2
    · rw [if_pos r] at h ⊢
      rw [if_pos r]
      by_cases l : 0 ≤ tLt T t 112 6 a
      · rw [if_pos l]
        rw [if_pos l]
        refine ⟨?_, rfl⟩
        rcases ltc_b tc (fi := 112) (ma := 6) (by decide) (by decide) (a.2.2.1 - a.2.1) a.2.1 0 (by decide) with e | ⟨c, hc, e⟩
        · have : tLt T t 112 6 a = -1 := e
          rw [this] at l; exact absurd l (by decide)
        · exact ⟨c, hc, e⟩
      · rw [if_neg l] at h; exact absurd h (tfl_ne (by decide))
    · rw [if_neg r] at h; exact absurd h (tfl_ne (by decide))
theorem tkDv_c (tc : TC M T t) (a : Tst) : tkDv T t a = -1 ∨ ∃ n, n < 256 ∧ tkDv T t a = nI n := by
  unfold tkDv
  by_cases q : a.1 = 2
  · rw [if_pos q]
    by_cases l : 0 ≤ tLt T t 97 8 a
    · rw [if_pos l]
      rcases ltc_b tc (fi := 97) (ma := 8) (by decide) (by decide) (a.2.2.1 - a.2.1) a.2.1 0 (by decide) with e | ⟨c, hc, e⟩
      · exact Or.inl e
      · exact Or.inr ⟨c, hc, e⟩
    · rw [if_neg l]; exact Or.inl rfl
  · rw [if_neg q]; exact Or.inl rfl
theorem ntz_8 : ∀ n, n < 256 → bc32 (nI n) = 1 → ∃ d, d < 8 ∧ ntz (nI n) = nI d := by decide +kernel
theorem tkOv_c (tc : TC M T t) (a : Tst) : tkOv T t a = -1 ∨ ∃ d, d < 8 ∧ tkOv T t a = nI d := by
  unfold tkOv
  by_cases q : 0 ≤ tkDv T t a
  · rw [if_pos q]
    by_cases r : bc32 (tkDv T t a) = 1
    · rw [if_pos r]
      rcases tkDv_c tc a with e | ⟨n, hn, e⟩
      · rw [e] at q; exact absurd q (by decide)
      · rw [e] at r ⊢
        exact Or.inr (ntz_8 n hn r)
    · rw [if_neg r]; exact Or.inl rfl
  · rw [if_neg q]; exact Or.inl rfl
end CT7
