/-! ===== the class's tape, its strings ===== -/
/-- a byte as the class holds it and as the reference does -/
def BY (a b : Int32) : Prop := ∃ n, n < 256 ∧ a = (nI n).toInt8.toInt32 ∧ b = nI n
def TC (M : Mm) (T : Nat → Int32) (t : Nat) : Prop := gr M 199 0 = some 70 ∧ gr M 70 0 = some 145 ∧ gi M 70 1 = nI t ∧ t ≤ 400 ∧ ∀ k, k < 400 → BY (gi M 145 k) (T k)
def fR (f : Int32 → Bool) (lo hi : Int32) : Prop := f (-1) = false ∧ ∀ n, n < 256 → (f (nI n) = true ↔ ¬ (nI n).toInt8.toInt32 < lo ∧ ¬ hi < (nI n).toInt8.toInt32)
theorem fR_B : fR isB 32 32 := ⟨by decide, by decide +kernel⟩
theorem fR_A : fR isA 97 122 := ⟨by decide, by decide +kernel⟩
theorem fR_F : fR isF 48 57 := ⟨by decide, by decide +kernel⟩
theorem by_255 : ∀ n, n < 256 → (nI n).toInt8.toInt32 &&& 255 = nI n := by decide +kernel
theorem by_F : ∀ n, n < 256 → isF (nI n) = true → (nI n).toInt8.toInt32 = nI n := by decide +kernel
section CT1
variable {M : Mm} {T : Nat → Int32} {t : Nat}
theorem sTa_behindAll {f : Int32 → Bool} {lo hi : Int32} {p : Nat} {K : Int32 → Mm → Prop} (tc : TC M T t) (hf : fR f lo hi) (hp : p ≤ 401) (h : K (nI (rn f T t 401 p)) M) : CI mTa_behindAll [.ref 70, .int lo, .int hi, .int (nI p)] M K := by
  obtain ⟨-, g0, ht, ht2, hT⟩ := tc
  refine call_of rfl (Nat.le_of_ble_eq_true rfl) rfl (vTa_behindAll_0 ?_)
  rw [if_pos (show (0 : Int32) ≤ nI p from nI_pos' (by omega))]
  have key : ∀ n p, p ≤ 802 → t < p + n → K (nI (rn f T t n p)) M → X mTa_behindAll 11 [(0, .ref 70), (1, .int lo), (2, .int hi), (4, .int (nI p))] [] M (mC mTa_behindAll, mS mTa_behindAll) (QI K) := by
    intro n
    induction n with
    | zero =>
      intro p hp hn h
      have l : gi M 70 1 ≤ nI p := by rw [ht, nle (by omega) (by omega)]; omega
      exact vTa_behindAll_11 rfl g0 ⟨fun q => absurd l q, fun q => absurd l q.1, fun _ => h, fun q => absurd l q.1⟩
    | succ n ih =>
      intro p hp hn h
      rw [rn] at h
      by_cases l : t ≤ p
      · have l2 : gi M 70 1 ≤ nI p := by rw [ht, nle (by omega) (by omega)]; exact l
        rw [lk, if_pos l, hf.1, if_neg (by decide)] at h
        exact vTa_behindAll_11 rfl g0 ⟨fun q => absurd l2 q, fun q => absurd l2 q.1, fun _ => h, fun q => absurd l2 q.1⟩
      · have l2 : ¬ gi M 70 1 ≤ nI p := by rw [ht, nle (by omega) (by omega)]; exact l
        obtain ⟨c, hc, e1, e2⟩ := hT p (by omega)
        rw [lk, if_neg l, e2] at h
        have cp : (nI p).toNatClampNeg = p := ncl (by omega)
        refine vTa_behindAll_11 rfl g0 ⟨fun _ => vin (by omega) (by decide), fun _ => vin (by omega) (by decide), fun q => ?_, fun q => ?_⟩
        · rw [cp, e1] at q
          have nf : ¬ f (nI c) = true := fun z => by
            have := (hf.2 c hc).mp z
            rcases q with q | q | q
            · exact l2 q
            · exact this.1 q.2
            · exact this.2 q.2.2
          rw [if_neg nf] at h; exact h
        · rw [cp, e1] at q
          rw [if_pos ((hf.2 c hc).mpr q.2)] at h
          rw [nI_s]
          exact ih (p + 1) (by omega) (by omega) h
  exact key 401 p (by omega) (by omega) h
theorem sTa_byteAt {p : Nat} {K : Int32 → Mm → Prop} (tc : TC M T t) (hp : p < 2 ^ 31) (h : K (lk T t p) M) : CI mTa_byteAt [.ref 70, .int (nI p)] M K := by
  obtain ⟨-, g0, ht, ht2, hT⟩ := tc
  have np : ¬ nI p < 0 := n0 p hp
  refine call_of rfl (Nat.le_of_ble_eq_true rfl) rfl (vTa_byteAt_0 rfl g0 ⟨fun q => ?_, fun q => ?_, fun q => ?_⟩)
  · have := q.2
    rw [ht, nle hp (by omega)] at this
    exact vin (by omega) (by decide)
  · have l : t ≤ p := by
      rcases q with q | q
      · exact absurd q np
      · have := q.2
        rw [ht, nle hp (by omega)] at this
        exact this
    rw [lk, if_pos l] at h; exact h
  · have l : ¬ t ≤ p := by
      have := q.2
      rw [ht, nle hp (by omega)] at this
      exact this
    obtain ⟨c, hc, e1, e2⟩ := hT p (by omega)
    rw [lk, if_neg l, e2] at h
    rw [ncl hp, e1, by_255 c hc]; exact h
theorem rn_in (f : Int32 → Bool) (T : Nat → Int32) (t : Nat) : ∀ n p k, p + k < rn f T t n p → f (lk T t (p + k)) = true
  | 0, p, k, h => by rw [rn] at h; omega
  | n + 1, p, k, h => by
    rw [rn] at h
    by_cases c : f (lk T t p) = true
    · rw [if_pos c] at h
      match k with
      | 0 => exact c
      | k + 1 =>
        have := rn_in f T t n (p + 1) k (by rw [show p + 1 + k = p + (k + 1) by omega]; exact h)
        rwa [show p + 1 + k = p + (k + 1) by omega] at this
    · rw [if_neg c] at h; omega
theorem sTa_figures {p d : Nat} {K : Int32 → Mm → Prop} (tc : TC M T t) (hd : d ≤ 3) (hq : p + d ≤ t) (hF : ∀ k, k < d → isF (lk T t (p + k)) = true) (h : K (vlf T t p d) M) : CI mTa_figures [.ref 70, .int (nI p), .int (nI (p + d))] M K := by
  obtain ⟨-, g0, ht, ht2, hT⟩ := tc
  refine call_of rfl (Nat.le_of_ble_eq_true rfl) rfl (vTa_figures_0 ?_)
  rw [if_pos (show (0 : Int32) ≤ nI p from nI_pos' (by omega))]
  have key := lp d (P := fun k => X mTa_figures 13 [(0, .ref 70), (2, .int (nI (p + d))), (3, .int (vlf T t p k)), (4, .int (nI (p + k)))] [] M (mC mTa_figures, mS mTa_figures) (QI K)) (fun k hk ih => ?_) ?_
  · exact key
  · have l1 : ¬ nI (p + d) ≤ nI (p + k) := by rw [nle (by omega) (by omega)]; omega
    have l2 : ¬ gi M 70 1 ≤ nI (p + k) := by rw [ht, nle (by omega) (by omega)]; omega
    refine vTa_figures_13 rfl g0 ⟨fun _ => vin (by omega) (by decide), fun q => ?_, fun _ => ?_⟩
    · rcases q with q | q
      · exact absurd q l1
      · exact absurd q.2 l2
    · obtain ⟨c, hc, e1, e2⟩ := hT (p + k) (by omega)
      have hf := hF k hk
      have el : lk T t (p + k) = nI c := by rw [lk, if_neg (by omega), e2]
      rw [el] at hf
      rw [vlf, if_pos (show k < 3 by omega), el] at ih
      rw [ncl (by omega), e1, by_F c hc hf, nI_s, Int32.mul_comm]
      exact ih
  · exact vTa_figures_13 rfl g0 ⟨fun q => absurd (Int32.le_refl _) q.1, fun _ => h, fun q => absurd (Int32.le_refl _) q.1⟩
end CT1
/-- a letter of a constant -/
def chr (j i : Nat) : Int32 := ((((sbyt.getD j []).getD i 0) &&& 255).toUInt32 % 65536).toInt32
theorem chr_n : ∀ j, j < 6 → ∀ i, i < 41 → narrow .char (.int (chr j i)) = .int (chr j i) := by decide +kernel
theorem slen_le : ∀ j, j < 6 → slen.getD j 0 ≤ 41 := by decide
theorem sJs_length {M : Mm} {j : Nat} {K : Int32 → Mm → Prop} (hj : j < 6) (h : K (nI (slen.getD j 0)) M) : CI mJs_length [.ref (64 * j + 63)] M K := by
  refine call_of rfl (Nat.le_of_ble_eq_true rfl) rfl (vJs_length_0 hj (call_of rfl (Nat.le_of_ble_eq_true rfl) rfl (vJs_coder_0 hj ⟨rfl, vJs_length_9 ?_⟩)))
  have e : ∀ j, j < 6 → (Int32.ofNat (slen.getD j 0)) >>> ((if (1 : Int32) = 0 then 1 else 0 : Int32) &&& 31) = nI (slen.getD j 0) := by decide +kernel
  rw [e j hj]; exact h
theorem sJs_charAt {M : Mm} {j i : Nat} {K : Int32 → Mm → Prop} (hj : j < 6) (hi : i < slen.getD j 0) (h : K (chr j i) M) : CI mJs_charAt [.ref (64 * j + 63), .int (nI i)] M K := by
  have hl := slen_le j hj
  refine call_of rfl (Nat.le_of_ble_eq_true rfl) rfl (vJs_charAt_0 hj (call_of rfl (Nat.le_of_ble_eq_true rfl) rfl (vJs_isLatin1_0 hj ⟨fun q => absurd q (by decide), fun _ => vJs_charAt_4 hj ⟨fun q => absurd q (by decide), fun _ => ?_⟩⟩)))
  refine call_of rfl (Nat.le_of_ble_eq_true rfl) rfl (vJa_charAt_0 hj (call_of rfl (Nat.le_of_ble_eq_true rfl) rfl (vJs_checkIndex_0 (call_of rfl (Nat.le_of_ble_eq_true rfl) rfl (vJp_checkIndex_0 ⟨fun q => ?_, fun _ => vJs_checkIndex_8 (vJa_charAt_6 hj ⟨vin hi (by omega), ?_⟩)⟩)))))
  · have h1 : ¬ nI i < 0 := n0 i (by omega)
    have h2 : nI i < Int32.ofNat (slen.getD j 0) := (nlt (by omega) (by omega)).mpr hi
    rcases q with q | q
    · exact h1 q
    · exact q.2 h2
  · rw [ncl (show i < 2 ^ 31 by omega)]
    exact ⟨chr_n j hj i (by omega), vJs_charAt_15 ⟨chr_n j hj i (by omega), h⟩⟩
