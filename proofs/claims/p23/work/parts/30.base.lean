/-! ===== numbers, loops, filled rows ===== -/
theorem nI_s (i : Nat) : nI i + 1 = nI (i + 1) := by
  show Int32.ofNat i + 1 = Int32.ofNat (i + 1)
  rw [Int32.ofNat_add]; rfl
theorem lp (n : Nat) {P : Nat → Prop} (hs : ∀ i, i < n → P (i + 1) → P i) (h0 : P n) : P 0 := by
  have key : ∀ k, k ≤ n → P (n - k) := by
    intro k
    induction k with
    | zero => intro _; exact h0
    | succ k ih =>
      intro hk
      have h1 := hs (n - (k + 1)) (by omega)
      rw [show n - (k + 1) + 1 = n - k by omega] at h1
      exact h1 (ih (by omega))
  have := key n (Nat.le_refl n)
  rwa [Nat.sub_self] at this
theorem nle {i n : Nat} (hi : i < 2 ^ 31) (hn : n < 2 ^ 31) : (nI n ≤ nI i) ↔ n ≤ i := Int32.ofNat_le_iff_le hn hi
theorem nlt {i n : Nat} (hi : i < 2 ^ 31) (hn : n < 2 ^ 31) : (nI n < nI i) ↔ n < i := Int32.ofNat_lt_iff_lt hn hi
theorem nge {c : Int32} {i n : Nat} (hc : c = nI n) (hn : n < 2 ^ 31) (h : i < n) : ¬ c ≤ nI i := by
  subst hc
  rw [nle (by omega) hn]
  omega
theorem nself {c : Int32} {n : Nat} (hc : c = nI n) : c ≤ nI n := by
  subst hc
  exact Int32.le_refl _
theorem vin {i n : Nat} (h : i < n) (hn : n < 2 ^ 31) : vp_in (nI i) n := by
  unfold vp_in
  have h1 : (nI i).toNatClampNeg = i := Int32.toNatClampNeg_ofNat_of_lt (by omega)
  rintro (h2 | h2)
  · have : (0 : Int32) ≤ nI i := Int32.zero_le_ofNat_of_lt (by omega)
    exact absurd h2 (Int32.not_lt.mpr this)
  · rw [h1] at h2; omega
theorem ncl {i : Nat} (h : i < 2 ^ 31) : (nI i).toNatClampNeg = i := Int32.toNatClampNeg_ofNat_of_lt h
theorem n0 (i : Nat) (h : i < 2 ^ 31) : ¬ nI i < 0 := Int32.not_lt.mpr (Int32.zero_le_ofNat_of_lt h)
theorem ninj {i j : Nat} (hi : i < 2 ^ 31) (hj : j < 2 ^ 31) : nI i = nI j ↔ i = j := by
  constructor
  · intro h
    have := congrArg Int32.toNatClampNeg h
    rwa [ncl hi, ncl hj] at this
  · intro h; rw [h]
/-- a number that is no less than 0 and less than n is one of 0 .. n - 1 -/
theorem rng {x c : Int32} {n : Nat} (hc : c = nI n) (hn : n < 2 ^ 31) (h0 : ¬ x < 0) (h1 : ¬ c ≤ x) : ∃ i, i < n ∧ x = nI i := by
  obtain ⟨i, hi, rfl⟩ := nI_of h0
  subst hc
  rw [nle hi hn] at h1
  exact ⟨i, by omega, rfl⟩
theorem mm_ext {M N : Mm} (h1 : M.1 = N.1) (h2 : ∀ a j, gi M a j = gi N a j) (h3 : ∀ a j, gl M a j = gl N a j) (h4 : ∀ a j, gr M a j = gr N a j) : M = N := by
  obtain ⟨M1, M2, M3, M4⟩ := M
  obtain ⟨N1, N2, N3, N4⟩ := N
  have e2 : M2 = N2 := funext fun a => funext fun j => h2 a j
  have e3 : M3 = N3 := funext fun a => funext fun j => h3 a j
  have e4 : M4 = N4 := funext fun a => funext fun j => h4 a j
  cases h1; cases e2; cases e3; cases e4; rfl
theorem gi_si (M : Mm) (a j b k : Nat) (v : Int32) : gi (si M a j v) b k = if b = a ∧ k = j then v else gi M b k := rfl
theorem gl_sl (M : Mm) (a j b k : Nat) (v : Int64) : gl (sl M a j v) b k = if b = a ∧ k = j then v else gl M b k := rfl
theorem gr_sr (M : Mm) (a j b k : Nat) (v : Option Nat) : gr (sr M a j v) b k = if b = a ∧ k = j then v else gr M b k := rfl
theorem si_same (M : Mm) (a j : Nat) (v : Int32) (h : gi M a j = v) : si M a j v = M := by
  refine mm_ext rfl (fun b k => ?_) (fun _ _ => rfl) (fun _ _ => rfl)
  rw [gi_si]
  by_cases hq : b = a ∧ k = j
  · rw [if_pos hq, hq.1, hq.2, h]
  · rw [if_neg hq]
/-- the first n places of a row are v -/
def fl (M : Mm) (a n : Nat) (v : Int32) : Mm := (M.1, (fun b k => if b = a ∧ k < n then v else gi M b k), M.2.2)
theorem gi_fl (M : Mm) (a n b k : Nat) (v : Int32) : gi (fl M a n v) b k = if b = a ∧ k < n then v else gi M b k := rfl
theorem fl_0 (M : Mm) (a : Nat) (v : Int32) : fl M a 0 v = M := by
  refine mm_ext rfl (fun b k => ?_) (fun _ _ => rfl) (fun _ _ => rfl)
  rw [gi_fl, if_neg (by omega)]
theorem fl_s (M : Mm) (a i : Nat) (v : Int32) : si (fl M a i v) a i v = fl M a (i + 1) v := by
  refine mm_ext rfl (fun b k => ?_) (fun _ _ => rfl) (fun _ _ => rfl)
  rw [gi_si, gi_fl, gi_fl]
  by_cases hb : b = a
  · subst hb
    by_cases hk : k = i
    · rw [if_pos ⟨rfl, hk⟩, if_pos ⟨rfl, by omega⟩]
    · rw [if_neg (fun h => hk h.2)]
      by_cases hk2 : k < i
      · rw [if_pos ⟨rfl, hk2⟩, if_pos ⟨rfl, by omega⟩]
      · rw [if_neg (fun h => hk2 h.2), if_neg (fun h => by omega)]
  · rw [if_neg (fun h => hb h.1), if_neg (fun h => hb h.1), if_neg (fun h => hb h.1)]
theorem sJr_fill {M : Mm} {a kk nn : Nat} {v : Int32} {K : Mm → Prop} (ka : a % 64 = kk) (hak : AK kk 0 nn) (hn : nn < 2 ^ 31) (h : K (fl M a nn v)) : CV mJr_fill [.ref a, .int v] M K := by
  refine call_of rfl (Nat.le_of_ble_eq_true rfl) rfl ?_
  refine vJr_fill_0 ka hak ?_
  have key := lp nn (P := fun i => X mJr_fill 5 [(0, .ref a), (1, .int v), (2, .int (nI i)), (3, .int (Int32.ofNat nn))] [] (fl M a i v) (mC mJr_fill, mS mJr_fill) (QV K)) (fun i hi ih => ?_) ?_
  · rw [fl_0] at key
    exact key
  · refine vJr_fill_5 ka hak ⟨fun q => absurd q (nge rfl hn hi), fun _ => ⟨vin hi hn, ?_⟩⟩
    rw [ncl (by omega), fl_s, nI_s]
    exact ih
  · exact vJr_fill_5 ka hak ⟨fun _ => h, fun q => absurd (nself rfl) q⟩
def bc32 (v0 : Int32) : Int32 := (((((((v0 - ((ushr v0 1) &&& 1431655765)) &&& 858993459) + ((ushr (v0 - ((ushr v0 1) &&& 1431655765)) 2) &&& 858993459)) + (ushr (((v0 - ((ushr v0 1) &&& 1431655765)) &&& 858993459) + ((ushr (v0 - ((ushr v0 1) &&& 1431655765)) 2) &&& 858993459)) 4)) &&& 252645135) + (ushr (((((v0 - ((ushr v0 1) &&& 1431655765)) &&& 858993459) + ((ushr (v0 - ((ushr v0 1) &&& 1431655765)) 2) &&& 858993459)) + (ushr (((v0 - ((ushr v0 1) &&& 1431655765)) &&& 858993459) + ((ushr (v0 - ((ushr v0 1) &&& 1431655765)) 2) &&& 858993459)) 4)) &&& 252645135) 8)) + (ushr ((((((v0 - ((ushr v0 1) &&& 1431655765)) &&& 858993459) + ((ushr (v0 - ((ushr v0 1) &&& 1431655765)) 2) &&& 858993459)) + (ushr (((v0 - ((ushr v0 1) &&& 1431655765)) &&& 858993459) + ((ushr (v0 - ((ushr v0 1) &&& 1431655765)) 2) &&& 858993459)) 4)) &&& 252645135) + (ushr (((((v0 - ((ushr v0 1) &&& 1431655765)) &&& 858993459) + ((ushr (v0 - ((ushr v0 1) &&& 1431655765)) 2) &&& 858993459)) + (ushr (((v0 - ((ushr v0 1) &&& 1431655765)) &&& 858993459) + ((ushr (v0 - ((ushr v0 1) &&& 1431655765)) 2) &&& 858993459)) 4)) &&& 252645135) 8)) 16)) &&& 63
def bc64 (v0 : Int64) : Int32 := (((((((((v0 - ((lushr v0 (1 : Int32)) &&& 6148914691236517205)) &&& 3689348814741910323) + ((lushr (v0 - ((lushr v0 (1 : Int32)) &&& 6148914691236517205)) (2 : Int32)) &&& 3689348814741910323)) + (lushr (((v0 - ((lushr v0 (1 : Int32)) &&& 6148914691236517205)) &&& 3689348814741910323) + ((lushr (v0 - ((lushr v0 (1 : Int32)) &&& 6148914691236517205)) (2 : Int32)) &&& 3689348814741910323)) (4 : Int32))) &&& 1085102592571150095) + (lushr (((((v0 - ((lushr v0 (1 : Int32)) &&& 6148914691236517205)) &&& 3689348814741910323) + ((lushr (v0 - ((lushr v0 (1 : Int32)) &&& 6148914691236517205)) (2 : Int32)) &&& 3689348814741910323)) + (lushr (((v0 - ((lushr v0 (1 : Int32)) &&& 6148914691236517205)) &&& 3689348814741910323) + ((lushr (v0 - ((lushr v0 (1 : Int32)) &&& 6148914691236517205)) (2 : Int32)) &&& 3689348814741910323)) (4 : Int32))) &&& 1085102592571150095) (8 : Int32))) + (lushr ((((((v0 - ((lushr v0 (1 : Int32)) &&& 6148914691236517205)) &&& 3689348814741910323) + ((lushr (v0 - ((lushr v0 (1 : Int32)) &&& 6148914691236517205)) (2 : Int32)) &&& 3689348814741910323)) + (lushr (((v0 - ((lushr v0 (1 : Int32)) &&& 6148914691236517205)) &&& 3689348814741910323) + ((lushr (v0 - ((lushr v0 (1 : Int32)) &&& 6148914691236517205)) (2 : Int32)) &&& 3689348814741910323)) (4 : Int32))) &&& 1085102592571150095) + (lushr (((((v0 - ((lushr v0 (1 : Int32)) &&& 6148914691236517205)) &&& 3689348814741910323) + ((lushr (v0 - ((lushr v0 (1 : Int32)) &&& 6148914691236517205)) (2 : Int32)) &&& 3689348814741910323)) + (lushr (((v0 - ((lushr v0 (1 : Int32)) &&& 6148914691236517205)) &&& 3689348814741910323) + ((lushr (v0 - ((lushr v0 (1 : Int32)) &&& 6148914691236517205)) (2 : Int32)) &&& 3689348814741910323)) (4 : Int32))) &&& 1085102592571150095) (8 : Int32))) (16 : Int32))) + (lushr (((((((v0 - ((lushr v0 (1 : Int32)) &&& 6148914691236517205)) &&& 3689348814741910323) + ((lushr (v0 - ((lushr v0 (1 : Int32)) &&& 6148914691236517205)) (2 : Int32)) &&& 3689348814741910323)) + (lushr (((v0 - ((lushr v0 (1 : Int32)) &&& 6148914691236517205)) &&& 3689348814741910323) + ((lushr (v0 - ((lushr v0 (1 : Int32)) &&& 6148914691236517205)) (2 : Int32)) &&& 3689348814741910323)) (4 : Int32))) &&& 1085102592571150095) + (lushr (((((v0 - ((lushr v0 (1 : Int32)) &&& 6148914691236517205)) &&& 3689348814741910323) + ((lushr (v0 - ((lushr v0 (1 : Int32)) &&& 6148914691236517205)) (2 : Int32)) &&& 3689348814741910323)) + (lushr (((v0 - ((lushr v0 (1 : Int32)) &&& 6148914691236517205)) &&& 3689348814741910323) + ((lushr (v0 - ((lushr v0 (1 : Int32)) &&& 6148914691236517205)) (2 : Int32)) &&& 3689348814741910323)) (4 : Int32))) &&& 1085102592571150095) (8 : Int32))) + (lushr ((((((v0 - ((lushr v0 (1 : Int32)) &&& 6148914691236517205)) &&& 3689348814741910323) + ((lushr (v0 - ((lushr v0 (1 : Int32)) &&& 6148914691236517205)) (2 : Int32)) &&& 3689348814741910323)) + (lushr (((v0 - ((lushr v0 (1 : Int32)) &&& 6148914691236517205)) &&& 3689348814741910323) + ((lushr (v0 - ((lushr v0 (1 : Int32)) &&& 6148914691236517205)) (2 : Int32)) &&& 3689348814741910323)) (4 : Int32))) &&& 1085102592571150095) + (lushr (((((v0 - ((lushr v0 (1 : Int32)) &&& 6148914691236517205)) &&& 3689348814741910323) + ((lushr (v0 - ((lushr v0 (1 : Int32)) &&& 6148914691236517205)) (2 : Int32)) &&& 3689348814741910323)) + (lushr (((v0 - ((lushr v0 (1 : Int32)) &&& 6148914691236517205)) &&& 3689348814741910323) + ((lushr (v0 - ((lushr v0 (1 : Int32)) &&& 6148914691236517205)) (2 : Int32)) &&& 3689348814741910323)) (4 : Int32))) &&& 1085102592571150095) (8 : Int32))) (16 : Int32))) (32 : Int32))).toInt32) &&& 127
/-! small methods, as their one stretch says them -/
theorem sC_holds {M : Mm} {v0 v1 : Int32} {K : Int32 → Mm → Prop} (h : K (if ((ushr v0 v1) &&& 1) = 1 then 1 else 0) M) : CI mC_holds [.int v0, .int v1] M K := call_of rfl (Nat.le_of_ble_eq_true rfl) rfl (vC_holds_0 h)
theorem sC_agreed {M : Mm} {v0 v1 : Int32} {K : Int32 → Mm → Prop} (h : K (if v1 = 0 then (if v0 = 0 then -4 else 1) else (if v0 = 0 then 0 else -4)) M) : CI mC_agreed [.int v0, .int v1] M K := by
  refine call_of rfl (Nat.le_of_ble_eq_true rfl) rfl (vC_agreed_0 ⟨fun q => ?_, fun q => ?_, fun q => ?_, fun q => ?_⟩)
  · rwa [if_neg q.1, if_neg q.2] at h
  · rwa [if_neg q.1, if_pos q.2] at h
  · rwa [if_pos q.1, if_neg q.2] at h
  · rwa [if_pos q.1, if_pos q.2] at h
theorem sRu_isMain {M : Mm} {v0 : Nat} {v1 : Int32} {K : Int32 → Mm → Prop} (k : v0 % 64 = 3) (h : K (if ((ushr (gi M v0 0) v1) &&& 1) = 1 then 1 else 0) M) : CI mRu_isMain [.ref v0, .int v1] M K := call_of rfl (Nat.le_of_ble_eq_true rfl) rfl (vRu_isMain_0 k h)
theorem sC_isCase {M : Mm} {v0 : Int32} {K : Int32 → Mm → Prop} (h1 : (v0 < 0 ∨ 64 ≤ v0) → K 0 M) (h2 : ∀ i, i < 64 → v0 = nI i → K 1 M) : CI mC_isCase [.int v0] M K := by
  refine call_of rfl (Nat.le_of_ble_eq_true rfl) rfl (vC_isCase_0 ⟨fun q => h1 (q.elim Or.inl (fun q => Or.inr q.2)), fun q => ?_⟩)
  obtain ⟨i, hi, e⟩ := rng (c := 64) (n := 64) rfl (by decide) q.1 q.2
  exact h2 i hi e
theorem sC_isDoctor {M : Mm} {v0 : Int32} {K : Int32 → Mm → Prop} (h1 : (v0 < 0 ∨ 8 ≤ v0) → K 0 M) (h2 : ∀ i, i < 8 → v0 = nI i → K 1 M) : CI mC_isDoctor [.int v0] M K := by
  refine call_of rfl (Nat.le_of_ble_eq_true rfl) rfl (vC_isDoctor_0 ⟨fun q => h1 (q.elim Or.inl (fun q => Or.inr q.2)), fun q => ?_⟩)
  obtain ⟨i, hi, e⟩ := rng (c := 8) (n := 8) rfl (by decide) q.1 q.2
  exact h2 i hi e
theorem sC_isSheet {M : Mm} {v0 : Int32} {K : Int32 → Mm → Prop} (h1 : (v0 < 0 ∨ 4 ≤ v0) → K 0 M) (h2 : ∀ i, i < 4 → v0 = nI i → K 1 M) : CI mC_isSheet [.int v0] M K := by
  refine call_of rfl (Nat.le_of_ble_eq_true rfl) rfl (vC_isSheet_0 ⟨fun q => h1 (q.elim Or.inl (fun q => Or.inr q.2)), fun q => ?_⟩)
  obtain ⟨i, hi, e⟩ := rng (c := 4) (n := 4) rfl (by decide) q.1 q.2
  exact h2 i hi e
theorem sC_isLane {M : Mm} {v0 : Int32} {K : Int32 → Mm → Prop} (h1 : (v0 < 0 ∨ 2 < v0) → K 0 M) (h2 : ¬ v0 < 0 → ¬ 2 < v0 → K 1 M) : CI mC_isLane [.int v0] M K :=
  call_of rfl (Nat.le_of_ble_eq_true rfl) rfl (vC_isLane_0 ⟨fun q => h1 (q.elim Or.inl (fun q => Or.inr q.2)), fun q => h2 q.1 q.2⟩)
theorem sC_isEither {M : Mm} {v0 : Int32} {K : Int32 → Mm → Prop} (h1 : ¬ v0 = 0 → ¬ v0 = 1 → K 0 M) (h2 : (v0 = 0 ∨ v0 = 1) → K 1 M) : CI mC_isEither [.int v0] M K :=
  call_of rfl (Nat.le_of_ble_eq_true rfl) rfl (vC_isEither_0 ⟨fun q => h2 (q.elim Or.inl (fun q => Or.inr q.2)), fun q => h1 q.1 q.2⟩)
theorem sJi_bitCount {M : Mm} {v0 : Int32} {K : Int32 → Mm → Prop} (h : ∀ r, r = bc32 v0 → K r M) : CI mJi_bitCount [.int v0] M K := call_of rfl (Nat.le_of_ble_eq_true rfl) rfl (vJi_bitCount_0 (h _ rfl))
theorem sJl_bitCount {M : Mm} {v0 : Int64} {K : Int32 → Mm → Prop} (h : ∀ r, r = bc64 v0 → K r M) : CI mJl_bitCount [.long v0] M K := call_of rfl (Nat.le_of_ble_eq_true rfl) rfl (vJl_bitCount_0 (h _ rfl))
