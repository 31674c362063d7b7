/-! ===== count, the same on both sides ===== -/
def lcc (p : Nat → Bool) : Nat → Nat
  | 0 => 0
  | k + 1 => lcc p k + (if p k = true then 1 else 0)
theorem lcc_le (p : Nat → Bool) : ∀ k, lcc p k ≤ k
  | 0 => Nat.le_refl 0
  | k + 1 => by
    rw [lcc]
    have := lcc_le p k
    split <;> omega
theorem lcc_cg {p q : Nat → Bool} : ∀ k, (∀ i, i < k → p i = q i) → lcc p k = lcc q k
  | 0, _ => rfl
  | k + 1, h => by rw [lcc, lcc, lcc_cg k (fun i hi => h i (by omega)), h k (by omega)]
theorem lcc_end {p : Nat → Bool} {W : Nat} (h : ∀ i, W ≤ i → p i = false) : ∀ k, lcc p (W + k) = lcc p W
  | 0 => rfl
  | k + 1 => by
    rw [← Nat.add_assoc, lcc, lcc_end h k, h (W + k) (by omega)]; rfl
theorem sbt_c (x : Int32) : ∀ k, sbt (tN x) k = lcc (bt x) k
  | 0 => rfl
  | k + 1 => by
    rw [sbt, lcc, sbt_c x k]
    have m2 := Nat.mod_lt (tN x / 2 ^ k) (show 0 < 2 by decide)
    by_cases q : bt x k = true
    · rw [if_pos q, (bt_n x k).mp q]
    · have n1 : ¬ tN x / 2 ^ k % 2 = 1 := fun z => q ((bt_n x k).mpr z)
      rw [if_neg q]; omega
def lcn (M : Mm) : Nat → Int32
  | 0 => 0
  | i + 1 => lcn M i + (if wd M i 0 = 5 then 1 else 0)
theorem lcn_n (M : Mm) : ∀ k, k ≤ 1000 → tN (lcn M k) = lcc (fun i => decide (wd M i 0 = 5)) k
  | 0, _ => show tN 0 = 0 from by decide +kernel
  | k + 1, hk => by
    have ih := lcn_n M k (by omega)
    have le := lcc_le (fun i => decide (wd M i 0 = 5)) k
    have t1 : tN (1 : Int32) = 1 := by decide +kernel
    have t0 : tN (0 : Int32) = 0 := by decide +kernel
    rw [lcn, lcc]
    by_cases q : wd M k 0 = 5
    · rw [if_pos q, if_pos (decide_eq_true q), tN_add (by rw [ih, t1]; omega), ih, t1]
    · rw [if_neg q, if_neg (fun z => q (of_decide_eq_true z)), tN_add (by rw [ih, t0]; omega), ih, t0]
section EQZ
variable {M : Mm} {W : Nat}
theorem eM_count {w : Int32} {K : Int32 → Mm → Prop} (j : JW M W) (h0 : w = 0 → K (gi M 6027 0) M) (h1 : w = 1 → K (lcn M W) M) (h2 : w = 2 → K (co (gi M 6027 9) 32) M) (h3 : w = 3 → K (gi M 6027 11) M) (h4 : w = 4 → K (if gi M 7644 0 = -4 then -4 else gi M 7708 0) M) (h5 : ∀ i, i < 8 → w = nI (10 + i) → K (gi M 6157 i) M) (h6 : (¬ w = 0 ∧ ¬ w = 1 ∧ ¬ w = 2 ∧ ¬ w = 3 ∧ ¬ w = 4) → (w < 10 ∨ 17 < w) → K (-1) M) : CI mM_count [.ref 6027, .int w] M K := by
  obtain ⟨hm, hW, hW2, hw⟩ := j
  refine call_of rfl (Nat.le_of_ble_eq_true rfl) rfl (vM_count_0 ?_)
  have key := lp W (P := fun i => X mM_count 4 [(0, .ref 6027), (1, .int w), (2, .int (lcn M i)), (3, .int (nI i))] [] M (mC mM_count, mS mM_count) (QI K)) (fun i hi ih => ?_) ?_
  · exact key
  · have nW : ¬ gi M 6027 0 ≤ nI i := by rw [hW]; exact nge rfl (by omega) hi
    exact vM_count_4 rfl ⟨fun q => absurd q nW, fun _ => sM_of (k := 0) hm (by omega) rfl (by decide) (vM_count_19 (by rw [nI_s]; exact ih))⟩
  · refine vM_count_4 rfl ⟨fun _ => sM_in (l := 10) (m := 17) rfl rfl (fun q => vM_count_47 rfl (mr2 hm) (mr40 hm) (mr41 hm) ⟨fun q => absurd rfl q, fun _ => ⟨h0, h1, fun e => sM_countOf (vM_count_110 (h2 e)), h3, h4, fun e => h6 e q⟩, fun q => absurd rfl q⟩) (fun q1 q2 => ?_), fun q => absurd (by rw [hW]; exact nself rfl) q⟩
    obtain ⟨i, hi, e⟩ := rngL (c := 17) (n := 17) rfl (by decide) (fun q => q1 (Int32.lt_trans q (by decide))) q2
    have h10 : 10 ≤ i := by
      have : ¬ nI i < nI 10 := by rw [← e]; exact q1
      rw [nlt (by decide) (by omega)] at this
      omega
    have es : w - 10 = nI (i - 10) := by rw [e]; exact nsub (a := i) (b := 10) h10
    refine vM_count_47 rfl (mr2 hm) (mr40 hm) (mr41 hm) ⟨fun _ => ?_, fun q => absurd q (by decide), fun _ => ?_⟩
    · rw [es]; exact vin (by omega) (by decide)
    · rw [es, ncl (by omega)]
      exact h5 (i - 10) (by omega) (by rw [e, show 10 + (i - 10) = i by omega])
theorem pz_count {v : Int32} {Z : Int32 → Int32 → Mm → Prop} (i0 : INY M) (h : ∀ r s N, INY N → r = s → Z r s N) : CI mC_count [.ref 10, .int v] M (fun r N => CI mM_count [.ref 6027, .int v] N (fun s O => Z r s O)) := by
  have i1 := i0
  obtain ⟨L, P, R, S, U, D, W, t, i, ez⟩ := i0
  have c := i.1.1
  have hW : W ≤ 24 := i.2.1.2.1
  obtain ⟨G, ey⟩ := ez.2
  obtain ⟨-, x1, x2, x3, x4, x5, ⟨x6, x7⟩, x8⟩ := ez.1
  have j := i.2.1.1
  have n4 : ∀ {r : Int32}, (v = 0 → r = gi M 6027 0) → (v = 1 → r = lcn M W) → (v = 2 → r = co (gi M 6027 9) 32) → (v = 3 → r = gi M 6027 11) → (v = 4 → r = (if gi M 7644 0 = -4 then -4 else gi M 7708 0)) → (∀ i, i < 8 → v = nI (10 + i) → r = gi M 6157 i) → ((¬ v = 0 ∧ ¬ v = 1 ∧ ¬ v = 2 ∧ ¬ v = 3 ∧ ¬ v = 4) → (v < 10 ∨ 17 < v) → r = -1) → CI mM_count [.ref 6027, .int v] M (fun s O => Z r s O) := by
    intro r a0 a1 a2 a3 a4 a5 a6
    exact eM_count j (fun e => h _ _ M i1 (a0 e)) (fun e => h _ _ M i1 (a1 e)) (fun e => h _ _ M i1 (a2 e)) (fun e => h _ _ M i1 (a3 e)) (fun e => h _ _ M i1 (a4 e)) (fun k hk e => h _ _ M i1 (a5 k hk e)) (fun e q => h _ _ M i1 (a6 e q))
  -- a small number: one of five
  have sm : ∀ n, n < 5 → v = nI n → ∀ r : Int32, (n = 0 → r = gi M 6027 0) → (n = 1 → r = lcn M W) → (n = 2 → r = co (gi M 6027 9) 32) → (n = 3 → r = gi M 6027 11) → (n = 4 → r = (if gi M 7644 0 = -4 then -4 else gi M 7708 0)) → CI mM_count [.ref 6027, .int v] M (fun s O => Z r s O) := by
    intro n hn en r a0 a1 a2 a3 a4
    have e : ∀ m, m < 100 → v = nI m → n = m := fun m hm em => (ninj (by omega) (by omega)).mp (en.symm.trans em)
    refine n4 (fun z => a0 (e 0 (by decide) z)) (fun z => a1 (e 1 (by decide) z)) (fun z => a2 (e 2 (by decide) z)) (fun z => a3 (e 3 (by decide) z)) (fun z => a4 (e 4 (by decide) z)) (fun k hk z => ?_) (fun z _ => ?_)
    · have := e (10 + k) (by omega) z
      omega
    · exfalso
      obtain ⟨z0, z1, z2, z3, z4⟩ := z
      match n, hn, en with
      | 0, _, en => exact z0 en
      | 1, _, en => exact z1 en
      | 2, _, en => exact z2 en
      | 3, _, en => exact z3 en
      | 4, _, en => exact z4 en
  have g13 := cxg c (10, 13, 5459) (by decide)
  obtain ⟨s1, s2, s3, s4⟩ := sag c (show 0 < 4 by decide)
  obtain ⟨⟨m, hm, b2, b3⟩, b4, -⟩ := i.2.2.2 0 (by decide)
  have laws : bc32 (gi M L 10) = lcn M W := by
    refine tN_inj ?_
    rw [bc_co, co_sum _ 32 (Nat.le_refl _), sbt_c, lcn_n M W (by omega)]
    have s3' := ey.2.2.1.1.2.2.1
    have e1 : lcc (bt (gi M L 10)) 32 = lcc (fun i => decide (i < W ∧ G i 0 = 5)) 32 := lcc_cg 32 (fun i hi => by
      rw [Bool.eq_iff_iff, s3' i hi, decide_eq_true_eq])
    have e2 : lcc (fun i => decide (i < W ∧ G i 0 = 5)) (W + (32 - W)) = lcc (fun i => decide (i < W ∧ G i 0 = 5)) W := lcc_end (fun i hi => decide_eq_false (fun z => by omega)) _
    rw [show W + (32 - W) = 32 by omega] at e2
    rw [e1, e2]
    refine lcc_cg W (fun i hi => ?_)
    have e3 : wd M i 0 = G i 0 := ey.1 i hi 0 (by decide)
    rw [Bool.eq_iff_iff, decide_eq_true_eq, decide_eq_true_eq, e3]
    exact ⟨fun z => z.2, fun z => ⟨hi, z⟩⟩
  refine call_of rfl (Nat.le_of_ble_eq_true rfl) rfl (vC_count_0 rfl (cx4 c) (cxg c (10, 0, 70) (by decide)) g13 (lr2 (cxlr c)) ⟨fun q => sm 0 (by decide) q _ (fun _ => ?_) (fun z => by omega) (fun z => by omega) (fun z => by omega) (fun z => by omega), fun q => sJi_bitCount (fun r er => vC_count_54 (sm 1 (by decide) q _ (fun z => by omega) (fun _ => er.trans laws) (fun z => by omega) (fun z => by omega) (fun z => by omega))), fun q => sJi_bitCount (fun r er => vC_count_62 (sm 2 (by decide) q _ (fun z => by omega) (fun z => by omega) (fun _ => ?_) (fun z => by omega) (fun z => by omega))), fun q => sm 3 (by decide) q _ (fun z => by omega) (fun z => by omega) (fun z => by omega) (fun _ => ?_) (fun z => by omega), fun q => ⟨sa 0, s1, call_of rfl (Nat.le_of_ble_eq_true rfl) rfl (vSh_isNothing_0 s3 (vC_count_80 rfl g13 ⟨fun y => ⟨sa 0, s1, sm 4 (by decide) q _ (fun z => by omega) (fun z => by omega) (fun z => by omega) (fun z => by omega) (fun _ => ?_)⟩, fun y => sm 4 (by decide) q _ (fun z => by omega) (fun z => by omega) (fun z => by omega) (fun z => by omega) (fun _ => ?_)⟩))⟩, fun q => ⟨fun y => ?_, fun y => ?_, fun y => ?_⟩⟩)
  · rw [i.1.2.1, x6]; exact j.2.1.symm
  · rw [er, bc_co, x1]
  · rw [i.2.2.1.1]; exact i.2.2.1.2.2.1.symm
  · have ny : ¬ gi M (sa 0) 1 = -4 := fun z => by rw [if_pos z] at y; exact absurd y (by decide)
    rw [← b4, if_neg ny, b2, b3]
  · have yy : gi M (sa 0) 1 = -4 := by
      by_cases z : gi M (sa 0) 1 = -4
      · exact z
      · rw [if_neg z] at y; exact absurd rfl y
    rw [← b4, if_pos yy]
  · obtain ⟨k, hk, ek⟩ := rng (c := 18) (n := 18) rfl (by decide) (fun z => y.1 (Int32.lt_trans z (by decide))) y.2
    have q1 := y.1
    rw [ek] at q1 ⊢
    rw [show (10 : Int32) = nI 10 from rfl, nlt (by decide) (by omega)] at q1
    rw [show (10 : Int32) = nI 10 from rfl, nsub (by omega)]
    exact vin (by omega) (by decide)
  · refine n4 (fun z => absurd z q.1) (fun z => absurd z q.2.1) (fun z => absurd z q.2.2.1) (fun z => absurd z q.2.2.2.1) (fun z => absurd z q.2.2.2.2) (fun k hk z => ?_) (fun _ _ => rfl)
    exfalso
    rw [z, show (10 : Int32) = nI 10 from rfl, nlt (by decide) (by omega), show (18 : Int32) = nI 18 from rfl, nle (by omega) (by decide)] at y
    omega
  · obtain ⟨k, hk, ek⟩ := rng (c := 18) (n := 18) rfl (by decide) (fun z => y.1 (Int32.lt_trans z (by decide))) y.2
    have q1 := y.1
    rw [ek, show (10 : Int32) = nI 10 from rfl, nlt (by decide) (by omega)] at q1
    have es : v - 10 = nI (k - 10) := by rw [ek]; exact nsub (a := k) (b := 10) (by omega)
    rw [es, ncl (by omega)]
    refine n4 (fun z => absurd z q.1) (fun z => absurd z q.2.1) (fun z => absurd z q.2.2.1) (fun z => absurd z q.2.2.2.1) (fun z => absurd z q.2.2.2.2) (fun k' hk' z => ?_) (fun _ z => ?_)
    · have : k = 10 + k' := (ninj (by omega) (by omega)).mp (ek.symm.trans z)
      rw [show k - 10 = k' by omega]; exact x5 k' hk'
    · exfalso
      rw [ek, show (10 : Int32) = nI 10 from rfl, nlt (by omega) (by omega), show (17 : Int32) = nI 17 from rfl, nlt (by omega) (by omega)] at z
      omega
end EQZ
