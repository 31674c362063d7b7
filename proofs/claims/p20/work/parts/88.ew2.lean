/-! ===== the least bit of a long: the JDK's way and the reference's loop; sets of cases counted ===== -/
theorem nt_p : ∀ p, p < 32 → nt1 (Int32.ofNat (2 ^ p - 1)) = nI p := by decide +kernel
theorem ones_b : ∀ p, p < 32 → ∀ i, i < 32 → bt (Int32.ofNat (2 ^ p - 1)) i = decide (i < p) := by decide +kernel
theorem btn (x : Int32) (i : Nat) : bt x i = (tN x).testBit i := rfl
theorem lbn (x : Int64) (i : Nat) : lb x i = (tL x).testBit i := rfl
theorem lsb_n {x p : Nat} (h0 : ∀ j, j < p → x.testBit j = false) (h1 : x.testBit p = true) (i : Nat) : ((!x.testBit i) && (x - 1).testBit i) = decide (i < p) := by
  have e0 : x % 2 ^ p = 0 := by
    refine Nat.eq_of_testBit_eq (fun j => ?_)
    rw [Nat.testBit_mod_two_pow, Nat.zero_testBit]
    by_cases q : j < p
    · rw [h0 j q, Bool.and_false]
    · rw [decide_eq_false q, Bool.false_and]
  have o1 : x / 2 ^ p % 2 = 1 := by
    rw [Nat.testBit_eq_decide_div_mod_eq, decide_eq_true_eq] at h1
    exact h1
  obtain ⟨k, hk⟩ : ∃ k, x / 2 ^ p = 2 * k + 1 := ⟨x / 2 ^ p / 2, by omega⟩
  have hp : 0 < 2 ^ p := Nat.two_pow_pos p
  have ex : x = 2 ^ p * (2 * k + 1) + 0 := by
    have := Nat.div_add_mod x (2 ^ p)
    rw [e0, hk] at this
    exact this.symm
  have ey : x - 1 = 2 ^ p * (2 * k) + (2 ^ p - 1) := by
    rw [Nat.mul_add, Nat.mul_one] at ex
    omega
  rw [ey]
  conv => lhs; rw [ex]
  rw [Nat.testBit_two_pow_mul_add _ hp, Nat.testBit_two_pow_mul_add _ (by omega)]
  by_cases q : i < p
  · rw [if_pos q, if_pos q, Nat.zero_testBit, Nat.testBit_two_pow_sub_one, decide_eq_true q]; rfl
  · rw [if_neg q, if_neg q, decide_eq_false q]
    generalize i - p = j
    match j with
    | 0 =>
      rw [Nat.testBit_zero, Nat.testBit_zero, decide_eq_true (show (2 * k + 1) % 2 = 1 by omega)]; rfl
    | j + 1 =>
      rw [Nat.testBit_succ, Nat.testBit_succ, show (2 * k + 1) / 2 = k by omega, show 2 * k / 2 = k by omega]
      cases k.testBit j <;> rfl
theorem ntz_p {v : Int32} {p : Nat} (hp : p < 32) (h0 : ∀ j, j < p → bt v j = false) (h1 : bt v p = true) : ntz v = nI p := by
  have nz : 1 ≤ tN v := by
    have z : ¬ tN v = 0 := fun z => by
      rw [btn, z, Nat.zero_testBit] at h1
      exact absurd h1 (by decide)
    omega
  have t1 : tN (1 : Int32) = 1 := by decide +kernel
  have e : ((v ^^^ (-1)) &&& (v - 1)) = Int32.ofNat (2 ^ p - 1) := by
    refine b_ext (fun i hi => ?_)
    rw [b_and, b_not _ hi, ones_b p hp i hi, btn (v - 1), tN_sub (by rw [t1]; exact nz), t1, btn v]
    exact lsb_n (fun j hj => h0 j hj) h1 i
  unfold ntz
  rw [e]
  exact nt_p p hp
theorem lo_b (v : Int64) {i : Nat} (hi : i < 32) : bt v.toInt32 i = lb v i := by
  rw [btn, lbn, tN_32, Nat.testBit_mod_two_pow, decide_eq_true hi, Bool.true_and]
theorem hi_b (v : Int64) {i : Nat} (hi : i < 32) : bt (lushr v (32 : Int32)).toInt32 i = lb v (i + 32) := by
  have u : tL (lushr v (32 : Int32)) = tL v / 2 ^ 32 := tL_ushr v (k := 32) (by decide)
  rw [btn, lbn, tN_32, Nat.testBit_mod_two_pow, decide_eq_true hi, Bool.true_and, u, Nat.testBit_div_two_pow]
theorem n32 : ∀ p, p < 32 → 32 + nI p = nI (p + 32) := by decide +kernel
theorem ntl_p {v : Int64} {p : Nat} (hp : p < 64) (h0 : ∀ j, j < p → lb v j = false) (h1 : lb v p = true) : ntl v = nI p := by
  unfold ntl
  by_cases q : v.toInt32 = 0
  · have l : ¬ p < 32 := fun z => by
      have := lo_b v z
      rw [q, b_0, h1] at this
      exact absurd this (by decide)
    rw [if_pos q, ntz_p (p := p - 32) (by omega) (fun j hj => by rw [hi_b v (by omega)]; exact h0 _ (by omega)) (by rw [hi_b v (by omega), show p - 32 + 32 = p by omega]; exact h1), n32 _ (by omega), show p - 32 + 32 = p by omega]
  · rw [if_neg q]
    have l : p < 32 := by
      obtain ⟨i, hi, e⟩ := nz_b.mp q
      rw [lo_b v hi] at e
      have : ¬ i < p := fun z => by rw [h0 i z] at e; exact absurd e (by decide)
      omega
    exact ntz_p l (fun j hj => by rw [lo_b v (by omega)]; exact h0 j hj) (by rw [lo_b v l]; exact h1)
/-- the first of some cases from 64 - r on -/
def fsp (p : Nat → Bool) : Nat → Int32
  | 0 => -4
  | r + 1 => if p (63 - r) = true then nI (63 - r) else fsp p r
/-- how many of the first k -/
def nbp (p : Nat → Bool) : Nat → Int32
  | 0 => 0
  | k + 1 => nbp p k + (if p k = true then 1 else 0)
theorem ffo_p (v : Int64) : ∀ r, r ≤ 64 → ffo v r = fsp (lb v) r
  | 0, _ => rfl
  | r + 1, hr => by
    rw [ffo, fsp, ffo_p v r (by omega)]
    have b := lbit v (c := 63 - r) (by omega)
    by_cases q : lb v (63 - r) = true
    · rw [if_pos q, if_neg (fun z => by rw [b.mpr q] at z; exact absurd z (by decide))]
    · rw [if_neg q]
      have qf : lb v (63 - r) = false := by simpa using q
      have e0 : ((v >>> ((nI (63 - r)).toInt64 &&& 63)) &&& 1) = 0 := by
        refine l_ext (fun j hj => ?_)
        rw [l_and, l_1 j hj, l_0]
        by_cases ej : j = 0
        · subst ej
          rw [l_shr (63 - r) (by omega), qf]; rfl
        · rw [decide_eq_false ej, Bool.and_false]
      rw [if_pos e0]
theorem mo_p (v : Int64) : ∀ k, k ≤ 64 → mo v k = nbp (lb v) k
  | 0, _ => rfl
  | k + 1, hk => by
    rw [mo, nbp, mo_p v k (by omega)]
    have b := lbit v (c := k) (by omega)
    by_cases q : lb v k = true
    · rw [if_pos q, b.mpr q]; rfl
    · rw [if_neg q]
      have qf : lb v k = false := by simpa using q
      have e0 : ((v >>> ((nI k).toInt64 &&& 63)) &&& 1) = 0 := by
        refine l_ext (fun j hj => ?_)
        rw [l_and, l_1 j hj, l_0]
        by_cases ej : j = 0
        · subst ej
          rw [l_shr k (by omega), qf]; rfl
        · rw [decide_eq_false ej, Bool.and_false]
      rw [e0]; rfl
theorem nbp_cg {p q : Nat → Bool} : ∀ k, (∀ c, c < k → p c = q c) → nbp p k = nbp q k
  | 0, _ => rfl
  | k + 1, h => by rw [nbp, nbp, nbp_cg k (fun c hc => h c (by omega)), h k (by omega)]
theorem fsp_cg {p q : Nat → Bool} : ∀ r, r ≤ 64 → (∀ c, c < 64 → p c = q c) → fsp p r = fsp q r
  | 0, _, _ => rfl
  | r + 1, hr, h => by rw [fsp, fsp, fsp_cg r (by omega) h, h (63 - r) (by omega)]
theorem nbp_n (p : Nat → Bool) : ∀ k, ∃ n, n ≤ k ∧ nbp p k = nI n
  | 0 => ⟨0, by omega, rfl⟩
  | k + 1 => by
    obtain ⟨n, hn, e⟩ := nbp_n p k
    rw [nbp, e]
    by_cases q : p k = true
    · rw [if_pos q]; exact ⟨n + 1, by omega, nI_s n⟩
    · rw [if_neg q]; exact ⟨n, by omega, by rw [Int32.add_zero]⟩
/-- the first one is the least -/
theorem fsp_least {p : Nat → Bool} {c : Nat} (hc : c < 64) (h0 : ∀ j, j < c → p j = false) (h1 : p c = true) : ∀ r, r ≤ 64 → 64 - r ≤ c → fsp p r = nI c
  | 0, _, h => absurd h (by omega)
  | r + 1, hr, h => by
    rw [fsp]
    by_cases e : 63 - r = c
    · rw [e, if_pos h1]
    · rw [h0 (63 - r) (by omega), if_neg (by decide)]
      exact fsp_least hc h0 h1 r (by omega) (by omega)
theorem fsp_none {p : Nat → Bool} (h : ∀ c, c < 64 → p c = false) : ∀ r, r ≤ 64 → fsp p r = -4
  | 0, _ => rfl
  | r + 1, hr => by rw [fsp, h (63 - r) (by omega), if_neg (by decide)]; exact fsp_none h r (by omega)
theorem first_ex {p : Nat → Bool} : ∀ n, (∃ c, c < n ∧ p c = true) → ∃ c, c < n ∧ p c = true ∧ ∀ j, j < c → p j = false
  | 0, ⟨_, h, _⟩ => absurd h (by omega)
  | n + 1, ⟨c, hc, e⟩ => by
    by_cases q : ∃ c, c < n ∧ p c = true
    · obtain ⟨d, hd, h⟩ := first_ex n q
      exact ⟨d, by omega, h⟩
    · have nf : ∀ j, j < n → p j = false := fun j hj => by
        cases z : p j
        · rfl
        · exact absurd ⟨j, hj, z⟩ q
      have ec : c = n := by
        by_cases z : c < n
        · rw [nf c z] at e; exact absurd e (by decide)
        · omega
      exact ⟨n, by omega, by rw [← ec]; exact e, nf⟩
/-- the least case as the class tells it -/
def lstC (v : Int64) : Int32 := if v = 0 then -4 else ntl v
theorem lstC_p (v : Int64) : lstC v = fsp (lb v) 64 := by
  unfold lstC
  by_cases q : v = 0
  · rw [if_pos q, fsp_none (fun c _ => by rw [q]; exact l_0 c) 64 (Nat.le_refl _)]
  · rw [if_neg q]
    have ex : ∃ c, c < 64 ∧ lb v c = true := by
      by_cases z : ∃ c, c < 64 ∧ lb v c = true
      · exact z
      · refine absurd (l_ext (fun c hc => ?_)) q
        rw [l_0]
        cases y : lb v c
        · rfl
        · exact absurd ⟨c, hc, y⟩ z
    obtain ⟨c, hc, h1, h0⟩ := first_ex 64 ex
    rw [ntl_p hc h0 h1, fsp_least hc h0 h1 64 (Nat.le_refl _) (by omega)]
theorem bcl_p (v : Int64) : bc64 v = nbp (lb v) 64 := (bcl_mo v).trans (mo_p v 64 (Nat.le_refl _))
/-- the way down comes to the same -/
def nq (H W : Nat → Int32) (c : Nat) : Bool := decide (¬ H c = W c)
theorem cnt_dn (H W : Nat → Int32) : ∀ j, j ≤ 64 → nbp (nq H W) (64 - j) + cnt H W j = nbp (nq H W) 64
  | 0, _ => Int32.add_zero _
  | j + 1, hj => by
    have ih := cnt_dn H W j (by omega)
    rw [show 64 - j = (64 - (j + 1)) + 1 by omega, nbp] at ih
    rw [cnt, ← ih, show 63 - j = 64 - (j + 1) by omega]
    have e : (if H (64 - (j + 1)) = W (64 - (j + 1)) then (0 : Int32) else 1) = if nq H W (64 - (j + 1)) = true then 1 else 0 := by
      unfold nq
      by_cases q : H (64 - (j + 1)) = W (64 - (j + 1))
      · rw [if_pos q, decide_eq_false (fun z => z q), if_neg (by decide)]
      · rw [if_neg q, decide_eq_true q, if_pos rfl]
    rw [e]
    generalize (if nq H W (64 - (j + 1)) = true then (1 : Int32) else 0) = t
    generalize nbp (nq H W) (64 - (j + 1)) = a
    generalize cnt H W j = b
    rw [Int32.add_assoc, Int32.add_comm t b]
theorem cnt_p (H W : Nat → Int32) : cnt H W 64 = nbp (nq H W) 64 := by
  have := cnt_dn H W 64 (Nat.le_refl _)
  rw [show nbp (nq H W) (64 - 64) = 0 from rfl, Int32.zero_add] at this
  exact this
theorem fst_least {H W : Nat → Int32} {c : Nat} (hc : c < 64) (h0 : ∀ j, j < c → nq H W j = false) (h1 : nq H W c = true) : ∀ j, j ≤ 64 → 64 - j ≤ c → fst H W j = nI c
  | 0, _, h => absurd h (by omega)
  | j + 1, hj, h => by
    rw [fst]
    by_cases e : 63 - j = c
    · rw [e, if_neg (of_decide_eq_true h1)]
    · have := h0 (63 - j) (by omega)
      have q : H (63 - j) = W (63 - j) := by
        by_cases z : H (63 - j) = W (63 - j)
        · exact z
        · exact absurd (decide_eq_true z) (by rw [show decide (¬ H (63 - j) = W (63 - j)) = false from this]; decide)
      rw [if_pos q]
      exact fst_least hc h0 h1 j (by omega) (by omega)
theorem fst_none {H W : Nat → Int32} (h : ∀ c, c < 64 → nq H W c = false) : ∀ j, j ≤ 64 → fst H W j = -4
  | 0, _ => rfl
  | j + 1, hj => by
    have := h (63 - j) (by omega)
    have q : H (63 - j) = W (63 - j) := by
      by_cases z : H (63 - j) = W (63 - j)
      · exact z
      · exact absurd (decide_eq_true z) (by rw [show decide (¬ H (63 - j) = W (63 - j)) = false from this]; decide)
    rw [fst, if_pos q]
    exact fst_none h j (by omega)
theorem fst_p (H W : Nat → Int32) : fst H W 64 = fsp (nq H W) 64 := by
  by_cases z : ∃ c, c < 64 ∧ nq H W c = true
  · obtain ⟨c, hc, h1, h0⟩ := first_ex 64 z
    rw [fst_least hc h0 h1 64 (Nat.le_refl _) (by omega), fsp_least hc h0 h1 64 (Nat.le_refl _) (by omega)]
  · have h : ∀ c, c < 64 → nq H W c = false := fun c hc => by
      cases y : nq H W c
      · rfl
      · exact absurd ⟨c, hc, y⟩ z
    rw [fst_none h 64 (Nat.le_refl _), fsp_none h 64 (Nat.le_refl _)]
/-- many or the least, as the class tells -/
theorem eC_least {M : Mm} {v : Int64} {K : Int32 → Mm → Prop} (h : K (lstC v) M) : CI mC_least [.long v] M K := by
  unfold lstC at h
  refine call_of rfl (Nat.le_of_ble_eq_true rfl) rfl (vC_least_0 ⟨fun q => sJl_ntz (vC_least_15 ?_), fun q => ?_⟩)
  · rw [if_neg q] at h; exact h
  · rw [if_pos q] at h; exact h
theorem eC_manyOrLeast {M : Mm} {v : Int64} {w : Int32} {K : Int32 → Mm → Prop} (h : K (if w = 0 then nbp (lb v) 64 else fsp (lb v) 64) M) : CI mC_manyOrLeast [.long v, .int w] M K := by
  refine call_of rfl (Nat.le_of_ble_eq_true rfl) rfl (vC_manyOrLeast_0 ⟨fun q => eC_least (vC_manyOrLeast_15 ?_), fun q => sJl_bitCount (fun r er => vC_manyOrLeast_8 ?_)⟩)
  · rw [if_neg q] at h; rw [lstC_p]; exact h
  · rw [if_pos q] at h; rw [er, bcl_p]; exact h
