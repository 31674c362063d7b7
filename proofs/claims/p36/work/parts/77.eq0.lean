/-! ===== bits counted: the JDK's way and the reference's loop ===== -/
theorem land_d (d a m b : Nat) (hd : d < 256) (hm : m < 256) : (d + 256 * a) &&& (m + 256 * b) = (d &&& m) + 256 * (a &&& b) := by
  have e1 : d + 256 * a = 2 ^ 8 * a + d := by omega
  have e2 : m + 256 * b = 2 ^ 8 * b + m := by omega
  have e3 : (d &&& m) + 256 * (a &&& b) = 2 ^ 8 * (a &&& b) + (d &&& m) := by omega
  have hdm : (d &&& m) < 2 ^ 8 := Nat.and_lt_two_pow d hm
  rw [e1, e2, e3]
  refine Nat.eq_of_testBit_eq (fun j => ?_)
  rw [Nat.testBit_and, Nat.testBit_two_pow_mul_add _ hd, Nat.testBit_two_pow_mul_add _ hm, Nat.testBit_two_pow_mul_add _ hdm]
  by_cases h : j < 8
  · rw [if_pos h, if_pos h, if_pos h, Nat.testBit_and]
  · rw [if_neg h, if_neg h, if_neg h, Nat.testBit_and]
def d4 (a b c d : Nat) : Nat := a + 256 * (b + 256 * (c + 256 * d))
theorem land_4 {a b c d a' b' c' d' : Nat} (h1 : a < 256) (h2 : b < 256) (h3 : c < 256) (k1 : a' < 256) (k2 : b' < 256) (k3 : c' < 256) : d4 a b c d &&& d4 a' b' c' d' = d4 (a &&& a') (b &&& b') (c &&& c') (d &&& d') := by
  unfold d4
  rw [land_d _ _ _ _ h1 k1, land_d _ _ _ _ h2 k2, land_d _ _ _ _ h3 k3]
def pc8 (d : Nat) : Nat := d % 2 + d / 2 % 2 + d / 4 % 2 + d / 8 % 2 + d / 16 % 2 + d / 32 % 2 + d / 64 % 2 + d / 128 % 2
def pw1 (d : Nat) : Nat := d - (d / 2 &&& 85)
def pw2 (d : Nat) : Nat := (d &&& 51) + (d / 4 &&& 51)
def pw3 (d : Nat) : Nat := d % 16 + d / 16
theorem by1 : ∀ d, d < 256 → ∀ e, e < 2 → (d / 2 + 128 * e &&& 85) = (d / 2 &&& 85) ∧ (d / 2 &&& 85) ≤ d := by decide +kernel
theorem by2 : ∀ d, d < 256 → ∀ e, e < 4 → (d / 4 + 64 * e &&& 51) = (d / 4 &&& 51) := by decide +kernel
theorem by3 : ∀ d, d < 256 → pw1 d < 256 ∧ pw2 (pw1 d) < 256 ∧ pw2 (pw1 d) % 16 ≤ 4 ∧ pw2 (pw1 d) / 16 ≤ 4 ∧ pw3 (pw2 (pw1 d)) = pc8 d ∧ pc8 d ≤ 8 ∧ (pw1 d &&& 51) ≤ 51 ∧ (pw1 d / 4 &&& 51) ≤ 51 := by decide +kernel
theorem by4 : ∀ x, x < 137 → x % 16 < 9 → (x &&& 15) = x % 16 := by decide +kernel
theorem pn1 (a b c d : Nat) (ha : a < 256) (hb : b < 256) (hc : c < 256) (hd : d < 256) : d4 a b c d - (d4 a b c d / 2 &&& 1431655765) = d4 (pw1 a) (pw1 b) (pw1 c) (pw1 d) ∧ (d4 a b c d / 2 &&& 1431655765) ≤ d4 a b c d := by
  have e : d4 a b c d / 2 = d4 (a / 2 + 128 * (b % 2)) (b / 2 + 128 * (c % 2)) (c / 2 + 128 * (d % 2)) (d / 2) := by unfold d4; omega
  have m : (1431655765 : Nat) = d4 85 85 85 85 := rfl
  rw [e, m, land_4 (by omega) (by omega) (by omega) (by decide) (by decide) (by decide), (by1 a ha _ (Nat.mod_lt _ (by decide))).1, (by1 b hb _ (Nat.mod_lt _ (by decide))).1, (by1 c hc _ (Nat.mod_lt _ (by decide))).1]
  have l1 := (by1 a ha 0 (by decide)).2
  have l2 := (by1 b hb 0 (by decide)).2
  have l3 := (by1 c hc 0 (by decide)).2
  have l4 := (by1 d hd 0 (by decide)).2
  unfold d4 pw1
  generalize (a / 2 &&& 85) = x1 at *
  generalize (b / 2 &&& 85) = x2 at *
  generalize (c / 2 &&& 85) = x3 at *
  generalize (d / 2 &&& 85) = x4 at *
  omega
theorem pn2 (a b c d : Nat) (ha : a < 256) (hb : b < 256) (hc : c < 256) (hd : d < 256) : (d4 a b c d &&& 858993459) + (d4 a b c d / 4 &&& 858993459) = d4 (pw2 a) (pw2 b) (pw2 c) (pw2 d) := by
  have e : d4 a b c d / 4 = d4 (a / 4 + 64 * (b % 4)) (b / 4 + 64 * (c % 4)) (c / 4 + 64 * (d % 4)) (d / 4) := by unfold d4; omega
  have m : (858993459 : Nat) = d4 51 51 51 51 := rfl
  rw [e, m, land_4 ha hb hc (by decide) (by decide) (by decide), land_4 (by omega) (by omega) (by omega) (by decide) (by decide) (by decide), by2 a ha _ (Nat.mod_lt _ (by decide)), by2 b hb _ (Nat.mod_lt _ (by decide)), by2 c hc _ (Nat.mod_lt _ (by decide))]
  unfold d4 pw2
  omega
theorem pn3 (a b c d : Nat) (ha : a % 16 ≤ 4 ∧ a / 16 ≤ 4) (hb : b % 16 ≤ 4 ∧ b / 16 ≤ 4) (hc : c % 16 ≤ 4 ∧ c / 16 ≤ 4) (hd : d % 16 ≤ 4 ∧ d / 16 ≤ 4) : (d4 a b c d + d4 a b c d / 16 &&& 252645135) = d4 (pw3 a) (pw3 b) (pw3 c) (pw3 d) ∧ d4 a b c d + d4 a b c d / 16 < 2 ^ 32 := by
  have e : d4 a b c d + d4 a b c d / 16 = d4 (a + a / 16 + 16 * (b % 16)) (b + b / 16 + 16 * (c % 16)) (c + c / 16 + 16 * (d % 16)) (d + d / 16) := by unfold d4; omega
  have m : (252645135 : Nat) = d4 15 15 15 15 := rfl
  have f : ∀ x y, x % 16 ≤ 4 ∧ x / 16 ≤ 4 → y ≤ 4 → (x + x / 16 + 16 * y &&& 15) = pw3 x := by
    intro x y hx hy
    have e : x + x / 16 + 16 * y = 16 * (x / 16 + y) + (x % 16 + x / 16) := by omega
    have em : (x + x / 16 + 16 * y) % 16 = x % 16 + x / 16 := by rw [e, Nat.mul_add_mod, Nat.mod_eq_of_lt (by omega)]
    rw [by4 _ (by omega) (by rw [em]; omega), em]
    rfl
  have f0 := f d 0 hd (by decide)
  rw [Nat.mul_zero, Nat.add_zero] at f0
  refine ⟨?_, by unfold d4; omega⟩
  rw [e, m, land_4 (by omega) (by omega) (by omega) (by decide) (by decide) (by decide), f a _ ha hb.1, f b _ hb hc.1, f c _ hc hd.1, f0]
theorem pn4 (a b c d : Nat) (ha : a ≤ 8) (hb : b ≤ 8) (hc : c ≤ 8) (hd : d ≤ 8) : ((d4 a b c d + d4 a b c d / 256) + (d4 a b c d + d4 a b c d / 256) / 65536) % 64 = a + b + c + d ∧ d4 a b c d + d4 a b c d / 256 < 2 ^ 32 ∧ (d4 a b c d + d4 a b c d / 256) + (d4 a b c d + d4 a b c d / 256) / 65536 < 2 ^ 32 := by
  have e1 : d4 a b c d / 256 = b + 256 * c + 65536 * d := by unfold d4; omega
  have e0 : d4 a b c d = a + 256 * b + 65536 * c + 16777216 * d := by unfold d4; omega
  have e2 : d4 a b c d + d4 a b c d / 256 = (a + b) + 256 * (b + c) + 65536 * ((c + d) + 256 * d) := by rw [e1, e0]; omega
  have e3 : (d4 a b c d + d4 a b c d / 256) / 65536 = (c + d) + 256 * d := by rw [e2]; omega
  rw [e3, e2]
  refine ⟨?_, by omega, by omega⟩
  have e4 : (a + b) + 256 * (b + c) + 65536 * ((c + d) + 256 * d) + ((c + d) + 256 * d) = 64 * (4 * (b + c) + 1024 * ((c + d) + 256 * d) + 4 * d) + (a + b + c + d) := by omega
  rw [e4, Nat.mul_add_mod, Nat.mod_eq_of_lt (by omega)]
/-- as numbers -/
def tN (x : Int32) : Nat := x.toBitVec.toNat
theorem tN_lt (x : Int32) : tN x < 2 ^ 32 := x.toBitVec.isLt
theorem tN_and (x y : Int32) : tN (x &&& y) = tN x &&& tN y := by unfold tN; rw [Int32.toBitVec_and, BitVec.toNat_and]
theorem tN_add {x y : Int32} (h : tN x + tN y < 2 ^ 32) : tN (x + y) = tN x + tN y := by
  unfold tN at h ⊢
  rw [Int32.toBitVec_add, BitVec.toNat_add, Nat.mod_eq_of_lt h]
theorem tN_sub {x y : Int32} (h : tN y ≤ tN x) : tN (x - y) = tN x - tN y := by
  have l := tN_lt x
  unfold tN at h l ⊢
  rw [Int32.toBitVec_sub, BitVec.toNat_sub]
  omega
theorem tN_ushr (x : Int32) {k : Nat} (hk : k < 32) : tN (ushr x (nI k)) = tN x / 2 ^ k := by
  show (x.toUInt32 >>> ((nI k).toUInt32 &&& Int32.toUInt32 31)).toBitVec.toNat = x.toUInt32.toBitVec.toNat / 2 ^ k
  rw [UInt32.toBitVec_shiftRight]
  show (x.toUInt32.toBitVec >>> (((nI k).toUInt32 &&& Int32.toUInt32 31).toBitVec % 32).toNat).toNat = _
  rw [s_u k hk, BitVec.toNat_ushiftRight, Nat.shiftRight_eq_div_pow]
theorem tN_inj {x y : Int32} (h : tN x = tN y) : x = y := Int32.toBitVec_inj.mp (BitVec.eq_of_toNat_eq h)
/-- the JDK's count of bits is the sum over the four bytes -/
theorem bc_sum (v : Int32) {a b c d : Nat} (ha : a < 256) (hb : b < 256) (hc : c < 256) (hd : d < 256) (e : tN v = d4 a b c d) : tN (bc32 v) = pc8 a + pc8 b + pc8 c + pc8 d := by
  obtain ⟨a1, a2, a3, a4, a5, a6, -⟩ := by3 a ha
  obtain ⟨b1, b2, b3, b4, b5, b6, -⟩ := by3 b hb
  obtain ⟨c1, c2, c3, c4, c5, c6, -⟩ := by3 c hc
  obtain ⟨d1, d2, d3, d4', d5, d6, -⟩ := by3 d hd
  obtain ⟨p1, p1'⟩ := pn1 a b c d ha hb hc hd
  have m1 : tN (1431655765 : Int32) = 1431655765 := by decide +kernel
  have m2 : tN (858993459 : Int32) = 858993459 := by decide +kernel
  have m3 : tN (252645135 : Int32) = 252645135 := by decide +kernel
  have m4 : tN (63 : Int32) = 63 := by decide +kernel
  have u1 : ∀ x : Int32, tN (ushr x 1) = tN x / 2 := fun x => tN_ushr x (k := 1) (by decide)
  have u2 : ∀ x : Int32, tN (ushr x 2) = tN x / 4 := fun x => tN_ushr x (k := 2) (by decide)
  have u4 : ∀ x : Int32, tN (ushr x 4) = tN x / 16 := fun x => tN_ushr x (k := 4) (by decide)
  have u8 : ∀ x : Int32, tN (ushr x 8) = tN x / 256 := fun x => tN_ushr x (k := 8) (by decide)
  have u16 : ∀ x : Int32, tN (ushr x 16) = tN x / 65536 := fun x => tN_ushr x (k := 16) (by decide)
  unfold bc32
  generalize e1 : v - ((ushr v 1) &&& 1431655765) = y1
  have t1 : tN y1 = d4 (pw1 a) (pw1 b) (pw1 c) (pw1 d) := by
    rw [← e1, tN_sub (by rw [tN_and, u1, m1, e]; exact p1'), tN_and, u1, m1, e]; exact p1
  generalize e2 : (y1 &&& 858993459) + ((ushr y1 2) &&& 858993459) = y2
  have q2 := pn2 (pw1 a) (pw1 b) (pw1 c) (pw1 d) a1 b1 c1 d1
  have t2 : tN y2 = d4 (pw2 (pw1 a)) (pw2 (pw1 b)) (pw2 (pw1 c)) (pw2 (pw1 d)) := by
    have s : tN (y1 &&& 858993459) + tN ((ushr y1 2) &&& 858993459) = d4 (pw2 (pw1 a)) (pw2 (pw1 b)) (pw2 (pw1 c)) (pw2 (pw1 d)) := by
      rw [tN_and, tN_and, u2, m2, t1]; exact q2
    rw [← e2, tN_add (by rw [s]; unfold d4; omega), s]
  generalize e3 : (y2 + (ushr y2 4)) &&& 252645135 = y3
  obtain ⟨q3, q3'⟩ := pn3 (pw2 (pw1 a)) (pw2 (pw1 b)) (pw2 (pw1 c)) (pw2 (pw1 d)) ⟨a3, a4⟩ ⟨b3, b4⟩ ⟨c3, c4⟩ ⟨d3, d4'⟩
  have t3 : tN y3 = d4 (pc8 a) (pc8 b) (pc8 c) (pc8 d) := by
    rw [← e3, tN_and, m3, tN_add (by rw [u4, t2]; exact q3'), u4, t2, q3, a5, b5, c5, d5]
  obtain ⟨q4, q5, q6⟩ := pn4 (pc8 a) (pc8 b) (pc8 c) (pc8 d) a6 b6 c6 d6
  have t4 : tN (y3 + ushr y3 8) = d4 (pc8 a) (pc8 b) (pc8 c) (pc8 d) + d4 (pc8 a) (pc8 b) (pc8 c) (pc8 d) / 256 := by
    rw [tN_add (by rw [u8, t3]; exact q5), u8, t3]
  rw [tN_and, m4, tN_add (by rw [u16, t4]; exact q6), u16, t4, show (63 : Nat) = 2 ^ 6 - 1 from rfl, Nat.and_two_pow_sub_one_eq_mod]
  exact q4
def sbt (n : Nat) : Nat → Nat
  | 0 => 0
  | k + 1 => sbt n k + n / 2 ^ k % 2
theorem sbt_le (n : Nat) : ∀ k, sbt n k ≤ k
  | 0 => Nat.le_refl 0
  | k + 1 => by
    rw [sbt]
    have := sbt_le n k
    have := Nat.mod_lt (n / 2 ^ k) (show 0 < 2 by decide)
    omega
theorem sbt_8 (a r : Nat) (ha : a < 256) : sbt (a + 256 * r) 8 = pc8 a := by
  unfold pc8
  simp only [sbt, Nat.reducePow, Nat.div_one, Nat.zero_add]
  omega
theorem sbt_s (a r : Nat) (ha : a < 256) : ∀ j, sbt (a + 256 * r) (8 + j) = pc8 a + sbt r j
  | 0 => by rw [Nat.add_zero, sbt_8 a r ha, sbt, Nat.add_zero]
  | j + 1 => by
    rw [← Nat.add_assoc, sbt, sbt_s a r ha j, sbt, Nat.pow_add, ← Nat.div_div_eq_div_mul, show (a + 256 * r) / 2 ^ 8 = r by omega, Nat.add_assoc]
theorem sbt_32 {a b c d : Nat} (ha : a < 256) (hb : b < 256) (hc : c < 256) (hd : d < 256) : sbt (d4 a b c d) 32 = pc8 a + pc8 b + pc8 c + pc8 d := by
  unfold d4
  have e1 := sbt_s a (b + 256 * (c + 256 * d)) ha 24
  have e2 := sbt_s b (c + 256 * d) hb 16
  have e3 := sbt_s c d hc 8
  have e4 := sbt_8 d 0 hd
  rw [Nat.mul_zero, Nat.add_zero] at e4
  have f1 : sbt (a + 256 * (b + 256 * (c + 256 * d))) 32 = pc8 a + sbt (b + 256 * (c + 256 * d)) 24 := e1
  have f2 : sbt (b + 256 * (c + 256 * d)) 24 = pc8 b + sbt (c + 256 * d) 16 := e2
  have f3 : sbt (c + 256 * d) 16 = pc8 c + sbt d 8 := e3
  rw [f1, f2, f3, e4]
  omega
theorem bt_n (v : Int32) (k : Nat) : bt v k = true ↔ tN v / 2 ^ k % 2 = 1 := by
  unfold bt tN
  rw [← BitVec.testBit_toNat, Nat.testBit_eq_decide_div_mod_eq, decide_eq_true_eq]
theorem bit0' (x : Int32) {m : Nat} (h : m < 32) (n : ¬ bt x m = true) : ((x >>> (nI m &&& 31)) &&& 1) = 0 := by
  refine b_ext (fun i hi => ?_)
  rw [b_and, b_1 i hi, b_0]
  by_cases e : i = 0
  · subst e
    have nf : bt x m = false := by simpa using n
    rw [b_sshr m h x (by decide), if_pos (by omega), Nat.add_zero, nf]; rfl
  · rw [decide_eq_false e, Bool.and_false]
theorem co_sum (v : Int32) : ∀ k, k ≤ 32 → tN (co v k) = sbt (tN v) k
  | 0, _ => show tN 0 = 0 from by decide +kernel
  | k + 1, hk => by
    have ih := co_sum v k (by omega)
    have le := sbt_le (tN v) k
    have t1 : tN (1 : Int32) = 1 := by decide +kernel
    have t0 : tN (0 : Int32) = 0 := by decide +kernel
    have m2 := Nat.mod_lt (tN v / 2 ^ k) (show 0 < 2 by decide)
    have e : tN ((v >>> (nI k &&& 31)) &&& 1) = tN v / 2 ^ k % 2 := by
      by_cases q : bt v k = true
      · rw [(bit1 v (by omega)).mpr q, t1, (bt_n v k).mp q]
      · have n1 : ¬ tN v / 2 ^ k % 2 = 1 := fun z => q ((bt_n v k).mpr z)
        rw [bit0' v (by omega) q, t0]
        omega
    rw [co, sbt, tN_add (by rw [ih, e]; omega), ih, e]
/-- the two counts are the same -/
theorem bc_co (v : Int32) : bc32 v = co v 32 := by
  have l := tN_lt v
  have e : tN v = d4 (tN v % 256) (tN v / 256 % 256) (tN v / 65536 % 256) (tN v / 16777216) := by unfold d4; omega
  refine tN_inj ?_
  rw [bc_sum v (by omega) (by omega) (by omega) (by omega) e, co_sum v 32 (Nat.le_refl _)]
  conv => rhs; rw [e]
  rw [sbt_32 (by omega) (by omega) (by omega) (by omega)]
