section MG41
/-! ===== bits counted: the JDK's way and the reference's loop ===== -/
theorem land_d (d a m b : Nat) (hd : d < 256) (hm : m < 256) : (d + 256 * a) &&& (m + 256 * b) = (d &&& m) + 256 * (a &&& b) := by
  have e1 : d + 256 * a = 2 ^ 8 * a + d := by omega
  have e2 : m + 256 * b = 2 ^ 8 * b + m := by omega
  have e3 : (d &&& m) + 256 * (a &&& b) = 2 ^ 8 * (a &&& b) + (d &&& m) := by omega
  have hdm : (d &&& m) < 2 ^ 8 := Nat.and_lt_two_pow d hm
  rw [e1, e2, e3]
  refine Nat.eq_of_testBit_eq (fun j => ?_)
  rw [Nat.testBit_and, Nat.testBit_two_pow_mul_add _ hd, Nat.testBit_two_pow_mul_add _ hm, Nat.testBit_two_pow_mul_add _ hdm]
  by_cases h : j < 8
  · rw [if_pos h, if_pos h, if_pos h, Nat.testBit_and]
  · rw [if_neg h, if_neg h, if_neg h, Nat.testBit_and]
def d4 (a b c d : Nat) : Nat := a + 256 * (b + 256 * (c + 256 * d))
theorem land_4 {a b c d a' b' c' d' : Nat} (h1 : a < 256) (h2 : b < 256) (h3 : c < 256) (k1 : a' < 256) (k2 : b' < 256) (k3 : c' < 256) : d4 a b c d &&& d4 a' b' c' d' = d4 (a &&& a') (b &&& b') (c &&& c') (d &&& d') := by
  unfold d4
  rw [land_d _ _ _ _ h1 k1, land_d _ _ _ _ h2 k2, land_d _ _ _ _ h3 k3]
def pc8 (d : Nat) : Nat := d % 2 + d / 2 % 2 + d / 4 % 2 + d / 8 % 2 + d / 16 % 2 + d / 32 % 2 + d / 64 % 2 + d / 128 % 2
def pw1 (d : Nat) : Nat := d - (d / 2 &&& 85)
def pw2 (d : Nat) : Nat := (d &&& 51) + (d / 4 &&& 51)
def pw3 (d : Nat) : Nat := d % 16 + d / 16
theorem by1 : ∀ d, d < 256 → ∀ e, e < 2 → (d / 2 + 128 * e &&& 85) = (d / 2 &&& 85) ∧ (d / 2 &&& 85) ≤ d := by decide +kernel
theorem by2 : ∀ d, d < 256 → ∀ e, e < 4 → (d / 4 + 64 * e &&& 51) = (d / 4 &&& 51) := by decide +kernel
theorem by3 : ∀ d, d < 256 → pw1 d < 256 ∧ pw2 (pw1 d) < 256 ∧ pw2 (pw1 d) % 16 ≤ 4 ∧ pw2 (pw1 d) / 16 ≤ 4 ∧ pw3 (pw2 (pw1 d)) = pc8 d ∧ pc8 d ≤ 8 ∧ (pw1 d &&& 51) ≤ 51 ∧ (pw1 d / 4 &&& 51) ≤ 51 := by decide +kernel
theorem by4 : ∀ x, x < 137 → x % 16 < 9 → (x &&& 15) = x % 16 := by decide +kernel
theorem pn1 (a b c d : Nat) (ha : a < 256) (hb : b < 256) (hc : c < 256) (hd : d < 256) : d4 a b c d - (d4 a b c d / 2 &&& 1431655765) = d4 (pw1 a) (pw1 b) (pw1 c) (pw1 d) ∧ (d4 a b c d / 2 &&& 1431655765) ≤ d4 a b c d := by
  have e : d4 a b c d / 2 = d4 (a / 2 + 128 * (b % 2)) (b / 2 + 128 * (c % 2)) (c / 2 + 128 * (d % 2)) (d / 2) := by unfold d4; omega
  have m : (1431655765 : Nat) = d4 85 85 85 85 := rfl
  rw [e, m, land_4 (by omega) (by omega) (by omega) (by decide) (by decide) (by decide), (by1 a ha _ (Nat.mod_lt _ (by decide))).1, (by1 b hb _ (Nat.mod_lt _ (by decide))).1, (by1 c hc _ (Nat.mod_lt _ (by decide))).1]
  have l1 := (by1 a ha 0 (by decide)).2
  have l2 := (by1 b hb 0 (by decide)).2
  have l3 := (by1 c hc 0 (by decide)).2
  have l4 := (by1 d hd 0 (by decide)).2
  unfold d4 pw1
  generalize (a / 2 &&& 85) = x1 at *
  generalize (b / 2 &&& 85) = x2 at *
  generalize (c / 2 &&& 85) = x3 at *
  generalize (d / 2 &&& 85) = x4 at *
  omega
theorem pn2 (a b c d : Nat) (ha : a < 256) (hb : b < 256) (hc : c < 256) (hd : d < 256) : (d4 a b c d &&& 858993459) + (d4 a b c d / 4 &&& 858993459) = d4 (pw2 a) (pw2 b) (pw2 c) (pw2 d) := by
  have e : d4 a b c d / 4 = d4 (a / 4 + 64 * (b % 4)) (b / 4 + 64 * (c % 4)) (c / 4 + 64 * (d % 4)) (d / 4) := by unfold d4; omega
  have m : (858993459 : Nat) = d4 51 51 51 51 := rfl
  rw [e, m, land_4 ha hb hc (by decide) (by decide) (by decide), land_4 (by omega) (by omega) (by omega) (by decide) (by decide) (by decide), by2 a ha _ (Nat.mod_lt _ (by decide)), by2 b hb _ (Nat.mod_lt _ (by decide)), by2 c hc _ (Nat.mod_lt _ (by decide))]
  unfold d4 pw2
  omega
theorem pn3 (a b c d : Nat) (ha : a % 16 ≤ 4 ∧ a / 16 ≤ 4) (hb : b % 16 ≤ 4 ∧ b / 16 ≤ 4) (hc : c % 16 ≤ 4 ∧ c / 16 ≤ 4) (hd : d % 16 ≤ 4 ∧ d / 16 ≤ 4) : (d4 a b c d + d4 a b c d / 16 &&& 252645135) = d4 (pw3 a) (pw3 b) (pw3 c) (pw3 d) ∧ d4 a b c d + d4 a b c d / 16 < 2 ^ 32 := by
  have e : d4 a b c d + d4 a b c d / 16 = d4 (a + a / 16 + 16 * (b % 16)) (b + b / 16 + 16 * (c % 16)) (c + c / 16 + 16 * (d % 16)) (d + d / 16) := by unfold d4; omega
  have m : (252645135 : Nat) = d4 15 15 15 15 := rfl
  have f : ∀ x y, x % 16 ≤ 4 ∧ x / 16 ≤ 4 → y ≤ 4 → (x + x / 16 + 16 * y &&& 15) = pw3 x := by
    intro x y hx hy
    have e : x + x / 16 + 16 * y = 16 * (x / 16 + y) + (x % 16 + x / 16) := by omega
    have em : (x + x / 16 + 16 * y) % 16 = x % 16 + x / 16 := by rw [e, Nat.mul_add_mod, Nat.mod_eq_of_lt (by omega)]
    rw [by4 _ (by omega) (by rw [em]; omega), em]
    rfl
  have f0 := f d 0 hd (by decide)
  rw [Nat.mul_zero, Nat.add_zero] at f0
  refine ⟨?_, by unfold d4; omega⟩
  rw [e, m, land_4 (by omega) (by omega) (by omega) (by decide) (by decide) (by decide), f a _ ha hb.1, f b _ hb hc.1, f c _ hc hd.1, f0]
theorem pn4 (a b c d : Nat) (ha : a ≤ 8) (hb : b ≤ 8) (hc : c ≤ 8) (hd : d ≤ 8) : ((d4 a b c d + d4 a b c d / 256) + (d4 a b c d + d4 a b c d / 256) / 65536) % 64 = a + b + c + d ∧ d4 a b c d + d4 a b c d / 256 < 2 ^ 32 ∧ (d4 a b c d + d4 a b c d / 256) + (d4 a b c d + d4 a b c d / 256) / 65536 < 2 ^ 32 := by
  have e1 : d4 a b c d / 256 = b + 256 * c + 65536 * d := by unfold d4; omega
  have e0 : d4 a b c d = a + 256 * b + 65536 * c + 16777216 * d := by unfold d4; omega
  have e2 : d4 a b c d + d4 a b c d / 256 = (a + b) + 256 * (b + c) + 65536 * ((c + d) + 256 * d) := by rw [e1, e0]; omega
  have e3 : (d4 a b c d + d4 a b c d / 256) / 65536 = (c + d) + 256 * d := by rw [e2]; omega
  rw [e3, e2]
  refine ⟨?_, by omega, by omega⟩
  have e4 : (a + b) + 256 * (b + c) + 65536 * ((c + d) + 256 * d) + ((c + d) + 256 * d) = 64 * (4 * (b + c) + 1024 * ((c + d) + 256 * d) + 4 * d) + (a + b + c + d) := by omega
  rw [e4, Nat.mul_add_mod, Nat.mod_eq_of_lt (by omega)]
/-- as numbers -/
def tN (x : Int32) : Nat := x.toBitVec.toNat
theorem tN_lt (x : Int32) : tN x < 2 ^ 32 := x.toBitVec.isLt
theorem tN_and (x y : Int32) : tN (x &&& y) = tN x &&& tN y := by unfold tN; rw [Int32.toBitVec_and, BitVec.toNat_and]
theorem tN_add {x y : Int32} (h : tN x + tN y < 2 ^ 32) : tN (x + y) = tN x + tN y := by
  unfold tN at h ⊢
  rw [Int32.toBitVec_add, BitVec.toNat_add, Nat.mod_eq_of_lt h]
theorem tN_sub {x y : Int32} (h : tN y ≤ tN x) : tN (x - y) = tN x - tN y := by
  have l := tN_lt x
  unfold tN at h l ⊢
  rw [Int32.toBitVec_sub, BitVec.toNat_sub]
  omega
theorem tN_ushr (x : Int32) {k : Nat} (hk : k < 32) : tN (ushr x (nI k)) = tN x / 2 ^ k := by
  show (x.toUInt32 >>> ((nI k).toUInt32 &&& Int32.toUInt32 31)).toBitVec.toNat = x.toUInt32.toBitVec.toNat / 2 ^ k
  rw [UInt32.toBitVec_shiftRight]
  show (x.toUInt32.toBitVec >>> (((nI k).toUInt32 &&& Int32.toUInt32 31).toBitVec % 32).toNat).toNat = _
  rw [s_u k hk, BitVec.toNat_ushiftRight, Nat.shiftRight_eq_div_pow]
theorem tN_inj {x y : Int32} (h : tN x = tN y) : x = y := Int32.toBitVec_inj.mp (BitVec.eq_of_toNat_eq h)
/-- the JDK's count of bits is the sum over the four bytes -/
theorem bc_sum (v : Int32) {a b c d : Nat} (ha : a < 256) (hb : b < 256) (hc : c < 256) (hd : d < 256) (e : tN v = d4 a b c d) : tN (bc32 v) = pc8 a + pc8 b + pc8 c + pc8 d := by
  obtain ⟨a1, a2, a3, a4, a5, a6, -⟩ := by3 a ha
  obtain ⟨b1, b2, b3, b4, b5, b6, -⟩ := by3 b hb
  obtain ⟨c1, c2, c3, c4, c5, c6, -⟩ := by3 c hc
  obtain ⟨d1, d2, d3, d4', d5, d6, -⟩ := by3 d hd
  obtain ⟨p1, p1'⟩ := pn1 a b c d ha hb hc hd
  have m1 : tN (1431655765 : Int32) = 1431655765 := by decide +kernel
  have m2 : tN (858993459 : Int32) = 858993459 := by decide +kernel
  have m3 : tN (252645135 : Int32) = 252645135 := by decide +kernel
  have m4 : tN (63 : Int32) = 63 := by decide +kernel
  have u1 : ∀ x : Int32, tN (ushr x 1) = tN x / 2 := fun x => tN_ushr x (k := 1) (by decide)
  have u2 : ∀ x : Int32, tN (ushr x 2) = tN x / 4 := fun x => tN_ushr x (k := 2) (by decide)
  have u4 : ∀ x : Int32, tN (ushr x 4) = tN x / 16 := fun x => tN_ushr x (k := 4) (by decide)
  have u8 : ∀ x : Int32, tN (ushr x 8) = tN x / 256 := fun x => tN_ushr x (k := 8) (by decide)
  have u16 : ∀ x : Int32, tN (ushr x 16) = tN x / 65536 := fun x => tN_ushr x (k := 16) (by decide)
  unfold bc32
  generalize e1 : v - ((ushr v 1) &&& 1431655765) = y1
  have t1 : tN y1 = d4 (pw1 a) (pw1 b) (pw1 c) (pw1 d) := by
    rw [← e1, tN_sub (by rw [tN_and, u1, m1, e]; exact p1'), tN_and, u1, m1, e]; exact p1
  generalize e2 : (y1 &&& 858993459) + ((ushr y1 2) &&& 858993459) = y2
  have q2 := pn2 (pw1 a) (pw1 b) (pw1 c) (pw1 d) a1 b1 c1 d1
  have t2 : tN y2 = d4 (pw2 (pw1 a)) (pw2 (pw1 b)) (pw2 (pw1 c)) (pw2 (pw1 d)) := by
    have s : tN (y1 &&& 858993459) + tN ((ushr y1 2) &&& 858993459) = d4 (pw2 (pw1 a)) (pw2 (pw1 b)) (pw2 (pw1 c)) (pw2 (pw1 d)) := by
      rw [tN_and, tN_and, u2, m2, t1]; exact q2
    rw [← e2, tN_add (by rw [s]; unfold d4; omega), s]
  generalize e3 : (y2 + (ushr y2 4)) &&& 252645135 = y3
  obtain ⟨q3, q3'⟩ := pn3 (pw2 (pw1 a)) (pw2 (pw1 b)) (pw2 (pw1 c)) (pw2 (pw1 d)) ⟨a3, a4⟩ ⟨b3, b4⟩ ⟨c3, c4⟩ ⟨d3, d4'⟩
  have t3 : tN y3 = d4 (pc8 a) (pc8 b) (pc8 c) (pc8 d) := by
    rw [← e3, tN_and, m3, tN_add (by rw [u4, t2]; exact q3'), u4, t2, q3, a5, b5, c5, d5]
  obtain ⟨q4, q5, q6⟩ := pn4 (pc8 a) (pc8 b) (pc8 c) (pc8 d) a6 b6 c6 d6
  have t4 : tN (y3 + ushr y3 8) = d4 (pc8 a) (pc8 b) (pc8 c) (pc8 d) + d4 (pc8 a) (pc8 b) (pc8 c) (pc8 d) / 256 := by
    rw [tN_add (by rw [u8, t3]; exact q5), u8, t3]
  rw [tN_and, m4, tN_add (by rw [u16, t4]; exact q6), u16, t4, show (63 : Nat) = 2 ^ 6 - 1 from rfl, Nat.and_two_pow_sub_one_eq_mod]
  exact q4
def sbt (n : Nat) : Nat → Nat
  | 0 => 0
  | k + 1 => sbt n k + n / 2 ^ k % 2
theorem sbt_le (n : Nat) : ∀ k, sbt n k ≤ k
  | 0 => Nat.le_refl 0
  | k + 1 => by
    rw [sbt]
    have := sbt_le n k
    have := Nat.mod_lt (n / 2 ^ k) (show 0 < 2 by decide)
    omega
theorem sbt_8 (a r : Nat) (ha : a < 256) : sbt (a + 256 * r) 8 = pc8 a := by
  unfold pc8
  simp only [sbt, Nat.reducePow, Nat.div_one, Nat.zero_add]
  omega
theorem sbt_s (a r : Nat) (ha : a < 256) : ∀ j, sbt (a + 256 * r) (8 + j) = pc8 a + sbt r j
  | 0 => by rw [Nat.add_zero, sbt_8 a r ha, sbt, Nat.add_zero]
  | j + 1 => by
    rw [← Nat.add_assoc, sbt, sbt_s a r ha j, sbt, Nat.pow_add, ← Nat.div_div_eq_div_mul, show (a + 256 * r) / 2 ^ 8 = r by omega, Nat.add_assoc]
theorem sbt_32 {a b c d : Nat} (ha : a < 256) (hb : b < 256) (hc : c < 256) (hd : d < 256) : sbt (d4 a b c d) 32 = pc8 a + pc8 b + pc8 c + pc8 d := by
  unfold d4
  have e1 := sbt_s a (b + 256 * (c + 256 * d)) ha 24
  have e2 := sbt_s b (c + 256 * d) hb 16
  have e3 := sbt_s c d hc 8
  have e4 := sbt_8 d 0 hd
  rw [Nat.mul_zero, Nat.add_zero] at e4
  have f1 : sbt (a + 256 * (b + 256 * (c + 256 * d))) 32 = pc8 a + sbt (b + 256 * (c + 256 * d)) 24 := e1
  have f2 : sbt (b + 256 * (c + 256 * d)) 24 = pc8 b + sbt (c + 256 * d) 16 := e2
  have f3 : sbt (c + 256 * d) 16 = pc8 c + sbt d 8 := e3
  rw [f1, f2, f3, e4]
  omega
theorem bt_n (v : Int32) (k : Nat) : bt v k = true ↔ tN v / 2 ^ k % 2 = 1 := by
  unfold bt tN
  rw [← BitVec.testBit_toNat, Nat.testBit_eq_decide_div_mod_eq, decide_eq_true_eq]
theorem bit0' (x : Int32) {m : Nat} (h : m < 32) (n : ¬ bt x m = true) : ((x >>> (nI m &&& 31)) &&& 1) = 0 := by
  refine b_ext (fun i hi => ?_)
  rw [b_and, b_1 i hi, b_0]
  by_cases e : i = 0
  · subst e
    have nf : bt x m = false := by simpa using n
    rw [b_sshr m h x (by decide), if_pos (by omega), Nat.add_zero, nf]; rfl
  · rw [decide_eq_false e, Bool.and_false]
theorem co_sum (v : Int32) : ∀ k, k ≤ 32 → tN (co v k) = sbt (tN v) k
  | 0, _ => show tN 0 = 0 from by decide +kernel
  | k + 1, hk => by
    have ih := co_sum v k (by omega)
    have le := sbt_le (tN v) k
    have t1 : tN (1 : Int32) = 1 := by decide +kernel
    have t0 : tN (0 : Int32) = 0 := by decide +kernel
    have m2 := Nat.mod_lt (tN v / 2 ^ k) (show 0 < 2 by decide)
    have e : tN ((v >>> (nI k &&& 31)) &&& 1) = tN v / 2 ^ k % 2 := by
      by_cases q : bt v k = true
      · rw [(bit1 v (by omega)).mpr q, t1, (bt_n v k).mp q]
      · have n1 : ¬ tN v / 2 ^ k % 2 = 1 := fun z => q ((bt_n v k).mpr z)
        rw [bit0' v (by omega) q, t0]
        omega
    rw [co, sbt, tN_add (by rw [ih, e]; omega), ih, e]
/-- the two counts are the same -/
theorem bc_co (v : Int32) : bc32 v = co v 32 := by
  have l := tN_lt v
  have e : tN v = d4 (tN v % 256) (tN v / 256 % 256) (tN v / 65536 % 256) (tN v / 16777216) := by unfold d4; omega
  refine tN_inj ?_
  rw [bc_sum v (by omega) (by omega) (by omega) (by omega) e, co_sum v 32 (Nat.le_refl _)]
  conv => rhs; rw [e]
  rw [sbt_32 (by omega) (by omega) (by omega) (by omega)]
end MG41
section MG42
/-! ===== tokens of the class and of the reference are the same ===== -/
/-- kinds of the class, sorts of the reference -/
def KS (k s : Int32) : Prop := (k = 1 ∧ s = 0) ∨ (k = 2 ∧ s = 1) ∨ (k = 3 ∧ s = 2) ∨ (k = 4 ∧ s = 3) ∨ (k = 5 ∧ s = 4)
theorem ks1 {k s : Int32} (h : KS k s) : k = 1 ↔ s = 0 := by
  rcases h with ⟨rfl, rfl⟩ | ⟨rfl, rfl⟩ | ⟨rfl, rfl⟩ | ⟨rfl, rfl⟩ | ⟨rfl, rfl⟩ <;> decide
theorem ks2 {k s : Int32} (h : KS k s) : k = 2 ↔ s = 1 := by
  rcases h with ⟨rfl, rfl⟩ | ⟨rfl, rfl⟩ | ⟨rfl, rfl⟩ | ⟨rfl, rfl⟩ | ⟨rfl, rfl⟩ <;> decide
theorem ks3 {k s : Int32} (h : KS k s) : k = 3 ↔ s = 2 := by
  rcases h with ⟨rfl, rfl⟩ | ⟨rfl, rfl⟩ | ⟨rfl, rfl⟩ | ⟨rfl, rfl⟩ | ⟨rfl, rfl⟩ <;> decide
theorem ks4 {k s : Int32} (h : KS k s) : k = 4 ↔ s = 3 := by
  rcases h with ⟨rfl, rfl⟩ | ⟨rfl, rfl⟩ | ⟨rfl, rfl⟩ | ⟨rfl, rfl⟩ | ⟨rfl, rfl⟩ <;> decide
theorem ks5 {k s : Int32} (h : KS k s) : k = 5 ↔ s = 4 := by
  rcases h with ⟨rfl, rfl⟩ | ⟨rfl, rfl⟩ | ⟨rfl, rfl⟩ | ⟨rfl, rfl⟩ | ⟨rfl, rfl⟩ <;> decide
/-- the class's tokens stand where the reference's reader stands -/
def RL (c : Tst) (r : Rst) : Prop := c.2.2.2.2.1 = r.2.2.2.2.1 ∧ (¬ c.2.2.2.2.1 = 0 → c.2.2.2.2.2 = r.2.2.2.2.2) ∧ (c.2.2.2.2.1 = 0 → c.2.1 = r.1 ∧ c.2.2.1 = r.2.1 ∧ KS c.1 r.2.2.1 ∧ (c.1 = 3 → c.2.2.2.1 = r.2.2.2.1 ∧ ∃ n, n < 1000 ∧ c.2.2.2.1 = nI n))
theorem tfl_f {c : Int32} {s : Tst} (h : ¬ s.2.2.2.2.1 = 0) : tfl c s = s := by unfold tfl; rw [if_neg h]
theorem nxs_f {T : Nat → Int32} {t : Nat} {s : Rst} (h : ¬ s.2.2.2.2.1 = 0) : nxs T t s = s := by unfold nxs; rw [if_neg h]
theorem wts_t {g c : Int32} {s : Rst} (h : ¬ g = 0) : wts g c s = s := by unfold wts; rw [if_neg (fun q => h q.1)]
theorem isn_f {lo hi : Int32} {s : Rst} (h : ¬ s.2.2.2.2.1 = 0) : isn lo hi s = s := by
  unfold isn; rw [wts_f (g := if s.2.2.1 = 2 then 1 else 0) h, wts_f h]
theorem rl_fail {a : Tst} {r : Rst} {k : Int32} (h : RL a r) (f : a.2.2.2.2.1 = 0) (hk : ¬ k = 0) : RL (tfl k a) (wts 0 k r) := by
  have fr : r.2.2.2.2.1 = 0 := h.1.symm.trans f
  unfold tfl wts
  rw [if_pos f, if_pos ⟨rfl, fr⟩]
  refine ⟨rfl, fun _ => ?_, fun z => absurd z hk⟩
  show nI a.2.1 = nI r.1
  rw [(h.2.2 f).1]
theorem adv_of {T : Nat → Int32} {t : Nat} {s : Tst} {x : Tst} (e : adv0 T t s = x) (n : ¬ x.1 = 0) : adv T t s = x := by
  unfold adv; rw [e, if_neg n]
theorem rl_adv0 {M : Mm} {T : Nat → Int32} {t : Nat} {c : Tst} {r : Rst} (tc : TC M T t) (f : c.2.2.2.2.1 = 0) (fr : r.2.2.2.2.1 = 0) (eb : c.2.2.1 = r.2.1) : RL (adv T t c) (nxs T t r) := by
  unfold nxs
  rw [if_pos fr]
  have hr := rn_in isF T t 401 (nx1 T t r.2.1)
  have hg := rn_ge isF T t 401 (nx1 T t r.2.1)
  by_cases c1 : lk T t (nx1 T t r.2.1) < 0
  · rw [if_pos c1]
    have e : adv0 T t c = (1, nx1 T t r.2.1, nx1 T t r.2.1, c.2.2.2.1, c.2.2.2.2.1, c.2.2.2.2.2) := by unfold adv0; rw [eb, if_pos c1]
    rw [adv_of e (by show ¬ (1 : Int32) = 0; decide)]
    exact ⟨f.trans fr.symm, fun z => absurd f z, fun _ => ⟨rfl, rfl, Or.inl ⟨rfl, rfl⟩, fun z => absurd (show (1 : Int32) = 3 from z) (by decide)⟩⟩
  · rw [if_neg c1]
    by_cases c2 : isA (lk T t (nx1 T t r.2.1)) = true
    · rw [if_pos c2]
      have e : adv0 T t c = (2, nx1 T t r.2.1, rn isA T t 401 (nx1 T t r.2.1), c.2.2.2.1, c.2.2.2.2.1, c.2.2.2.2.2) := by unfold adv0; rw [eb, if_neg c1, if_pos c2]
      rw [adv_of e (by show ¬ (2 : Int32) = 0; decide)]
      exact ⟨f.trans fr.symm, fun z => absurd f z, fun _ => ⟨rfl, rfl, Or.inr (Or.inl ⟨rfl, rfl⟩), fun z => absurd (show (2 : Int32) = 3 from z) (by decide)⟩⟩
    · rw [if_neg c2]
      by_cases c3 : isF (lk T t (nx1 T t r.2.1)) = true
      · rw [if_pos c3]
        by_cases l : rn isF T t 401 (nx1 T t r.2.1) - nx1 T t r.2.1 ≤ 3
        · rw [if_pos l, if_pos l]
          have e : adv0 T t c = (3, nx1 T t r.2.1, rn isF T t 401 (nx1 T t r.2.1), vlf T t (nx1 T t r.2.1) (rn isF T t 401 (nx1 T t r.2.1) - nx1 T t r.2.1), c.2.2.2.2.1, c.2.2.2.2.2) := by
            unfold adv0; rw [eb, if_neg c1, if_neg c2, if_pos c3, if_pos l, Nat.min_eq_left l]
          rw [adv_of e (by show ¬ (3 : Int32) = 0; decide)]
          obtain ⟨n, hn, en⟩ := vlf_nn tc (p := nx1 T t r.2.1) l (fun k hk => hr k (by omega))
          exact ⟨f.trans fr.symm, fun z => absurd f z, fun _ => ⟨rfl, rfl, Or.inr (Or.inr (Or.inl ⟨rfl, rfl⟩)), fun _ => ⟨rfl, n, Nat.lt_of_lt_of_le hn (Nat.le_trans (Nat.pow_le_pow_right (by decide) l) (by decide)), en⟩⟩⟩
        · rw [if_neg l, if_neg l]
          have e : adv0 T t c = (0, nx1 T t r.2.1, rn isF T t 401 (nx1 T t r.2.1), vlf T t (nx1 T t r.2.1) (min (rn isF T t 401 (nx1 T t r.2.1) - nx1 T t r.2.1) 3), c.2.2.2.2.1, c.2.2.2.2.2) := by
            unfold adv0; rw [eb, if_neg c1, if_neg c2, if_pos c3, if_neg l]
          have e2 : adv T t c = (0, nx1 T t r.2.1, rn isF T t 401 (nx1 T t r.2.1), vlf T t (nx1 T t r.2.1) (min (rn isF T t 401 (nx1 T t r.2.1) - nx1 T t r.2.1) 3), 1, nI (nx1 T t r.2.1)) := by
            unfold adv; rw [e, if_pos rfl]; unfold tfl; rw [if_pos f]
          rw [e2]
          exact ⟨rfl, fun _ => rfl, fun z => absurd (show (1 : Int32) = 0 from z) (by decide)⟩
      · rw [if_neg c3]
        by_cases c4 : lk T t (nx1 T t r.2.1) = 45
        · have e : adv0 T t c = (4, nx1 T t r.2.1, nx1 T t r.2.1 + 1, c.2.2.2.1, c.2.2.2.2.1, c.2.2.2.2.2) := by
            unfold adv0; rw [eb, if_neg c1, if_neg c2, if_neg c3, if_pos c4]
          rw [adv_of e (by show ¬ (4 : Int32) = 0; decide), if_pos c4, if_pos (Or.inl c4), if_pos (Or.inl c4)]
          exact ⟨f.trans fr.symm, fun z => absurd f z, fun _ => ⟨rfl, rfl, Or.inr (Or.inr (Or.inr (Or.inl ⟨rfl, rfl⟩))), fun z => absurd (show (4 : Int32) = 3 from z) (by decide)⟩⟩
        · by_cases c5 : lk T t (nx1 T t r.2.1) = 59
          · have e : adv0 T t c = (5, nx1 T t r.2.1, nx1 T t r.2.1 + 1, c.2.2.2.1, c.2.2.2.2.1, c.2.2.2.2.2) := by
              unfold adv0; rw [eb, if_neg c1, if_neg c2, if_neg c3, if_neg c4, if_pos c5]
            rw [adv_of e (by show ¬ (5 : Int32) = 0; decide), if_neg c4, if_pos (Or.inr c5), if_pos (Or.inr c5)]
            exact ⟨f.trans fr.symm, fun z => absurd f z, fun _ => ⟨rfl, rfl, Or.inr (Or.inr (Or.inr (Or.inr ⟨rfl, rfl⟩))), fun z => absurd (show (5 : Int32) = 3 from z) (by decide)⟩⟩
          · have n45 : ¬ (lk T t (nx1 T t r.2.1) = 45 ∨ lk T t (nx1 T t r.2.1) = 59) := fun z => z.elim c4 c5
            have e : adv0 T t c = (0, nx1 T t r.2.1, nx1 T t r.2.1 + 1, c.2.2.2.1, c.2.2.2.2.1, c.2.2.2.2.2) := by
              unfold adv0; rw [eb, if_neg c1, if_neg c2, if_neg c3, if_neg c4, if_neg c5]
            have e2 : adv T t c = (0, nx1 T t r.2.1, nx1 T t r.2.1 + 1, c.2.2.2.1, 1, nI (nx1 T t r.2.1)) := by
              unfold adv; rw [e, if_pos rfl]; unfold tfl; rw [if_pos f]
            rw [e2, if_neg n45, if_neg n45]
            exact ⟨rfl, fun _ => rfl, fun z => absurd (show (1 : Int32) = 0 from z) (by decide)⟩
theorem rl_adv {M : Mm} {T : Nat → Int32} {t : Nat} {c : Tst} {r : Rst} (tc : TC M T t) (h : RL c r) (f : c.2.2.2.2.1 = 0) : RL (adv T t c) (nxs T t r) :=
  rl_adv0 tc f (h.1.symm.trans f) (h.2.2 f).2.1
/-! ===== letters ===== -/
theorem lt_eq {T : Nat → Int32} {t fi ma : Nat} (hma : ma = 6 ∨ ma = 8) : ∀ n i b, b < 2 ^ ma → (ltc T t (nI fi) (nI ma) n i (nI b) = -1 ∧ ltr T t (nI fi) (nI ma) n i (nI b) = -4) ∨ ∃ c, c < 2 ^ ma ∧ ltc T t (nI fi) (nI ma) n i (nI b) = nI c ∧ ltr T t (nI fi) (nI ma) n i (nI b) = nI c
  | 0, _, b, hb => Or.inr ⟨b, hb, rfl, rfl⟩
  | n + 1, i, b, hb => by
    have hm8 : ma ≤ 8 := by omega
    rw [ltc, ltr]
    have em : (nI ma - 1 < lk T t i - nI fi) ↔ (nI ma ≤ lk T t i - nI fi) := by
      refine sgt ?_
      rcases hma with rfl | rfl <;> decide
    by_cases c : lk T t i - nI fi < 0 ∨ nI ma ≤ lk T t i - nI fi
    · rw [if_pos (Or.inl c), if_pos (Or.inl (c.imp id em.mpr))]
      exact Or.inl ⟨rfl, rfl⟩
    · obtain ⟨d, hd, e⟩ := rng (n := ma) rfl (by omega) (fun z => c (Or.inl z)) (fun z => c (Or.inr z))
      have c' : ¬ (lk T t i - nI fi < 0 ∨ nI ma - 1 < lk T t i - nI fi) := fun z => c (z.imp id em.mp)
      rw [e] at c c' ⊢
      have eb : (((ushr (nI b) (nI d)) &&& 1) = 1) ↔ (((nI b >>> (nI d &&& 31)) &&& 1) = 1) := by rw [bitu _ (by omega), bit1 _ (by omega)]
      by_cases q : ((ushr (nI b) (nI d)) &&& 1) = 1
      · rw [if_pos (Or.inr q), if_pos (Or.inr (eb.mp q))]
        exact Or.inl ⟨rfl, rfl⟩
      · rw [if_neg (fun z => z.elim c q), if_neg (fun z => z.elim c' (fun z => q (eb.mpr z)))]
        have key : ∀ ma, ma ≤ 8 → ∀ d, d < ma → ∀ b, b < 2 ^ ma → (b ||| 2 ^ d) < 2 ^ ma ∧ nI b ||| ((1 : Int32) <<< (nI d &&& 31)) = nI (b ||| 2 ^ d) := by decide +kernel
        obtain ⟨h1, h2⟩ := key ma hm8 d hd b hb
        rw [h2]
        exact lt_eq hma n (i + 1) _ h1
/-- as many letters as bits -/
def pcn (b : Nat) : Nat := (List.range 8).foldl (fun s k => s + (if b.testBit k then 1 else 0)) 0
theorem ltc_cn {T : Nat → Int32} {t fi : Nat} : ∀ n i b c, b < 256 → ltc T t (nI fi) 8 n i (nI b) = nI c → c < 256 → pcn c = pcn b + n
  | 0, _, b, c, hb, h, hc => by
    have : b = c := (ninj (by omega) (by omega)).mp h
    rw [this]; rfl
  | n + 1, i, b, c, hb, h, hc => by
    rw [ltc] at h
    by_cases q : (lk T t i - nI fi < 0 ∨ 8 ≤ lk T t i - nI fi) ∨ ((ushr (nI b) (lk T t i - nI fi)) &&& 1) = 1
    · rw [if_pos q] at h
      exfalso
      have : ∀ c, c < 256 → ¬ (-1 : Int32) = nI c := by decide +kernel
      exact this c hc h
    · rw [if_neg q] at h
      obtain ⟨d, hd, e⟩ := rng (c := 8) (n := 8) rfl (by decide) (fun z => q (Or.inl (Or.inl z))) (fun z => q (Or.inl (Or.inr z)))
      rw [e] at h q
      have q2 : ¬ bt (nI b) d = true := fun z => q (Or.inr ((bitu _ (by omega)).mpr z))
      have key : ∀ d, d < 8 → ∀ b, b < 256 → (b ||| 2 ^ d) < 256 ∧ nI b ||| ((1 : Int32) <<< (nI d &&& 31)) = nI (b ||| 2 ^ d) ∧ (¬ bt (nI b) d = true → pcn (b ||| 2 ^ d) = pcn b + 1) := by decide +kernel
      obtain ⟨h1, h2, h3⟩ := key d hd b hb
      rw [h2] at h
      have := ltc_cn n (i + 1) _ c h1 h hc
      rw [this, h3 q2]; omega
end MG42
section MG43
/-! ===== what is taken is the same ===== -/
section EQ2
variable {M : Mm} {T : Nat → Int32} {t : Nat} {a : Tst} {r : Rst}
theorem tkN_f {g : Int32} (h : ¬ a.2.2.2.2.1 = 0) : tkN g a = a := by
  unfold tkN
  split
  · split
    · rfl
    · exact tfl_f h
  · exact tfl_f h
theorem rl_num {g : Nat} (hg : g < 1000) (h : RL a r) : RL (tkN (nI g) a) (isn 0 (nI g) r) ∧ ((tkN (nI g) a).2.2.2.2.1 = 0 → tkNv (nI g) a = r.2.2.2.1 ∧ tkN (nI g) a = a ∧ isn 0 (nI g) r = r ∧ a.2.2.2.2.1 = 0) := by
  by_cases f : a.2.2.2.2.1 = 0
  · have fr : r.2.2.2.2.1 = 0 := h.1.symm.trans f
    obtain ⟨e1, e2, ks, num⟩ := h.2.2 f
    by_cases k3 : a.1 = 3
    · obtain ⟨ev, n, hn, en⟩ := num k3
      have s2 : r.2.2.1 = 2 := (ks3 ks).mp k3
      have w1 : wts (if r.2.2.1 = 2 then 1 else 0) 2 r = r := wts_t (by rw [if_pos s2]; decide)
      by_cases l : n ≤ g
      · have l1 : a.2.2.2.1 ≤ nI g := by rw [en, nle (by omega) (by omega)]; exact l
        have c : ¬ r.2.2.2.1 < 0 ∧ ¬ nI g < r.2.2.2.1 := by
          rw [← ev, en]
          exact ⟨n0 n (by omega), by rw [nlt (by omega) (by omega)]; omega⟩
        have ea : tkN (nI g) a = a := by unfold tkN; rw [if_pos k3, if_pos l1]
        have er : isn 0 (nI g) r = r := by unfold isn; rw [w1]; exact wts_t (by rw [if_pos c]; decide)
        rw [ea, er]
        refine ⟨h, fun _ => ⟨?_, rfl, rfl, f⟩⟩
        unfold tkNv; rw [if_pos k3, if_pos l1, ev]
      · have l1 : ¬ a.2.2.2.1 ≤ nI g := by rw [en, nle (by omega) (by omega)]; exact l
        have c : ¬ (¬ r.2.2.2.1 < 0 ∧ ¬ nI g < r.2.2.2.1) := by
          rw [← ev, en]
          exact fun z => z.2 (by rw [nlt (by omega) (by omega)]; omega)
        have ea : tkN (nI g) a = tfl 3 a := by unfold tkN; rw [if_pos k3, if_neg l1]
        have er : isn 0 (nI g) r = wts 0 3 r := by unfold isn; rw [w1, if_neg c]
        rw [ea, er]
        exact ⟨rl_fail h f (by decide), fun z => absurd z (tfl_ne (by decide))⟩
    · have s2 : ¬ r.2.2.1 = 2 := fun z => k3 ((ks3 ks).mpr z)
      have ea : tkN (nI g) a = tfl 2 a := by unfold tkN; rw [if_neg k3]
      have er : isn 0 (nI g) r = wts 0 2 r := by
        unfold isn
        rw [if_neg s2, wts_f]
        unfold wts; rw [if_pos ⟨rfl, fr⟩]; show ¬ (2 : Int32) = 0; decide
      rw [ea, er]
      exact ⟨rl_fail h f (by decide), fun z => absurd z (tfl_ne (by decide))⟩
  · have fr : ¬ r.2.2.2.2.1 = 0 := fun z => f (h.1.trans z)
    rw [tkN_f f, isn_f fr]
    exact ⟨h, fun z => absurd z f⟩
/-- a name is wanted -/
theorem rl_nam (h : RL a r) (f : a.2.2.2.2.1 = 0) : (a.1 = 2 ∧ nam r = r ∧ r.2.2.1 = 1) ∨ (¬ a.1 = 2 ∧ RL (tfl 2 a) (nam r) ∧ ¬ (nam r).2.2.2.2.1 = 0) := by
  have fr : r.2.2.2.2.1 = 0 := h.1.symm.trans f
  obtain ⟨e1, e2, ks, num⟩ := h.2.2 f
  by_cases k2 : a.1 = 2
  · have s1 : r.2.2.1 = 1 := (ks2 ks).mp k2
    refine Or.inl ⟨k2, ?_, s1⟩
    unfold nam; exact wts_t (by rw [if_pos s1]; decide)
  · have s1 : ¬ r.2.2.1 = 1 := fun z => k2 ((ks2 ks).mpr z)
    have e : nam r = wts 0 2 r := by unfold nam; rw [if_neg s1]
    refine Or.inr ⟨k2, by rw [e]; exact rl_fail h f (by decide), ?_⟩
    rw [e]; unfold wts; rw [if_pos ⟨rfl, fr⟩]; show ¬ (2 : Int32) = 0; decide
theorem nam_f (h : ¬ r.2.2.2.2.1 = 0) : nam r = r := by unfold nam; exact wts_f h
/-- doctors -/
def dmc (T : Nat → Int32) (t : Nat) (r : Rst) : Rst := wts (if rmv T t r = -4 then 0 else 1) 3 (nam r)
theorem rms_d : rms T t r = nxs T t (dmc T t r) := rfl
theorem tkD_f (h : ¬ a.2.2.2.2.1 = 0) : tkD T t a = a := by
  unfold tkD
  split
  · split
    · rfl
    · exact tfl_f h
  · exact tfl_f h
theorem tkO_f (h : ¬ a.2.2.2.2.1 = 0) : tkO T t a = a := by
  unfold tkO
  rw [tkD_f h]
  split
  · split
    · rfl
    · exact tfl_f h
  · rfl
theorem rl_main (h : RL a r) : RL (tkD T t a) (dmc T t r) ∧ ((tkD T t a).2.2.2.2.1 = 0 → tkDv T t a = rmv T t r ∧ tkD T t a = a ∧ dmc T t r = r ∧ a.2.2.2.2.1 = 0) := by
  by_cases f : a.2.2.2.2.1 = 0
  · have fr : r.2.2.2.2.1 = 0 := h.1.symm.trans f
    obtain ⟨e1, e2, ks, num⟩ := h.2.2 f
    rcases rl_nam h f with ⟨k2, en, s1⟩ | ⟨k2, hn, fn⟩
    · have ev : rmv T t r = ltr T t 97 8 (r.2.1 - r.1) r.1 0 := by unfold rmv; rw [en, if_pos fr]
      have el : tLt T t 97 8 a = ltc T t 97 8 (r.2.1 - r.1) r.1 0 := by unfold tLt; rw [e1, e2]
      rcases lt_eq (T := T) (t := t) (fi := 97) (ma := 8) (Or.inr rfl) (r.2.1 - r.1) r.1 0 (by decide) with ⟨q1, q2⟩ | ⟨c, hc, q1, q2⟩
      · have q1' : tLt T t 97 8 a = -1 := el.trans q1
        have q2' : rmv T t r = -4 := ev.trans q2
        have ea : tkD T t a = tfl 3 a := by unfold tkD; rw [if_pos k2, q1', if_neg (by decide)]
        have er : dmc T t r = wts 0 3 r := by unfold dmc; rw [q2', if_pos rfl, en]
        rw [ea, er]
        exact ⟨rl_fail h f (by decide), fun z => absurd z (tfl_ne (by decide))⟩
      · have q1' : tLt T t 97 8 a = nI c := el.trans q1
        have q2' : rmv T t r = nI c := ev.trans q2
        have n4 : ∀ c, c < 256 → ¬ nI c = -4 := by decide +kernel
        have hc' : c < 256 := hc
        have p0 : (0 : Int32) ≤ nI c := nI_pos' (by omega)
        have ea : tkD T t a = a := by unfold tkD; rw [if_pos k2, q1', if_pos p0]
        have er : dmc T t r = r := by unfold dmc; rw [q2', if_neg (n4 c hc'), en]; exact wts_t (by decide)
        rw [ea, er]
        refine ⟨h, fun _ => ⟨?_, rfl, rfl, f⟩⟩
        unfold tkDv; rw [if_pos k2, q1', if_pos p0, q2']
    · have ea : tkD T t a = tfl 2 a := by unfold tkD; rw [if_neg k2]
      have er : dmc T t r = nam r := by unfold dmc; exact wts_f fn
      rw [ea, er]
      exact ⟨hn, fun z => absurd z (tfl_ne (by decide))⟩
  · have fr : ¬ r.2.2.2.2.1 = 0 := fun z => f (h.1.trans z)
    have er : dmc T t r = r := by unfold dmc; rw [nam_f fr]; exact wts_f fr
    rw [tkD_f f, er]
    exact ⟨h, fun z => absurd z f⟩
/-- one doctor -/
def ddc (T : Nat → Int32) (t : Nat) (r : Rst) : Rst := wts (if nI (r.2.1 - r.1) = 1 ∧ ¬ rdv T t r < 0 ∧ ¬ 7 < rdv T t r then 1 else 0) 3 (nam r)
theorem rds_d : rds T t r = nxs T t (ddc T t r) := rfl
theorem rl_doc (hr : r.2.1 ≤ 400) (h : RL a r) : RL (tkO T t a) (ddc T t r) ∧ ((tkO T t a).2.2.2.2.1 = 0 → tkOv T t a = rdv T t r ∧ tkO T t a = a ∧ ddc T t r = r ∧ a.2.2.2.2.1 = 0) := by
  by_cases f : a.2.2.2.2.1 = 0
  · have fr : r.2.2.2.2.1 = 0 := h.1.symm.trans f
    obtain ⟨e1, e2, ks, num⟩ := h.2.2 f
    rcases rl_nam h f with ⟨k2, en, s1⟩ | ⟨k2, hn, fn⟩
    · have el : tLt T t 97 8 a = ltc T t 97 8 (r.2.1 - r.1) r.1 0 := by unfold tLt; rw [e1, e2]
      have bad : ¬ (nI (r.2.1 - r.1) = 1 ∧ ¬ rdv T t r < 0 ∧ ¬ 7 < rdv T t r) → tkO T t a = tfl 3 a → RL (tkO T t a) (ddc T t r) ∧ ((tkO T t a).2.2.2.2.1 = 0 → tkOv T t a = rdv T t r ∧ tkO T t a = a ∧ ddc T t r = r ∧ a.2.2.2.2.1 = 0) := by
        intro n ea
        have er : ddc T t r = wts 0 3 r := by unfold ddc; rw [if_neg n, en]
        rw [ea, er]
        exact ⟨rl_fail h f (by decide), fun z => absurd z (tfl_ne (by decide))⟩
      rcases lt_eq (T := T) (t := t) (fi := 97) (ma := 8) (Or.inr rfl) (r.2.1 - r.1) r.1 0 (by decide) with ⟨q1, q2⟩ | ⟨c, hc, q1, q2⟩
      · have q1' : tLt T t 97 8 a = -1 := el.trans q1
        have ed : tkDv T t a = -1 := by unfold tkDv; rw [if_pos k2, q1', if_neg (by decide)]
        have edd : tkD T t a = tfl 3 a := by unfold tkD; rw [if_pos k2, q1', if_neg (by decide)]
        have ea : tkO T t a = tfl 3 a := by unfold tkO; rw [ed, if_neg (by decide), edd]
        refine bad (fun z => ?_) ea
        -- one letter, of a to h: no fault
        have l1 : r.2.1 - r.1 = 1 := (ninj (i := r.2.1 - r.1) (j := 1) (by omega) (by decide)).mp z.1
        have z1 : ¬ lk T t r.1 - 97 < 0 := z.2.1
        have z2 : ¬ 7 < lk T t r.1 - 97 := z.2.2
        have z3 : ¬ (8 : Int32) ≤ lk T t r.1 - 97 := fun y => z2 ((sgt (c := 7) (d := 8) (by decide)).mpr y)
        have q3 : ltc T t 97 8 1 r.1 0 = -1 := by rw [← l1]; exact q1
        rw [ltc] at q3
        obtain ⟨d, hd, e⟩ := rng (c := 8) (n := 8) rfl (by decide) z1 z3
        have nb : ¬ ((ushr (0 : Int32) (lk T t r.1 - 97)) &&& 1) = 1 := by
          rw [e, bitu _ (by omega), b_0]; decide
        rw [if_neg (fun y => y.elim (fun y => y.elim z1 z3) nb), ltc, e] at q3
        have : ∀ d, d < 8 → ¬ ((0 : Int32) ||| ((1 : Int32) <<< (nI d &&& 31))) = -1 := by decide +kernel
        exact this d hd q3
      · have q1' : tLt T t 97 8 a = nI c := el.trans q1
        have hc' : c < 256 := hc
        have p0 : (0 : Int32) ≤ nI c := nI_pos' (by omega)
        have ed : tkDv T t a = nI c := by unfold tkDv; rw [if_pos k2, q1', if_pos p0]
        have edd : tkD T t a = a := by unfold tkD; rw [if_pos k2, q1', if_pos p0]
        have cn : pcn c = r.2.1 - r.1 := by
          have := ltc_cn (T := T) (t := t) (fi := 97) (r.2.1 - r.1) r.1 0 c (by decide) q1 hc'
          rw [this, show pcn 0 = 0 from by decide]; omega
        have key : ∀ c, c < 256 → (bc32 (nI c) = 1 ↔ pcn c = 1) := by decide +kernel
        by_cases o : pcn c = 1
        · have b1 : bc32 (nI c) = 1 := (key c hc').mpr o
          have l1 : r.2.1 - r.1 = 1 := cn.symm.trans o
          have ea : tkO T t a = a := by unfold tkO; rw [ed, if_pos p0, if_pos b1, edd]
          have q3 : ltc T t 97 8 1 r.1 0 = nI c := by rw [← l1]; exact q1
          rw [ltc] at q3
          have n1 : ∀ c, c < 256 → ¬ (-1 : Int32) = nI c := by decide +kernel
          by_cases q : (lk T t r.1 - 97 < 0 ∨ 8 ≤ lk T t r.1 - 97) ∨ ((ushr (0 : Int32) (lk T t r.1 - 97)) &&& 1) = 1
          · rw [if_pos q] at q3; exact absurd q3 (n1 c hc')
          · rw [if_neg q, ltc] at q3
            have z1 : ¬ lk T t r.1 - 97 < 0 := fun y => q (Or.inl (Or.inl y))
            have z3 : ¬ (8 : Int32) ≤ lk T t r.1 - 97 := fun y => q (Or.inl (Or.inr y))
            have z2 : ¬ 7 < lk T t r.1 - 97 := fun y => z3 ((sgt (c := 7) (d := 8) (by decide)).mp y)
            obtain ⟨d, hd, e⟩ := rng (c := 8) (n := 8) rfl (by decide) z1 z3
            have er : ddc T t r = r := by
              unfold ddc
              rw [if_pos ⟨by rw [l1]; rfl, z1, z2⟩, en]; exact wts_t (by decide)
            rw [ea, er]
            refine ⟨h, fun _ => ⟨?_, rfl, rfl, f⟩⟩
            have ev : rdv T t r = nI d := e
            unfold tkOv
            rw [ed, if_pos p0, if_pos b1, ev]
            rw [e] at q3
            rw [← q3]
            have : ∀ d, d < 8 → ntz ((0 : Int32) ||| ((1 : Int32) <<< (nI d &&& 31))) = nI d := by decide +kernel
            exact this d hd
        · have b1 : ¬ bc32 (nI c) = 1 := fun z => o ((key c hc').mp z)
          have ea : tkO T t a = tfl 3 a := by unfold tkO; rw [ed, if_pos p0, if_neg b1, edd]
          refine bad (fun z => o ?_) ea
          rw [cn]
          exact (ninj (i := r.2.1 - r.1) (j := 1) (by omega) (by decide)).mp z.1
    · have ed : tkDv T t a = -1 := by unfold tkDv; rw [if_neg k2]
      have edd : tkD T t a = tfl 2 a := by unfold tkD; rw [if_neg k2]
      have ea : tkO T t a = tfl 2 a := by unfold tkO; rw [ed, if_neg (by decide), edd]
      have er : ddc T t r = nam r := by unfold ddc; exact wts_f fn
      rw [ea, er]
      exact ⟨hn, fun z => absurd z (tfl_ne (by decide))⟩
  · have fr : ¬ r.2.2.2.2.1 = 0 := fun z => f (h.1.trans z)
    have er : ddc T t r = r := by unfold ddc; rw [nam_f fr]; exact wts_f fr
    rw [tkO_f f, er]
    exact ⟨h, fun z => absurd z f⟩
/-- marks -/
def mkc (T : Nat → Int32) (t : Nat) (no : Int32) (r : Rst) : Rst := wts (if (mkv T t r &&& no) = 0 then 1 else 0) 4 (wts (if mkv T t r = -4 then 0 else 1) 3 (mk1 r))
theorem mks_d {no : Int32} : mks T t no r = nxs T t (mkc T t no r) := rfl
theorem tkM_f (h : ¬ a.2.2.2.2.1 = 0) : tkM T t a = a := by
  unfold tkM
  split
  · rfl
  · split
    · split
      · rfl
      · exact tfl_f h
    · exact tfl_f h
theorem mkc_f {no : Int32} (h : ¬ r.2.2.2.2.1 = 0) : mkc T t no r = r := by
  unfold mkc mk1
  rw [wts_f (g := if r.2.2.1 = 1 ∨ r.2.2.1 = 3 then 1 else 0) h, wts_f (g := if mkv T t r = -4 then 0 else 1) h, wts_f h]
/-- what the class does about marks that it has been told before -/
def tk4 (T : Nat → Int32) (t : Nat) (no : Int32) (a : Tst) : Tst := if (no &&& tkMv T t a) = 0 then tkM T t a else tfl 4 (tkM T t a)
theorem rl_marks {no : Int32} (h : RL a r) : RL (tk4 T t no a) (mkc T t no r) ∧ ((tk4 T t no a).2.2.2.2.1 = 0 → tkMv T t a = mkv T t r ∧ tk4 T t no a = a ∧ mkc T t no r = r ∧ a.2.2.2.2.1 = 0) := by
  by_cases f : a.2.2.2.2.1 = 0
  · have fr : r.2.2.2.2.1 = 0 := h.1.symm.trans f
    obtain ⟨e1, e2, ks, num⟩ := h.2.2 f
    have good : tkM T t a = a → tkMv T t a = mkv T t r → ¬ mkv T t r = -4 → mk1 r = r → RL (tk4 T t no a) (mkc T t no r) ∧ ((tk4 T t no a).2.2.2.2.1 = 0 → tkMv T t a = mkv T t r ∧ tk4 T t no a = a ∧ mkc T t no r = r ∧ a.2.2.2.2.1 = 0) := by
      intro ea ev n4 em
      have e3 : wts (if mkv T t r = -4 then 0 else 1) 3 (mk1 r) = r := by rw [em, if_neg n4]; exact wts_t (by decide)
      by_cases z : (no &&& tkMv T t a) = 0
      · have z' : (mkv T t r &&& no) = 0 := by rw [← ev, Int32.and_comm]; exact z
        have e4 : tk4 T t no a = a := by unfold tk4; rw [if_pos z, ea]
        have er : mkc T t no r = r := by unfold mkc; rw [e3, if_pos z']; exact wts_t (by decide)
        rw [e4, er]
        exact ⟨h, fun _ => ⟨ev, rfl, rfl, f⟩⟩
      · have z' : ¬ (mkv T t r &&& no) = 0 := by rw [← ev, Int32.and_comm]; exact z
        have e4 : tk4 T t no a = tfl 4 a := by unfold tk4; rw [if_neg z, ea]
        have er : mkc T t no r = wts 0 4 r := by unfold mkc; rw [e3, if_neg z']
        rw [e4, er]
        exact ⟨rl_fail h f (by decide), fun y => absurd y (tfl_ne (by decide))⟩
    have badk : ∀ k : Int32, ¬ k = 0 → tkM T t a = tfl k a → mkc T t no r = wts 0 k r → RL (tk4 T t no a) (mkc T t no r) ∧ ((tk4 T t no a).2.2.2.2.1 = 0 → tkMv T t a = mkv T t r ∧ tk4 T t no a = a ∧ mkc T t no r = r ∧ a.2.2.2.2.1 = 0) := by
      intro k hk ea er
      have e4 : tk4 T t no a = tfl k a := by
        unfold tk4
        rw [ea]
        split
        · rfl
        · exact tfl_f (tfl_ne hk)
      rw [e4, er]
      exact ⟨rl_fail h f hk, fun y => absurd y (tfl_ne hk)⟩
    by_cases k4 : a.1 = 4
    · have s3 : r.2.2.1 = 3 := (ks4 ks).mp k4
      have s1 : ¬ r.2.2.1 = 1 := by rw [s3]; decide
      have ev : mkv T t r = 0 := by unfold mkv; rw [if_neg s1]
      refine good (by unfold tkM; rw [if_pos k4]) (by unfold tkMv; rw [if_pos k4, ev]) (by rw [ev]; decide) ?_
      unfold mk1; exact wts_t (by rw [if_pos (Or.inr s3)]; decide)
    · by_cases k2 : a.1 = 2
      · have s1 : r.2.2.1 = 1 := (ks2 ks).mp k2
        have em : mk1 r = r := by unfold mk1; exact wts_t (by rw [if_pos (Or.inl s1)]; decide)
        have ev : mkv T t r = ltr T t 112 6 (r.2.1 - r.1) r.1 0 := by unfold mkv; rw [if_pos s1]
        have el : tLt T t 112 6 a = ltc T t 112 6 (r.2.1 - r.1) r.1 0 := by unfold tLt; rw [e1, e2]
        rcases lt_eq (T := T) (t := t) (fi := 112) (ma := 6) (Or.inl rfl) (r.2.1 - r.1) r.1 0 (by decide) with ⟨q1, q2⟩ | ⟨c, hc, q1, q2⟩
        · have q1' : tLt T t 112 6 a = -1 := el.trans q1
          have q2' : mkv T t r = -4 := ev.trans q2
          refine badk 3 (by decide) (by unfold tkM; rw [if_neg k4, if_pos k2, q1', if_neg (by decide)]) ?_
          unfold mkc
          rw [em, q2', if_pos rfl, wts_f]
          unfold wts; rw [if_pos ⟨rfl, fr⟩]; show ¬ (3 : Int32) = 0; decide
        · have q1' : tLt T t 112 6 a = nI c := el.trans q1
          have q2' : mkv T t r = nI c := ev.trans q2
          have hc' : c < 64 := hc
          have n4 : ∀ c, c < 64 → ¬ nI c = -4 := by decide +kernel
          have p0 : (0 : Int32) ≤ nI c := nI_pos' (by omega)
          exact good (by unfold tkM; rw [if_neg k4, if_pos k2, q1', if_pos p0]) (by unfold tkMv; rw [if_neg k4, if_pos k2, q1', if_pos p0, q2']) (by rw [q2']; exact n4 c hc') em
      · have s1 : ¬ r.2.2.1 = 1 := fun z => k2 ((ks2 ks).mpr z)
        have s3 : ¬ r.2.2.1 = 3 := fun z => k4 ((ks4 ks).mpr z)
        refine badk 2 (by decide) (by unfold tkM; rw [if_neg k4, if_neg k2]) ?_
        have e : mk1 r = wts 0 2 r := by unfold mk1; rw [if_neg (fun z => z.elim s1 s3)]
        have fn : ¬ (wts 0 2 r).2.2.2.2.1 = 0 := by unfold wts; rw [if_pos ⟨rfl, fr⟩]; show ¬ (2 : Int32) = 0; decide
        unfold mkc
        rw [e, wts_f (g := if mkv T t r = -4 then 0 else 1) fn, wts_f fn]
  · have fr : ¬ r.2.2.2.2.1 = 0 := fun z => f (h.1.trans z)
    have e4 : tk4 T t no a = a := by
      unfold tk4
      rw [tkM_f f]
      split
      · rfl
      · exact tfl_f f
    rw [e4, mkc_f fr]
    exact ⟨h, fun z => absurd z f⟩
theorem adv_k {x : Tst} (f : x.2.2.2.2.1 = 0) (h : ¬ (adv T t x).2.2.2.2.1 = 0) : (adv T t x).1 = 0 := by
  unfold adv at h ⊢
  by_cases q : (adv0 T t x).1 = 0
  · rw [if_pos q]
    unfold tfl
    split
    · exact q
    · exact q
  · rw [if_neg q] at h
    exact absurd (adv0_f.trans f) h
/-- the end of a line -/
theorem rl_close (tc : TC M T t) {x : Tst} {y : Rst} (h : RL x y) : RL (tkC T t x) (eln T t (nxs T t y)) := by
  by_cases f : x.2.2.2.2.1 = 0
  · have ha := rl_adv tc h f
    have ec : tkC T t x = if (adv T t x).1 = 5 then adv T t (adv T t x) else tfl 2 (adv T t x) := by unfold tkC; rw [if_pos f]
    rw [ec]
    have ka : ¬ (adv T t x).2.2.2.2.1 = 0 → (adv T t x).1 = 0 := adv_k f
    generalize adv T t x = a at ha ka ⊢
    generalize nxs T t y = r at ha ⊢
    unfold eln
    by_cases fa : a.2.2.2.2.1 = 0
    · have fr : r.2.2.2.2.1 = 0 := ha.1.symm.trans fa
      obtain ⟨e1, e2, ks, num⟩ := ha.2.2 fa
      by_cases k5 : a.1 = 5
      · have s4 : r.2.2.1 = 4 := (ks5 ks).mp k5
        have ew : wts (if r.2.2.1 = 4 then 1 else 0) 2 r = r := wts_t (by rw [if_pos s4]; decide)
        rw [if_pos k5, ew]
        exact rl_adv tc ha fa
      · have s4 : ¬ r.2.2.1 = 4 := fun z => k5 ((ks5 ks).mpr z)
        rw [if_neg k5, if_neg s4]
        have fn : ¬ (wts 0 2 r).2.2.2.2.1 = 0 := by unfold wts; rw [if_pos ⟨rfl, fr⟩]; show ¬ (2 : Int32) = 0; decide
        rw [nxs_f fn]
        exact rl_fail ha fa (by decide)
    · have fr : ¬ r.2.2.2.2.1 = 0 := fun z => fa (ha.1.trans z)
      have k5 : ¬ a.1 = 5 := by rw [ka fa]; decide
      rw [if_neg k5, tfl_f fa, wts_f fr, nxs_f fr]
      exact ha
  · have fy : ¬ y.2.2.2.2.1 = 0 := fun z => f (h.1.trans z)
    have ec : tkC T t x = x := by unfold tkC; rw [if_neg f]
    rw [ec, nxs_f fy]
    unfold eln
    rw [wts_f fy, nxs_f fy]
    exact h
end EQ2
end MG43
section MG44
/-! ===== names ===== -/
/-- a token as a list of letters -/
def tkl (T : Nat → Int32) (t : Nat) : Nat → Nat → List Int32
  | _, 0 => []
  | f, n + 1 => lk T t f :: tkl T t (f + 1) n
def chl (j : Nat) : Nat → Nat → List Int32
  | _, 0 => []
  | f, n + 1 => chr j f :: chl j (f + 1) n
theorem tkl_len (T : Nat → Int32) (t : Nat) : ∀ f n, (tkl T t f n).length = n
  | _, 0 => rfl
  | f, n + 1 => by rw [tkl, List.length_cons, tkl_len T t (f + 1) n]
theorem chl_len (j : Nat) : ∀ f n, (chl j f n).length = n
  | _, 0 => rfl
  | f, n + 1 => by rw [chl, List.length_cons, chl_len j (f + 1) n]
theorem nme_d (T : Nat → Int32) (t j : Nat) : ∀ n p f, nme T t j p n f = decide (chl j f n = tkl T t p n)
  | 0, _, _ => by rw [nme]; rfl
  | n + 1, p, f => by
    rw [nme, chl, tkl, nme_d T t j n (p + 1) (f + 1)]
    by_cases c : chr j f = lk T t p
    · rw [if_pos c, c]
      by_cases d : chl j (f + 1) n = tkl T t (p + 1) n
      · rw [decide_eq_true d, d, decide_eq_true rfl]
      · rw [decide_eq_false d, decide_eq_false (fun z => d (List.cons.inj z).2)]
    · rw [if_neg c, decide_eq_false (fun z => c (List.cons.inj z).1)]
theorem nmd_d (T : Nat → Int32) (t j : Nat) (s : Tst) (f u : Nat) : nmd T t j s f u = decide (chl j f (u - f) = tkl T t s.2.1 (s.2.2.1 - s.2.1)) := by
  unfold nmd
  by_cases l : u - f = s.2.2.1 - s.2.1
  · rw [decide_eq_true l, Bool.true_and, nme_d, l]
  · rw [decide_eq_false l, Bool.false_and, decide_eq_false (fun z => l ?_)]
    have := congrArg List.length z
    rwa [chl_len, tkl_len] at this
/-- the names of a constant -/
def sgs (j : Nat) : Nat → Nat → Nat → List (List Int32)
  | 0, _, _ => []
  | n + 1, i, g => if i = slen.getD j 0 ∨ chr j i = 32 then chl j g (i - g) :: sgs j n (i + 1) (i + 1) else sgs j n (i + 1) g
def fnd (k : List Int32) : List (List Int32) → Nat → Int32
  | [], _ => -1
  | l :: L, x => if l = k then nI x else fnd k L (x + 1)
theorem amg_d (T : Nat → Int32) (t j : Nat) (s : Tst) : ∀ n i g x, amg T t j s n i g x = fnd (tkl T t s.2.1 (s.2.2.1 - s.2.1)) (sgs j n i g) x
  | 0, _, _, _ => rfl
  | n + 1, i, g, x => by
    rw [amg, sgs]
    by_cases c : i = slen.getD j 0 ∨ chr j i = 32
    · rw [if_pos c, if_pos c, fnd, nmd_d, amg_d T t j s n (i + 1) (i + 1) (x + 1)]
      by_cases d : chl j g (i - g) = tkl T t s.2.1 (s.2.2.1 - s.2.1)
      · rw [decide_eq_true d, if_pos rfl, if_pos d]
      · rw [decide_eq_false d, if_neg (by decide), if_neg d]
    · rw [if_neg c, if_neg c]
      exact amg_d T t j s n (i + 1) g x
theorem amo_d (T : Nat → Int32) (t j : Nat) (s : Tst) : amo T t j s = fnd (tkl T t s.2.1 (s.2.2.1 - s.2.1)) (sgs j (slen.getD j 0 + 1) 0 0) 0 := amg_d T t j s _ 0 0 0
theorem sgs0 : sgs 0 (slen.getD 0 0 + 1) 0 0 = [[119, 111, 114, 100], [99, 105, 116, 101], [97, 103, 97, 105, 110, 115, 116], [110, 111, 116, 101], [108, 105, 107, 101], [108, 97, 119], [105, 110], [99, 111, 112, 105, 101, 115]] := by decide +kernel
theorem sgs1 : sgs 1 (slen.getD 1 0 + 1) 0 0 = [[110, 111], [121, 101, 115]] := by decide +kernel
theorem sgs2 : sgs 2 (slen.getD 2 0 + 1) 0 0 = [[109, 97, 105, 110], [99, 111, 112, 105, 101, 115], [110, 111, 116, 101, 115], [116, 119, 111], [104, 101, 97, 100], [115, 105, 108, 101, 110, 116], [108, 97, 119, 115]] := by decide +kernel
theorem sgs3 : sgs 3 (slen.getD 3 0 + 1) 0 0 = [[110, 111, 110, 101], [108, 97, 116, 101, 114], [115, 112, 101, 99, 105, 97, 108]] := by decide +kernel
theorem sgs4 : sgs 4 (slen.getD 4 0 + 1) 0 0 = [[110, 111], [121, 101, 115], [111, 112, 101, 110]] := by decide +kernel
theorem sgs5 : sgs 5 (slen.getD 5 0 + 1) 0 0 = [[110, 111, 110, 101], [108, 97, 116, 101, 114], [102, 105, 114, 115, 116]] := by decide +kernel
section EQ3
variable (T : Nat → Int32) (t f p : Nat)
theorem tk_ne {l : List Int32} (h : ¬ p - f = l.length) : ¬ tkl T t f (p - f) = l := fun z => h (by rw [← z, tkl_len])
theorem isv2 (a b : Int32) (hp : p ≤ 400) : isv T t f p 2 a b 0 0 = decide (tkl T t f (p - f) = [a, b]) := by
  unfold isv
  by_cases l : p - f = 2
  · rw [l]
    refine decide_eq_decide.mpr ?_
    simp only [tkl, List.cons.injEq, and_true]
    exact ⟨fun z => ⟨z.2.1, z.2.2.1⟩, fun z => ⟨rfl, z.1, z.2, Or.inl (by decide), Or.inl (by decide)⟩⟩
  · rw [decide_eq_false (tk_ne T t f p (l := [a, b]) l), decide_eq_false]
    exact fun z => l ((ninj (j := 2) (by omega) (by decide)).mp z.1)
theorem isv3 (a b c : Int32) (hp : p ≤ 400) : isv T t f p 3 a b c 0 = decide (tkl T t f (p - f) = [a, b, c]) := by
  unfold isv
  by_cases l : p - f = 3
  · rw [l]
    refine decide_eq_decide.mpr ?_
    simp only [tkl, List.cons.injEq, and_true]
    refine ⟨fun z => ⟨z.2.1, z.2.2.1, ?_⟩, fun z => ⟨rfl, z.1, z.2.1, Or.inr z.2.2, Or.inl (by decide)⟩⟩
    rcases z.2.2.2.1 with y | y
    · exact absurd y (by decide)
    · exact y
  · rw [decide_eq_false (tk_ne T t f p (l := [a, b, c]) l), decide_eq_false]
    exact fun z => l ((ninj (j := 3) (by omega) (by decide)).mp z.1)
theorem isv4 (a b c d : Int32) (hp : p ≤ 400) : isv T t f p 4 a b c d = decide (tkl T t f (p - f) = [a, b, c, d]) := by
  unfold isv
  by_cases l : p - f = 4
  · rw [l]
    refine decide_eq_decide.mpr ?_
    simp only [tkl, List.cons.injEq, and_true]
    refine ⟨fun z => ⟨z.2.1, z.2.2.1, ?_, ?_⟩, fun z => ⟨rfl, z.1, z.2.1, Or.inr z.2.2.1, Or.inr z.2.2.2⟩⟩
    · rcases z.2.2.2.1 with y | y
      · exact absurd y (by decide)
      · exact y
    · rcases z.2.2.2.2 with y | y
      · exact absurd y (by decide)
      · exact y
  · rw [decide_eq_false (tk_ne T t f p (l := [a, b, c, d]) l), decide_eq_false]
    exact fun z => l ((ninj (j := 4) (by omega) (by decide)).mp z.1)
theorem isv5 (a b c d e : Int32) (hp : p ≤ 400) : (isv T t f p 5 a b c d && gov T t f 4 e 0 0) = decide (tkl T t f (p - f) = [a, b, c, d, e]) := by
  unfold isv gov
  rw [← Bool.decide_and]
  by_cases l : p - f = 5
  · rw [l]
    refine decide_eq_decide.mpr ?_
    simp only [tkl, List.cons.injEq, and_true]
    refine ⟨fun z => ⟨z.1.2.1, z.1.2.2.1, ?_, ?_, z.2.1⟩, fun z => ⟨⟨rfl, z.1, z.2.1, Or.inr z.2.2.1, Or.inr z.2.2.2.1⟩, z.2.2.2.2, Or.inl trivial, Or.inl trivial⟩⟩
    · rcases z.1.2.2.2.1 with y | y
      · exact absurd y (by decide)
      · exact y
    · rcases z.1.2.2.2.2 with y | y
      · exact absurd y (by decide)
      · exact y
  · rw [decide_eq_false (tk_ne T t f p (l := [a, b, c, d, e]) l), decide_eq_false]
    exact fun z => l ((ninj (j := 5) (by omega) (by decide)).mp z.1.1)
theorem isv6 (a b c d e g : Int32) (hg : ¬ g = 0) (hp : p ≤ 400) : (isv T t f p 6 a b c d && gov T t f 4 e g 0) = decide (tkl T t f (p - f) = [a, b, c, d, e, g]) := by
  unfold isv gov
  rw [← Bool.decide_and]
  by_cases l : p - f = 6
  · rw [l]
    refine decide_eq_decide.mpr ?_
    simp only [tkl, List.cons.injEq, and_true]
    refine ⟨fun z => ⟨z.1.2.1, z.1.2.2.1, ?_, ?_, z.2.1, ?_⟩, fun z => ⟨⟨rfl, z.1, z.2.1, Or.inr z.2.2.1, Or.inr z.2.2.2.1⟩, z.2.2.2.2.1, Or.inr z.2.2.2.2.2, Or.inl trivial⟩⟩
    · rcases z.1.2.2.2.1 with y | y
      · exact absurd y (by decide)
      · exact y
    · rcases z.1.2.2.2.2 with y | y
      · exact absurd y (by decide)
      · exact y
    · exact z.2.2.1.resolve_left hg
  · rw [decide_eq_false (tk_ne T t f p (l := [a, b, c, d, e, g]) l), decide_eq_false]
    exact fun z => l ((ninj (j := 6) (by omega) (by decide)).mp z.1.1)
theorem isv7 (a b c d e g i : Int32) (hg : ¬ g = 0) (hi : ¬ i = 0) (hp : p ≤ 400) : (isv T t f p 7 a b c d && gov T t f 4 e g i) = decide (tkl T t f (p - f) = [a, b, c, d, e, g, i]) := by
  unfold isv gov
  rw [← Bool.decide_and]
  by_cases l : p - f = 7
  · rw [l]
    refine decide_eq_decide.mpr ?_
    simp only [tkl, List.cons.injEq, and_true]
    refine ⟨fun z => ⟨z.1.2.1, z.1.2.2.1, ?_, ?_, z.2.1, ?_, ?_⟩, fun z => ⟨⟨rfl, z.1, z.2.1, Or.inr z.2.2.1, Or.inr z.2.2.2.1⟩, z.2.2.2.2.1, Or.inr z.2.2.2.2.2.1, Or.inr z.2.2.2.2.2.2⟩⟩
    · rcases z.1.2.2.2.1 with y | y
      · exact absurd y (by decide)
      · exact y
    · rcases z.1.2.2.2.2 with y | y
      · exact absurd y (by decide)
      · exact y
    · exact z.2.2.1.resolve_left hg
    · exact z.2.2.2.resolve_left hi
  · rw [decide_eq_false (tk_ne T t f p (l := [a, b, c, d, e, g, i]) l), decide_eq_false]
    exact fun z => l ((ninj (j := 7) (by omega) (by decide)).mp z.1.1)
end EQ3
end MG44
section MG45
/-! ===== which name stands there ===== -/
def NT : List (List Int32 × Int32) := [([119, 111, 114, 100], 0), ([99, 105, 116, 101], 1), ([97, 103, 97, 105, 110, 115, 116], 2), ([110, 111, 116, 101], 3), ([108, 105, 107, 101], 4), ([108, 97, 119], 5), ([105, 110], 10), ([99, 111, 112, 105, 101, 115], 11), ([109, 97, 105, 110], 12), ([110, 111, 116, 101, 115], 13), ([116, 119, 111], 14), ([104, 101, 97, 100], 15), ([115, 105, 108, 101, 110, 116], 16), ([108, 97, 119, 115], 17), ([108, 97, 116, 101, 114], 18), ([115, 112, 101, 99, 105, 97, 108], 19), ([110, 111, 110, 101], 20), ([102, 105, 114, 115, 116], 21), ([121, 101, 115], 22), ([110, 111], 23), ([111, 112, 101, 110], 24)]
def lkp (k : List Int32) : List (List Int32 × Int32) → Int32
  | [] => -4
  | q :: L => if k = q.1 then q.2 else lkp k L
def nmF (k : List Int32) : Int32 := lkp k NT
theorem lkp_mem (k : List Int32) : ∀ L, lkp k L = -4 ∨ ∃ q ∈ L, k = q.1 ∧ lkp k L = q.2
  | [] => Or.inl rfl
  | q :: L => by
    rw [lkp]
    by_cases c : k = q.1
    · rw [if_pos c]; exact Or.inr ⟨q, List.mem_cons_self, c, rfl⟩
    · rw [if_neg c]
      exact (lkp_mem k L).imp id (fun ⟨q', h1, h2⟩ => ⟨q', List.mem_cons_of_mem _ h1, h2⟩)
theorem nt_of : ∀ q ∈ NT, nmF q.1 = q.2 := by decide +kernel
theorem nt_inj : ∀ q ∈ NT, ∀ q' ∈ NT, q.2 = q'.2 → q.1 = q'.1 := by decide +kernel
theorem nt_n4 : ∀ q ∈ NT, ¬ q.2 = -4 := by decide +kernel
theorem nmF_iff {k : List Int32} {q : List Int32 × Int32} (hq : q ∈ NT) : nmF k = q.2 ↔ k = q.1 := by
  constructor
  · intro h
    rcases lkp_mem k NT with e | ⟨q', h1, h2, h3⟩
    · exact absurd (h.symm.trans e) (nt_n4 q hq)
    · rw [h2]; exact (nt_inj q hq q' h1 (h.symm.trans h3)).symm
  · rintro rfl; exact nt_of q hq
theorem fnd_c (k : List Int32) : ∀ L x, (fnd k L x = -1 ∧ ∀ l ∈ L, ¬ k = l) ∨ ∃ i, i < L.length ∧ L[i]? = some k ∧ fnd k L x = nI (x + i)
  | [], x => Or.inl ⟨rfl, fun l hl => absurd hl List.not_mem_nil⟩
  | l :: L, x => by
    rw [fnd]
    by_cases c : l = k
    · rw [if_pos c]
      exact Or.inr ⟨0, by simp, by simp [c], rfl⟩
    · rw [if_neg c]
      rcases fnd_c k L (x + 1) with ⟨h1, h2⟩ | ⟨i, h1, h2, h3⟩
      · refine Or.inl ⟨h1, fun l' hl => ?_⟩
        rcases List.mem_cons.mp hl with rfl | hl
        · exact fun z => c z.symm
        · exact h2 l' hl
      · refine Or.inr ⟨i + 1, by simpa using h1, by simpa using h2, ?_⟩
        rw [h3, show x + 1 + i = x + (i + 1) by omega]
/-- a place among names, a code -/
theorem fn_rel {k : List Int32} {L : List (List Int32)} {C : List Int32} (h1 : ∀ i, i < L.length → ∀ l, L[i]? = some l → ∃ c, C[i]? = some c ∧ (l, c) ∈ NT) (h2 : ∀ c ∈ C, ∃ l ∈ L, (l, c) ∈ NT) : (fnd k L 0 = -1 ∧ ∀ c ∈ C, ¬ nmF k = c) ∨ ∃ i, i < L.length ∧ fnd k L 0 = nI i ∧ C[i]? = some (nmF k) := by
  rcases fnd_c k L 0 with ⟨e, n⟩ | ⟨i, hi, hl, e⟩
  · refine Or.inl ⟨e, fun c hc z => ?_⟩
    obtain ⟨l, hl, hq⟩ := h2 c hc
    exact n l hl ((nmF_iff (q := (l, c)) hq).mp z)
  · obtain ⟨c, hc, hq⟩ := h1 i hi k hl
    refine Or.inr ⟨i, hi, by rw [e, Nat.zero_add], ?_⟩
    rw [hc, nt_of (k, c) hq]
def NL0 : List (List Int32) := [[119, 111, 114, 100], [99, 105, 116, 101], [97, 103, 97, 105, 110, 115, 116], [110, 111, 116, 101], [108, 105, 107, 101], [108, 97, 119], [105, 110], [99, 111, 112, 105, 101, 115]]
def NL1 : List (List Int32) := [[110, 111], [121, 101, 115]]
def NL2 : List (List Int32) := [[109, 97, 105, 110], [99, 111, 112, 105, 101, 115], [110, 111, 116, 101, 115], [116, 119, 111], [104, 101, 97, 100], [115, 105, 108, 101, 110, 116], [108, 97, 119, 115]]
def NL3 : List (List Int32) := [[110, 111, 110, 101], [108, 97, 116, 101, 114], [115, 112, 101, 99, 105, 97, 108]]
def NL4 : List (List Int32) := [[110, 111], [121, 101, 115], [111, 112, 101, 110]]
def NL5 : List (List Int32) := [[110, 111, 110, 101], [108, 97, 116, 101, 114], [102, 105, 114, 115, 116]]
theorem frq0 (k : List Int32) : (fnd k NL0 0 = -1 ∧ ∀ c ∈ ([0, 1, 2, 3, 4, 5, 10, 11] : List Int32), ¬ nmF k = c) ∨ ∃ i, i < 8 ∧ fnd k NL0 0 = nI i ∧ ([0, 1, 2, 3, 4, 5, 10, 11] : List Int32)[i]? = some (nmF k) := by
  refine fn_rel (L := NL0) (fun i hi l hl => ?_) ?_
  · match i, hi, hl with
    | 0, _, hl => cases hl; exact ⟨0, rfl, by decide +kernel⟩
    | 1, _, hl => cases hl; exact ⟨1, rfl, by decide +kernel⟩
    | 2, _, hl => cases hl; exact ⟨2, rfl, by decide +kernel⟩
    | 3, _, hl => cases hl; exact ⟨3, rfl, by decide +kernel⟩
    | 4, _, hl => cases hl; exact ⟨4, rfl, by decide +kernel⟩
    | 5, _, hl => cases hl; exact ⟨5, rfl, by decide +kernel⟩
    | 6, _, hl => cases hl; exact ⟨10, rfl, by decide +kernel⟩
    | 7, _, hl => cases hl; exact ⟨11, rfl, by decide +kernel⟩
    | n + 8, hi, _ => exact absurd (show n + 8 < 8 from hi) (by omega)
  · decide +kernel
theorem frq1 (k : List Int32) : (fnd k NL1 0 = -1 ∧ ∀ c ∈ ([23, 22] : List Int32), ¬ nmF k = c) ∨ ∃ i, i < 2 ∧ fnd k NL1 0 = nI i ∧ ([23, 22] : List Int32)[i]? = some (nmF k) := by
  refine fn_rel (L := NL1) (fun i hi l hl => ?_) ?_
  · match i, hi, hl with
    | 0, _, hl => cases hl; exact ⟨23, rfl, by decide +kernel⟩
    | 1, _, hl => cases hl; exact ⟨22, rfl, by decide +kernel⟩
    | n + 2, hi, _ => exact absurd (show n + 2 < 2 from hi) (by omega)
  · decide +kernel
theorem frq2 (k : List Int32) : (fnd k NL2 0 = -1 ∧ ∀ c ∈ ([12, 11, 13, 14, 15, 16, 17] : List Int32), ¬ nmF k = c) ∨ ∃ i, i < 7 ∧ fnd k NL2 0 = nI i ∧ ([12, 11, 13, 14, 15, 16, 17] : List Int32)[i]? = some (nmF k) := by
  refine fn_rel (L := NL2) (fun i hi l hl => ?_) ?_
  · match i, hi, hl with
    | 0, _, hl => cases hl; exact ⟨12, rfl, by decide +kernel⟩
    | 1, _, hl => cases hl; exact ⟨11, rfl, by decide +kernel⟩
    | 2, _, hl => cases hl; exact ⟨13, rfl, by decide +kernel⟩
    | 3, _, hl => cases hl; exact ⟨14, rfl, by decide +kernel⟩
    | 4, _, hl => cases hl; exact ⟨15, rfl, by decide +kernel⟩
    | 5, _, hl => cases hl; exact ⟨16, rfl, by decide +kernel⟩
    | 6, _, hl => cases hl; exact ⟨17, rfl, by decide +kernel⟩
    | n + 7, hi, _ => exact absurd (show n + 7 < 7 from hi) (by omega)
  · decide +kernel
theorem frq3 (k : List Int32) : (fnd k NL3 0 = -1 ∧ ∀ c ∈ ([20, 18, 19] : List Int32), ¬ nmF k = c) ∨ ∃ i, i < 3 ∧ fnd k NL3 0 = nI i ∧ ([20, 18, 19] : List Int32)[i]? = some (nmF k) := by
  refine fn_rel (L := NL3) (fun i hi l hl => ?_) ?_
  · match i, hi, hl with
    | 0, _, hl => cases hl; exact ⟨20, rfl, by decide +kernel⟩
    | 1, _, hl => cases hl; exact ⟨18, rfl, by decide +kernel⟩
    | 2, _, hl => cases hl; exact ⟨19, rfl, by decide +kernel⟩
    | n + 3, hi, _ => exact absurd (show n + 3 < 3 from hi) (by omega)
  · decide +kernel
theorem frq4 (k : List Int32) : (fnd k NL4 0 = -1 ∧ ∀ c ∈ ([23, 22, 24] : List Int32), ¬ nmF k = c) ∨ ∃ i, i < 3 ∧ fnd k NL4 0 = nI i ∧ ([23, 22, 24] : List Int32)[i]? = some (nmF k) := by
  refine fn_rel (L := NL4) (fun i hi l hl => ?_) ?_
  · match i, hi, hl with
    | 0, _, hl => cases hl; exact ⟨23, rfl, by decide +kernel⟩
    | 1, _, hl => cases hl; exact ⟨22, rfl, by decide +kernel⟩
    | 2, _, hl => cases hl; exact ⟨24, rfl, by decide +kernel⟩
    | n + 3, hi, _ => exact absurd (show n + 3 < 3 from hi) (by omega)
  · decide +kernel
theorem frq5 (k : List Int32) : (fnd k NL5 0 = -1 ∧ ∀ c ∈ ([20, 18, 21] : List Int32), ¬ nmF k = c) ∨ ∃ i, i < 3 ∧ fnd k NL5 0 = nI i ∧ ([20, 18, 21] : List Int32)[i]? = some (nmF k) := by
  refine fn_rel (L := NL5) (fun i hi l hl => ?_) ?_
  · match i, hi, hl with
    | 0, _, hl => cases hl; exact ⟨20, rfl, by decide +kernel⟩
    | 1, _, hl => cases hl; exact ⟨18, rfl, by decide +kernel⟩
    | 2, _, hl => cases hl; exact ⟨21, rfl, by decide +kernel⟩
    | n + 3, hi, _ => exact absurd (show n + 3 < 3 from hi) (by omega)
  · decide +kernel
theorem nmv_d (T : Nat → Int32) (t f p : Nat) (hp : p ≤ 400) : nmv T t f p = nmF (tkl T t f (p - f)) := by
  unfold nmv rnv
  rw [isv4 T t f p 119 111 114 100 hp, isv4 T t f p 99 105 116 101 hp, isv7 T t f p 97 103 97 105 110 115 116 (by decide) (by decide) hp, isv4 T t f p 110 111 116 101 hp, isv4 T t f p 108 105 107 101 hp, isv3 T t f p 108 97 119 hp, isv2 T t f p 105 110 hp, isv6 T t f p 99 111 112 105 101 115 (by decide) hp, isv4 T t f p 109 97 105 110 hp, isv5 T t f p 110 111 116 101 115 hp, isv3 T t f p 116 119 111 hp, isv4 T t f p 104 101 97 100 hp, isv6 T t f p 115 105 108 101 110 116 (by decide) hp, isv4 T t f p 108 97 119 115 hp, isv5 T t f p 108 97 116 101 114 hp, isv7 T t f p 115 112 101 99 105 97 108 (by decide) (by decide) hp, isv4 T t f p 110 111 110 101 hp, isv5 T t f p 102 105 114 115 116 hp, isv3 T t f p 121 101 115 hp, isv2 T t f p 110 111 hp, isv4 T t f p 111 112 101 110 hp]
  simp only [decide_eq_true_eq]
  rfl
theorem am0 (T : Nat → Int32) (t : Nat) (s : Tst) : amo T t 0 s = fnd (tkl T t s.2.1 (s.2.2.1 - s.2.1)) NL0 0 := by rw [amo_d, sgs0]; rfl
theorem am1 (T : Nat → Int32) (t : Nat) (s : Tst) : amo T t 1 s = fnd (tkl T t s.2.1 (s.2.2.1 - s.2.1)) NL1 0 := by rw [amo_d, sgs1]; rfl
theorem am2 (T : Nat → Int32) (t : Nat) (s : Tst) : amo T t 2 s = fnd (tkl T t s.2.1 (s.2.2.1 - s.2.1)) NL2 0 := by rw [amo_d, sgs2]; rfl
theorem am3 (T : Nat → Int32) (t : Nat) (s : Tst) : amo T t 3 s = fnd (tkl T t s.2.1 (s.2.2.1 - s.2.1)) NL3 0 := by rw [amo_d, sgs3]; rfl
theorem am4 (T : Nat → Int32) (t : Nat) (s : Tst) : amo T t 4 s = fnd (tkl T t s.2.1 (s.2.2.1 - s.2.1)) NL4 0 := by rw [amo_d, sgs4]; rfl
theorem am5 (T : Nat → Int32) (t : Nat) (s : Tst) : amo T t 5 s = fnd (tkl T t s.2.1 (s.2.2.1 - s.2.1)) NL5 0 := by rw [amo_d, sgs5]; rfl
end MG45
section MG46
/-! ===== answers, one of some names, a word: the same ===== -/
section EQ5
variable {M : Mm} {T : Nat → Int32} {t : Nat} {a : Tst} {r : Rst}
theorem rl_tok (h : RL a r) (f : a.2.2.2.2.1 = 0) : tkl T t a.2.1 (a.2.2.1 - a.2.1) = tkl T t r.1 (r.2.1 - r.1) := by
  obtain ⟨e1, e2, -, -⟩ := h.2.2 f
  rw [e1, e2]
/-- an answer -/
def anc (T : Nat → Int32) (t : Nat) (r : Rst) : Rst := wts (if nmk T t r = 22 ∨ nmk T t r = 23 then 1 else 0) 3 (nam r)
theorem ras_d : ras T t r = nxs T t (anc T t r) := rfl
theorem anc_f (h : ¬ r.2.2.2.2.1 = 0) : anc T t r = r := by unfold anc; rw [nam_f h]; exact wts_f h
theorem tkA_f (h : ¬ a.2.2.2.2.1 = 0) : tkA T t a = a := by
  unfold tkA
  split
  · split
    · rfl
    · exact tfl_f h
  · exact tfl_f h
theorem rl_ans (hr : r.2.1 ≤ 400) (h : RL a r) : RL (tkA T t a) (anc T t r) ∧ ((tkA T t a).2.2.2.2.1 = 0 → tkAv T t a = (if nmk T t r = 22 then 1 else 0) ∧ tkA T t a = a ∧ anc T t r = r ∧ a.2.2.2.2.1 = 0) := by
  by_cases f : a.2.2.2.2.1 = 0
  · have fr : r.2.2.2.2.1 = 0 := h.1.symm.trans f
    rcases rl_nam h f with ⟨k2, en, s1⟩ | ⟨k2, hn, fn⟩
    · have ek : nmk T t r = nmF (tkl T t r.1 (r.2.1 - r.1)) := by unfold nmk; rw [en, if_pos fr, nmv_d T t _ _ hr]
      have ea : amo T t 1 a = fnd (tkl T t r.1 (r.2.1 - r.1)) NL1 0 := by rw [am1, rl_tok h f]
      have fin : ∀ v n : Int32, amo T t 1 a = v → nmk T t r = n → (0 : Int32) ≤ v → (n = 22 ∨ n = 23) → v = (if n = 22 then 1 else 0) → RL (tkA T t a) (anc T t r) ∧ ((tkA T t a).2.2.2.2.1 = 0 → tkAv T t a = (if nmk T t r = 22 then 1 else 0) ∧ tkA T t a = a ∧ anc T t r = r ∧ a.2.2.2.2.1 = 0) := by
        intro v n hv hn p0 hc hq
        have e1 : tkA T t a = a := by unfold tkA; rw [if_pos k2, hv, if_pos p0]
        have e2 : anc T t r = r := by unfold anc; rw [hn, if_pos hc, en]; exact wts_t (by decide)
        rw [e1, e2]
        refine ⟨h, fun _ => ⟨?_, rfl, rfl, f⟩⟩
        unfold tkAv; rw [if_pos k2, hv, if_pos p0, hn]; exact hq
      rcases frq1 (tkl T t r.1 (r.2.1 - r.1)) with ⟨e, n⟩ | ⟨i, hi, e, c⟩
      · have e1 : tkA T t a = tfl 3 a := by unfold tkA; rw [if_pos k2, ea, e, if_neg (by decide)]
        have nc : ¬ (nmk T t r = 22 ∨ nmk T t r = 23) := by
          rw [ek]
          rintro (z | z)
          · exact n 22 (by decide) z
          · exact n 23 (by decide) z
        have e2 : anc T t r = wts 0 3 r := by unfold anc; rw [if_neg nc, en]
        rw [e1, e2]
        exact ⟨rl_fail h f (by decide), fun z => absurd z (tfl_ne (by decide))⟩
      · match i, hi, c with
        | 0, _, c =>
          have c' : (23 : Int32) = nmF (tkl T t r.1 (r.2.1 - r.1)) := Option.some.inj c
          exact fin (nI 0) 23 (ea.trans e) (ek.trans c'.symm) (by decide) (Or.inr rfl) (by decide)
        | 1, _, c =>
          have c' : (22 : Int32) = nmF (tkl T t r.1 (r.2.1 - r.1)) := Option.some.inj c
          exact fin (nI 1) 22 (ea.trans e) (ek.trans c'.symm) (by decide) (Or.inl rfl) (by decide)
    · have ea : tkA T t a = tfl 2 a := by unfold tkA; rw [if_neg k2]
      have er : anc T t r = nam r := by unfold anc; exact wts_f fn
      rw [ea, er]
      exact ⟨hn, fun z => absurd z (tfl_ne (by decide))⟩
  · have fr : ¬ r.2.2.2.2.1 = 0 := fun z => f (h.1.trans z)
    rw [tkA_f f, anc_f fr]
    exact ⟨h, fun z => absurd z f⟩
/-- behind a fault nothing moves -/
theorem rds_f (h : ¬ r.2.2.2.2.1 = 0) : rds T t r = r := by
  rw [rds_d]
  have : ddc T t r = r := by unfold ddc; rw [nam_f h]; exact wts_f h
  rw [this, nxs_f h]
theorem mks_f {no : Int32} (h : ¬ r.2.2.2.2.1 = 0) : mks T t no r = r := by rw [mks_d, mkc_f h, nxs_f h]
theorem ras_f (h : ¬ r.2.2.2.2.1 = 0) : ras T t r = r := by rw [ras_d, anc_f h, nxs_f h]
theorem rnf {lo hi : Int32} (h : ¬ r.2.2.2.2.1 = 0) : nxs T t (isn lo hi r) = r := by rw [isn_f h, nxs_f h]
theorem eln_f (h : ¬ r.2.2.2.2.1 = 0) : eln T t r = r := by unfold eln; rw [wts_f h, nxs_f h]
section F6
variable {k : Int32}
theorem rw3_f (h : ¬ (rw2 T t k r).2.2.2.2.1 = 0) : rw3 T t k r = rw2 T t k r := by
  unfold rw3
  split
  · exact mks_f h
  · rfl
theorem rw4_f (h : ¬ (rw3 T t k r).2.2.2.2.1 = 0) : rw4 T t k r = rw3 T t k r := by
  unfold rw4
  split
  · exact mks_f h
  · rfl
theorem rw5_f (h : ¬ (rw4 T t k r).2.2.2.2.1 = 0) : rw5 T t k r = rw4 T t k r := by
  unfold rw5
  split
  · exact ras_f h
  · rfl
theorem rw6_f (h : ¬ (rw5 T t k r).2.2.2.2.1 = 0) : rw6 T t k r = rw5 T t k r := by
  unfold rw6
  split
  · exact rnf h
  · rfl
theorem rw36_f (h : ¬ (rw3 T t k r).2.2.2.2.1 = 0) : rw6 T t k r = rw3 T t k r := by
  have e4 := rw4_f h
  have f4 : ¬ (rw4 T t k r).2.2.2.2.1 = 0 := by rw [e4]; exact h
  have e5 := rw5_f f4
  have f5 : ¬ (rw5 T t k r).2.2.2.2.1 = 0 := by rw [e5]; exact f4
  rw [rw6_f f5, e5, e4]
theorem rw26_f (h : ¬ (rw2 T t k r).2.2.2.2.1 = 0) : rw6 T t k r = rw2 T t k r := by
  have e3 := rw3_f h
  have f3 : ¬ (rw3 T t k r).2.2.2.2.1 = 0 := by rw [e3]; exact h
  rw [rw36_f f3, e3]
theorem rw1_f (h : ¬ r.2.2.2.2.1 = 0) : rw6 T t k r = r := by
  have e1 : rw1 T t k r = r := by
    unfold rw1
    split
    · exact rnf h
    · rfl
  have e2 : rw2 T t k r = r := by
    unfold rw2
    rw [e1]
    split
    · rfl
    · exact rds_f h
  have := rw26_f (T := T) (t := t) (k := k) (r := r) (by rw [e2]; exact h)
  rw [this, e2]
end F6
end EQ5
/-- what a state stands for when it has gone on: the reference's state y, the next being its token -/
def NXT (T : Nat → Int32) (t : Nat) (x : Tst) (z : Rst) : Prop := ∃ y, RL x y ∧ z = nxs T t y
theorem nxt_adv {M : Mm} {T : Nat → Int32} {t : Nat} {x : Tst} {z : Rst} (tc : TC M T t) (h : NXT T t x z) (f : x.2.2.2.2.1 = 0) : RL (adv T t x) z := by
  obtain ⟨y, h1, rfl⟩ := h
  exact rl_adv tc h1 f
theorem nxt_f {T : Nat → Int32} {t : Nat} {x : Tst} {z : Rst} (h : NXT T t x z) (f : ¬ x.2.2.2.2.1 = 0) : RL x z ∧ ¬ z.2.2.2.2.1 = 0 := by
  obtain ⟨y, h1, rfl⟩ := h
  have fy : ¬ y.2.2.2.2.1 = 0 := fun z => f (h1.1.trans z)
  rw [nxs_f fy]; exact ⟨h1, fy⟩
theorem nxt_z {T : Nat → Int32} {t : Nat} {x : Tst} {z : Rst} (h : RL x z) (f : ¬ x.2.2.2.2.1 = 0) : NXT T t x z := by
  have fz : ¬ z.2.2.2.2.1 = 0 := fun y => f (h.1.trans y)
  exact ⟨z, h, (nxs_f fz).symm⟩
/-- positions stay on the tape -/
theorem nxs_400 {T : Nat → Int32} {t : Nat} {r : Rst} (ht : t ≤ 400) (h : r.2.1 ≤ 400) : (nxs T t r).2.1 ≤ 400 := by
  by_cases f : r.2.2.2.2.1 = 0
  · have p1 : nx1 T t r.2.1 ≤ 400 := by
      by_cases l : r.2.1 ≤ t
      · exact Nat.le_trans (rn_le isB T t (by decide) 401 _ l) ht
      · have e : lk T t r.2.1 = -1 := by rw [lk, if_pos (by omega)]
        unfold nx1
        rw [rn, e, if_neg (by decide)]; exact h
    have q : ∀ g : Int32 → Bool, g (-1) = false → rn g T t 401 (nx1 T t r.2.1) ≤ 400 := by
      intro g hg
      by_cases l : nx1 T t r.2.1 ≤ t
      · exact Nat.le_trans (rn_le g T t hg 401 _ l) ht
      · have e : lk T t (nx1 T t r.2.1) = -1 := by rw [lk, if_pos (by omega)]
        rw [rn, e, if_neg (by rw [hg]; decide)]; exact p1
    unfold nxs
    rw [if_pos f]
    by_cases c1 : lk T t (nx1 T t r.2.1) < 0
    · rw [if_pos c1]; exact p1
    · rw [if_neg c1]
      by_cases c2 : isA (lk T t (nx1 T t r.2.1)) = true
      · rw [if_pos c2]; exact q isA (by decide)
      · rw [if_neg c2]
        by_cases c3 : isF (lk T t (nx1 T t r.2.1)) = true
        · rw [if_pos c3]; exact q isF (by decide)
        · rw [if_neg c3]
          have : nx1 T t r.2.1 < t := by
            by_cases l : t ≤ nx1 T t r.2.1
            · exfalso
              rw [lk, if_pos l] at c1
              exact c1 (by decide)
            · omega
          show nx1 T t r.2.1 + 1 ≤ 400
          omega
  · rw [nxs_f f]; exact h
end MG46
section MG47
/-! ===== a word is told the same ===== -/
def cf (i : Nat) : Nat := if i = 7 then 8 else i
section EQ6
variable {M : Mm} {T : Nat → Int32} {t : Nat}
theorem isn_p {lo hi : Int32} {s : Rst} : (isn lo hi s).2.1 = s.2.1 := by unfold isn; rw [wts_p, wts_p]
theorem ddc_p {s : Rst} : (ddc T t s).2.1 = s.2.1 := by unfold ddc nam; rw [wts_p, wts_p]
theorem mkc_p {no : Int32} {s : Rst} : (mkc T t no s).2.1 = s.2.1 := by unfold mkc mk1; rw [wts_p, wts_p, wts_p]
theorem tk4_0 (a : Tst) : tk4 T t 0 a = tkM T t a := by unfold tk4; rw [Int32.zero_and, if_pos rfl]
theorem rl_word {c : Tst} {r : Rst} {k : Int32} (tc : TC M T t) (hr : r.2.1 ≤ 400) (hk : k = 0 ∨ k = 1 ∨ k = 2 ∨ k = 3 ∨ k = 4 ∨ k = 5) (z : RL (adv T t c) r) : NXT T t (tw2 T t k c) (rw6 T t k r) ∧ ((tw2 T t k c).2.2.2.2.1 = 0 → ∀ b, (∀ i, i < 8 → wb2 T t k c b (cf i) = rwr T t k r b i) ∧ (kCN k → wb2 T t k c b 7 = nI (rw5 T t k r).1)) := by
  have ht := tc.2.2.2.1
  have s1 : NXT T t (tw1 T t k c) (rw2 T t k r) ∧ (rw2 T t k r).2.1 ≤ 400 ∧ ((tw1 T t k c).2.2.2.2.1 = 0 → (k = 5 → tkNv 999 (adv T t c) = r.2.2.2.1) ∧ (¬ k = 5 → tkOv T t (adv T t c) = rdv T t r)) := by
    by_cases q : k = 5
    · have e1 : tw1 T t k c = tkN 999 (adv T t c) := by unfold tw1; rw [if_pos q]
      have e2 : rw2 T t k r = nxs T t (isn 0 999 r) := by unfold rw2 rw1; rw [if_pos q, if_pos q]
      obtain ⟨h1, h2⟩ := rl_num (g := 999) (by decide) z
      rw [e1, e2]
      exact ⟨⟨_, h1, rfl⟩, nxs_400 ht (by rw [isn_p]; exact hr), fun f => ⟨fun _ => (h2 f).1, fun n => absurd q n⟩⟩
    · have e1 : tw1 T t k c = tkO T t (adv T t c) := by unfold tw1; rw [if_neg q]
      have e2 : rw2 T t k r = nxs T t (ddc T t r) := by unfold rw2 rw1; rw [if_neg q, if_neg q, rds_d]
      obtain ⟨h1, h2⟩ := rl_doc (T := T) (t := t) hr z
      rw [e1, e2]
      exact ⟨⟨_, h1, rfl⟩, nxs_400 ht (by rw [ddc_p]; exact hr), fun f => ⟨fun n => absurd n q, fun _ => (h2 f).1⟩⟩
  obtain ⟨n2, h2r, v1⟩ := s1
  by_cases f1 : (tw1 T t k c).2.2.2.2.1 = 0
  · obtain ⟨vd, vo⟩ := v1 f1
    have e2 : tw2 T t k c = syE T t k (tw1 T t k c) := by unfold tw2; rw [if_pos f1]
    have a2 := nxt_adv tc n2 f1
    rw [e2]
    -- what a row begins with
    have w0 : ∀ b, wb1 T t k c b 0 = k := by
      intro b; unfold wb1
      by_cases q : k = 5
      · rw [if_pos q, if_neg (by decide)]; rfl
      · rw [if_neg q, if_neg (by decide)]; rfl
    have w1 : ∀ b, wb1 T t k c b 1 = ra2 T t k r := by
      intro b; unfold wb1 ra2
      by_cases q : k = 5
      · rw [if_pos q, if_neg (by decide), if_pos q]; rfl
      · rw [if_neg q, if_pos rfl, if_neg q, vo q]
        unfold rw1; rw [if_neg q]
    have w8 : ∀ b, wb1 T t k c b 8 = ra1 k r := by
      intro b; unfold wb1 ra1
      by_cases q : k = 5
      · rw [if_pos q, if_pos rfl, if_pos q, vd q]
      · rw [if_neg q, if_neg (by decide), if_neg q]; rfl
    have wi : ∀ b i, i = 2 ∨ i = 3 ∨ i = 4 ∨ i = 5 ∨ i = 6 → wb1 T t k c b i = wb0 k b i := by
      intro b i hi; unfold wb1
      by_cases q : k = 5
      · rw [if_pos q, if_neg (by omega)]
      · rw [if_neg q, if_neg (by omega)]
    unfold wb2
    generalize tw1 T t k c = u at f1 a2 e2 n2 ⊢
    by_cases c13 : k13 k
    · have cn : kCN k := by rcases c13 with rfl | rfl | rfl <;> decide
      have nwll : ¬ kWLL k := by rcases c13 with rfl | rfl | rfl <;> decide
      have nwl : ¬ kWL k := by rcases c13 with rfl | rfl | rfl <;> decide
      have es : syE T t k u = tkN 23 (adv T t u) := by unfold syE; rw [if_pos c13]
      have r3 : rw3 T t k r = rw2 T t k r := by unfold rw3; rw [if_neg nwll]
      have r4 : rw4 T t k r = rw2 T t k r := by unfold rw4; rw [if_neg nwl, r3]
      have r5 : rw5 T t k r = rw2 T t k r := by unfold rw5; rw [if_neg nwl, r4]
      have r6 : rw6 T t k r = nxs T t (isn 0 23 (rw2 T t k r)) := by unfold rw6; rw [if_pos cn, r5]
      obtain ⟨h1, h2⟩ := rl_num (g := 23) (by decide) a2
      have es' : syE T t k u = tkN (nI 23) (adv T t u) := es
      refine ⟨?_, fun f b => ⟨fun i hi => ?_, fun _ => ?_⟩⟩
      · rw [es', r6]; exact ⟨_, h1, rfl⟩
      · rw [es'] at f
        obtain ⟨hv, -, -, -⟩ := h2 f
        have hv' : tkNv 23 (adv T t u) = (rw2 T t k r).2.2.2.1 := hv
        unfold syr rwr
        match i, hi with
        | 0, _ => show (if k13 k then (if (0 : Nat) = 7 then _ else if (0 : Nat) = 6 then _ else wb1 T t k c b 0) else _) = _; rw [if_pos c13, if_neg (by decide), if_neg (by decide), w0]; rfl
        | 1, _ => show (if k13 k then (if (1 : Nat) = 7 then _ else if (1 : Nat) = 6 then _ else wb1 T t k c b 1) else _) = _; rw [if_pos c13, if_neg (by decide), if_neg (by decide), w1]; rfl
        | 2, _ => show (if k13 k then (if (2 : Nat) = 7 then _ else if (2 : Nat) = 6 then _ else wb1 T t k c b 2) else _) = _; rw [if_pos c13, if_neg (by decide), if_neg (by decide), wi b 2 (by decide)]; rfl
        | 3, _ => show (if k13 k then (if (3 : Nat) = 7 then _ else if (3 : Nat) = 6 then _ else wb1 T t k c b 3) else _) = ra3 T t k r; rw [if_pos c13, if_neg (by decide), if_neg (by decide), wi b 3 (by decide)]; unfold ra3; rw [if_neg nwll]; rfl
        | 4, _ => show (if k13 k then (if (4 : Nat) = 7 then _ else if (4 : Nat) = 6 then _ else wb1 T t k c b 4) else _) = ra4 T t k r; rw [if_pos c13, if_neg (by decide), if_neg (by decide), wi b 4 (by decide)]; unfold ra4; rw [if_neg nwl]; rfl
        | 5, _ => show (if k13 k then (if (5 : Nat) = 7 then _ else if (5 : Nat) = 6 then _ else wb1 T t k c b 5) else _) = ra5 T t k r; rw [if_pos c13, if_neg (by decide), if_neg (by decide), wi b 5 (by decide)]; unfold ra5; rw [if_neg nwl]; rfl
        | 6, _ => show (if k13 k then (if (6 : Nat) = 7 then _ else if (6 : Nat) = 6 then tkNv 23 (adv T t u) else wb1 T t k c b 6) else _) = ra6 T t k r; rw [if_pos c13, if_neg (by decide), if_pos rfl, hv']; unfold ra6; rw [if_pos cn, r5]
        | 7, _ => show (if k13 k then (if (8 : Nat) = 7 then _ else if (8 : Nat) = 6 then _ else wb1 T t k c b 8) else _) = ra1 k r; rw [if_pos c13, if_neg (by decide), if_neg (by decide), w8]
      · rw [es'] at f
        obtain ⟨-, he, -, hf⟩ := h2 f
        unfold syr
        rw [if_pos c13, if_pos rfl, es', he, r5, (a2.2.2 hf).1]
    · by_cases c4 : k = 4
      · have ncn : ¬ kCN k := by rw [c4]; decide
        have wll : kWLL k := Or.inr (Or.inr c4)
        have nwl : ¬ kWL k := by rw [c4]; decide
        have es : syE T t k u = tk4 T t 0 (adv T t u) := by unfold syE sy1; rw [if_neg c13, if_pos c4, tk4_0]
        have r3 : rw3 T t k r = nxs T t (mkc T t 0 (rw2 T t k r)) := by unfold rw3; rw [if_pos wll, mks_d]
        have r4 : rw4 T t k r = rw3 T t k r := by unfold rw4; rw [if_neg nwl]
        have r5 : rw5 T t k r = rw3 T t k r := by unfold rw5; rw [if_neg nwl, r4]
        have r6 : rw6 T t k r = rw3 T t k r := by unfold rw6; rw [if_neg ncn, r5]
        obtain ⟨h1, h2⟩ := rl_marks (T := T) (t := t) (no := 0) a2
        refine ⟨?_, fun f b => ⟨fun i hi => ?_, fun n => absurd n ncn⟩⟩
        · rw [es, r6, r3]; exact ⟨_, h1, rfl⟩
        · rw [es] at f
          obtain ⟨hv, -, -, -⟩ := h2 f
          unfold syr rwr
          match i, hi with
          | 0, _ => show (if k13 k then _ else if k = 4 then (if (0 : Nat) = 3 then _ else wb1 T t k c b 0) else _) = _; rw [if_neg c13, if_pos c4, if_neg (by decide), w0]; rfl
          | 1, _ => show (if k13 k then _ else if k = 4 then (if (1 : Nat) = 3 then _ else wb1 T t k c b 1) else _) = _; rw [if_neg c13, if_pos c4, if_neg (by decide), w1]; rfl
          | 2, _ => show (if k13 k then _ else if k = 4 then (if (2 : Nat) = 3 then _ else wb1 T t k c b 2) else _) = _; rw [if_neg c13, if_pos c4, if_neg (by decide), wi b 2 (by decide)]; rfl
          | 3, _ => show (if k13 k then _ else if k = 4 then (if (3 : Nat) = 3 then tkMv T t (adv T t u) else wb1 T t k c b 3) else _) = ra3 T t k r; rw [if_neg c13, if_pos c4, if_pos rfl, hv]; unfold ra3; rw [if_pos wll]
          | 4, _ => show (if k13 k then _ else if k = 4 then (if (4 : Nat) = 3 then _ else wb1 T t k c b 4) else _) = ra4 T t k r; rw [if_neg c13, if_pos c4, if_neg (by decide), wi b 4 (by decide)]; unfold ra4; rw [if_neg nwl]; rfl
          | 5, _ => show (if k13 k then _ else if k = 4 then (if (5 : Nat) = 3 then _ else wb1 T t k c b 5) else _) = ra5 T t k r; rw [if_neg c13, if_pos c4, if_neg (by decide), wi b 5 (by decide)]; unfold ra5; rw [if_neg nwl]; rfl
          | 6, _ => show (if k13 k then _ else if k = 4 then (if (6 : Nat) = 3 then _ else wb1 T t k c b 6) else _) = ra6 T t k r; rw [if_neg c13, if_pos c4, if_neg (by decide), wi b 6 (by decide)]; unfold ra6; rw [if_neg ncn]; rfl
          | 7, _ => show (if k13 k then _ else if k = 4 then (if (8 : Nat) = 3 then _ else wb1 T t k c b 8) else _) = ra1 k r; rw [if_neg c13, if_pos c4, if_neg (by decide), w8]
      · have wl : kWL k := by
          rcases hk with q | q | q | q | q | q
          · exact Or.inl q
          · exact absurd (Or.inl q) c13
          · exact absurd (Or.inr (Or.inl q)) c13
          · exact absurd (Or.inr (Or.inr q)) c13
          · exact absurd q c4
          · exact Or.inr q
        have wll : kWLL k := wl.imp id Or.inl
        have ncn : ¬ kCN k := by rcases wl with rfl | rfl <;> decide
        have r3 : rw3 T t k r = nxs T t (mkc T t 0 (rw2 T t k r)) := by unfold rw3; rw [if_pos wll, mks_d]
        have r4 : rw4 T t k r = nxs T t (mkc T t (ra3 T t k r) (rw3 T t k r)) := by unfold rw4; rw [if_pos wl, mks_d]
        have r5 : rw5 T t k r = nxs T t (anc T t (rw4 T t k r)) := by unfold rw5; rw [if_pos wl, ras_d]
        have r6 : rw6 T t k r = rw5 T t k r := by unfold rw6; rw [if_neg ncn]
        have e3 : ra3 T t k r = mkv T t (rw2 T t k r) := by unfold ra3; rw [if_pos wll]
        obtain ⟨h1, h2⟩ := rl_marks (T := T) (t := t) (no := 0) a2
        rw [tk4_0] at h1 h2
        have h1' : RL (sy1 T t u) (mkc T t 0 (rw2 T t k r)) := h1
        have n3 : NXT T t (sy1 T t u) (rw3 T t k r) := by rw [r3]; exact ⟨_, h1', rfl⟩
        have p3 : (rw3 T t k r).2.1 ≤ 400 := by rw [r3]; exact nxs_400 ht (by rw [mkc_p]; exact h2r)
        by_cases fs1 : (sy1 T t u).2.2.2.2.1 = 0
        · have es : syE T t k u = sy4 T t u := by unfold syE; rw [if_neg c13, if_neg c4, if_pos fs1]
          obtain ⟨hv1, hs1, -, -⟩ := h2 fs1
          have a3 := nxt_adv tc n3 fs1
          obtain ⟨g1, g2⟩ := rl_marks (T := T) (t := t) (no := ra3 T t k r) a3
          have e4 : tk4 T t (ra3 T t k r) (adv T t (sy1 T t u)) = sy3 T t u := by
            unfold tk4 sy3 sy2
            rw [e3, ← hv1]
          rw [e4] at g1 g2
          have n4 : NXT T t (sy3 T t u) (rw4 T t k r) := by rw [r4]; exact ⟨_, g1, rfl⟩
          have p4 : (rw4 T t k r).2.1 ≤ 400 := by rw [r4]; exact nxs_400 ht (by rw [mkc_p]; exact p3)
          by_cases fs3 : (sy3 T t u).2.2.2.2.1 = 0
          · have es4 : sy4 T t u = tkA T t (adv T t (sy3 T t u)) := by unfold sy4; rw [if_pos fs3]
            obtain ⟨hv2, -, -, -⟩ := g2 fs3
            have a4 := nxt_adv tc n4 fs3
            obtain ⟨i1, i2⟩ := rl_ans (T := T) (t := t) p4 a4
            refine ⟨?_, fun f b => ⟨fun i hi => ?_, fun n => absurd n ncn⟩⟩
            · rw [es, es4, r6, r5]; exact ⟨_, i1, rfl⟩
            · rw [es, es4] at f
              obtain ⟨hv3, -, -, -⟩ := i2 f
              unfold syr rwr
              match i, hi with
              | 0, _ => show (if k13 k then _ else if k = 4 then _ else (if (0 : Nat) = 5 then _ else if (0 : Nat) = 4 then _ else if (0 : Nat) = 3 then _ else wb1 T t k c b 0)) = _; rw [if_neg c13, if_neg c4, if_neg (by decide), if_neg (by decide), if_neg (by decide), w0]; rfl
              | 1, _ => show (if k13 k then _ else if k = 4 then _ else (if (1 : Nat) = 5 then _ else if (1 : Nat) = 4 then _ else if (1 : Nat) = 3 then _ else wb1 T t k c b 1)) = _; rw [if_neg c13, if_neg c4, if_neg (by decide), if_neg (by decide), if_neg (by decide), w1]; rfl
              | 2, _ => show (if k13 k then _ else if k = 4 then _ else (if (2 : Nat) = 5 then _ else if (2 : Nat) = 4 then _ else if (2 : Nat) = 3 then _ else wb1 T t k c b 2)) = _; rw [if_neg c13, if_neg c4, if_neg (by decide), if_neg (by decide), if_neg (by decide), wi b 2 (by decide)]; rfl
              | 3, _ => show (if k13 k then _ else if k = 4 then _ else (if (3 : Nat) = 5 then _ else if (3 : Nat) = 4 then _ else if (3 : Nat) = 3 then tkMv T t (adv T t u) else wb1 T t k c b 3)) = ra3 T t k r; rw [if_neg c13, if_neg c4, if_neg (by decide), if_neg (by decide), if_pos rfl, hv1, e3]
              | 4, _ => show (if k13 k then _ else if k = 4 then _ else (if (4 : Nat) = 5 then _ else if (4 : Nat) = 4 then tkMv T t (adv T t (sy1 T t u)) else _)) = ra4 T t k r; rw [if_neg c13, if_neg c4, if_neg (by decide), if_pos rfl, hv2]; unfold ra4; rw [if_pos wl]
              | 5, _ => show (if k13 k then _ else if k = 4 then _ else (if (5 : Nat) = 5 then tkAv T t (adv T t (sy3 T t u)) else _)) = ra5 T t k r; rw [if_neg c13, if_neg c4, if_pos rfl, hv3]; unfold ra5; rw [if_pos wl]
              | 6, _ => show (if k13 k then _ else if k = 4 then _ else (if (6 : Nat) = 5 then _ else if (6 : Nat) = 4 then _ else if (6 : Nat) = 3 then _ else wb1 T t k c b 6)) = ra6 T t k r; rw [if_neg c13, if_neg c4, if_neg (by decide), if_neg (by decide), if_neg (by decide), wi b 6 (by decide)]; unfold ra6; rw [if_neg ncn]; rfl
              | 7, _ => show (if k13 k then _ else if k = 4 then _ else (if (8 : Nat) = 5 then _ else if (8 : Nat) = 4 then _ else if (8 : Nat) = 3 then _ else wb1 T t k c b 8)) = ra1 k r; rw [if_neg c13, if_neg c4, if_neg (by decide), if_neg (by decide), if_neg (by decide), w8]
          · have es4 : sy4 T t u = sy3 T t u := by unfold sy4; rw [if_neg fs3]
            obtain ⟨j1, j2⟩ := nxt_f n4 fs3
            have q5 := rw5_f j2
            have q6 := rw6_f (T := T) (t := t) (k := k) (r := r) (by rw [q5]; exact j2)
            rw [es, es4]
            refine ⟨?_, fun f => absurd f fs3⟩
            rw [q6, q5]; exact nxt_z j1 fs3
        · have es : syE T t k u = sy1 T t u := by unfold syE; rw [if_neg c13, if_neg c4, if_neg fs1]
          obtain ⟨j1, j2⟩ := nxt_f n3 fs1
          rw [es]
          refine ⟨?_, fun f => absurd f fs1⟩
          rw [rw36_f j2]; exact nxt_z j1 fs1
  · have e2 : tw2 T t k c = tw1 T t k c := by unfold tw2; rw [if_neg f1]
    obtain ⟨j1, j2⟩ := nxt_f n2 f1
    rw [e2]
    refine ⟨?_, fun f => absurd f f1⟩
    rw [rw26_f j2]; exact nxt_z j1 f1
end EQ6
end MG47
section MG48
/-! ===== a library as the lines tell it ===== -/
abbrev LSt : Type := Rst × Nat × (Nat → Nat → Int32) × (Nat → Int32) × (Nat → Int32) × Int32 × (Nat → Int32)
def up1 (f : Nat → Int32) (i : Nat) (v : Int32) (k : Nat) : Int32 := if k = i then v else f k
def upr (f : Nat → Nat → Int32) (i : Nat) (v : Nat → Int32) (k : Nat) : Nat → Int32 := if k = i then v else f k
section EQ7
variable (T : Nat → Int32) (t : Nat)
/-- one line: state, words, copies, copies told, book, places -/
def lnS (σ : LSt) : LSt :=
  if ¬ (ln4 T t σ.2.1 σ.2.2.2.2.1 σ.1).2.2.2.2.1 = 0 then (ln4 T t σ.2.1 σ.2.2.2.2.1 σ.1, σ.2)
  else if lnk T t σ.1 = 10 then (ln4 T t σ.2.1 σ.2.2.2.2.1 σ.1, σ.2.1, σ.2.2.1, σ.2.2.2.1, σ.2.2.2.2.1, (ln2 T t σ.2.1 σ.1).2.2.2.1, σ.2.2.2.2.2.2)
  else if lnk T t σ.1 = 11 then (ln4 T t σ.2.1 σ.2.2.2.2.1 σ.1, σ.2.1, σ.2.2.1, up1 σ.2.2.2.1 (ln2 T t σ.2.1 σ.1).2.2.2.1.toNatClampNeg (rc3 T t (σ.2.2.2.2.1 (ln2 T t σ.2.1 σ.1).2.2.2.1.toNatClampNeg) (ln2 T t σ.2.1 σ.1)).2.2.2.1, up1 σ.2.2.2.2.1 (ln2 T t σ.2.1 σ.1).2.2.2.1.toNatClampNeg 1, σ.2.2.2.2.2.1, σ.2.2.2.2.2.2)
  else (ln4 T t σ.2.1 σ.2.2.2.2.1 σ.1, σ.2.1 + 1, upr σ.2.2.1 σ.2.1 (rwr T t (lnk T t σ.1) (ln2 T t σ.2.1 σ.1) σ.2.2.2.2.2.1), σ.2.2.2.1, σ.2.2.2.2.1, σ.2.2.2.2.2.1, up1 σ.2.2.2.2.2.2 σ.2.1 (nI (rw5 T t (lnk T t σ.1) (ln2 T t σ.2.1 σ.1)).1))
def lpS : Nat → LSt → Nat → LSt × Nat
  | 0, σ, l => (σ, l)
  | n + 1, σ, l => if ¬ σ.1.2.2.2.2.1 = 0 ∨ σ.1.2.2.1 = 0 then (σ, l) else lpS n (lnS T t σ) (l + 1)
theorem lpS_stop {n l : Nat} {σ : LSt} (h : ¬ σ.1.2.2.2.2.1 = 0 ∨ σ.1.2.2.1 = 0) : lpS T t (n + 1) σ l = (σ, l) := by rw [lpS, if_pos h]
theorem lpS_go {n l : Nat} {σ : LSt} (h : ¬ (¬ σ.1.2.2.2.2.1 = 0 ∨ σ.1.2.2.1 = 0)) : lpS T t (n + 1) σ l = lpS T t n (lnS T t σ) (l + 1) := by
  show (if ¬ σ.1.2.2.2.2.1 = 0 ∨ σ.1.2.2.1 = 0 then (σ, l) else lpS T t n (lnS T t σ) (l + 1)) = _
  exact if_neg h
end EQ7
/-- a word of them that follows wrongly -/
def bdS (σ : LSt) (w : Nat) : Prop := ¬ σ.2.2.1 w 6 = -4 ∧ (nI σ.2.1 ≤ σ.2.2.1 w 6 ∨ σ.2.2.1 w 6 = nI w ∨ σ.2.2.1 (σ.2.2.1 w 6).toNatClampNeg 0 = 5)
/-- rows as they should be -/
def okS (σ : LSt) : Prop := σ.2.1 ≤ 24 ∧ (∃ b, b < 8 ∧ σ.2.2.2.2.2.1 = nI b) ∧ ∀ w, w < σ.2.1 → (∃ b, b < 8 ∧ σ.2.2.1 w 2 = nI b) ∧ ∃ k, k < 6 ∧ σ.2.2.1 w 0 = nI k ∧ ((¬ (1 ≤ k ∧ k ≤ 3) ∧ σ.2.2.1 w 6 = -4) ∨ ((1 ≤ k ∧ k ≤ 3) ∧ ∃ f, f < 24 ∧ σ.2.2.1 w 6 = nI f))
section EQ7b
variable {M N : Mm} {T : Nat → Int32} {t : Nat}
theorem ln3_cg {D : Nat} {c c' : Nat → Int32} {s : Rst} (h : ∀ b, b < 8 → c b = c' b) : ln3 T t D c s = ln3 T t D c' s := by
  have e : rc2 (c (ln2 T t D s).2.2.2.1.toNatClampNeg) (ln2 T t D s) = rc2 (c' (ln2 T t D s).2.2.2.1.toNatClampNeg) (ln2 T t D s) := by
    generalize ln2 T t D s = s2
    by_cases f : (isn 0 7 s2).2.2.2.2.1 = 0
    · obtain ⟨y1, y2, -⟩ := isn_ok f
      obtain ⟨i, hi, e⟩ := rngL (c := 7) (n := 7) rfl (by decide) y1 y2
      rw [e, ncl (by omega), h i (by omega)]
    · unfold rc2; rw [wts_f f, wts_f f]
  have e2 : rcs T t (c (ln2 T t D s).2.2.2.1.toNatClampNeg) (ln2 T t D s) = rcs T t (c' (ln2 T t D s).2.2.2.1.toNatClampNeg) (ln2 T t D s) := by
    unfold rcs rc3
    rw [e]
  unfold ln3
  rw [e2]
theorem ln4_cg {D : Nat} {c c' : Nat → Int32} {s : Rst} (h : ∀ b, b < 8 → c b = c' b) : ln4 T t D c s = ln4 T t D c' s := by
  unfold ln4
  rw [ln3_cg h]
theorem lnS_1 {σ : LSt} : (lnS T t σ).1 = ln4 T t σ.2.1 σ.2.2.2.2.1 σ.1 := by
  unfold lnS
  generalize ln4 T t σ.2.1 σ.2.2.2.2.1 σ.1 = s4
  by_cases h1 : ¬ s4.2.2.2.2.1 = 0
  · rw [if_pos h1]
  · rw [if_neg h1]
    by_cases h2 : lnk T t σ.1 = 10
    · rw [if_pos h2]
    · rw [if_neg h2]
      by_cases h3 : lnk T t σ.1 = 11
      · rw [if_pos h3]
      · rw [if_neg h3]
/-- a line's name, on both sides -/
theorem ln_rel {c : Tst} {s : Rst} (hs : s.2.1 ≤ 400) (h : RL c s) (f : c.2.2.2.2.1 = 0) :
    ((if c.1 = 2 then amo T t 0 c else -1) = -1 ∧ ¬ ((¬ lnk T t s < 0 ∧ ¬ 5 < lnk T t s) ∨ lnk T t s = 10 ∨ lnk T t s = 11)) ∨
    (∃ i, i < 6 ∧ (if c.1 = 2 then amo T t 0 c else -1) = nI i ∧ lnk T t s = nI i) ∨
    ((if c.1 = 2 then amo T t 0 c else -1) = 6 ∧ lnk T t s = 10) ∨ ((if c.1 = 2 then amo T t 0 c else -1) = 7 ∧ lnk T t s = 11) := by
  obtain ⟨e1, e2, ks, -⟩ := h.2.2 f
  by_cases k2 : c.1 = 2
  · have s1 : s.2.2.1 = 1 := (ks2 ks).mp k2
    have el : lnk T t s = nmF (tkl T t s.1 (s.2.1 - s.1)) := by unfold lnk; rw [if_pos s1, nmv_d T t _ _ hs]
    have ea : amo T t 0 c = fnd (tkl T t s.1 (s.2.1 - s.1)) NL0 0 := by rw [am0, rl_tok h f]
    rw [if_pos k2, el, ea]
    rcases frq0 (tkl T t s.1 (s.2.1 - s.1)) with ⟨e, n⟩ | ⟨i, hi, e, cc⟩
    · refine Or.inl ⟨e, ?_⟩
      rintro (z | z | z)
      · obtain ⟨j, hj, ej⟩ := rngL (c := 5) (n := 5) rfl (by decide) z.1 z.2
        rw [ej] at n
        match j, hj, n with
        | 0, _, n => exact n 0 (by decide) rfl
        | 1, _, n => exact n 1 (by decide) rfl
        | 2, _, n => exact n 2 (by decide) rfl
        | 3, _, n => exact n 3 (by decide) rfl
        | 4, _, n => exact n 4 (by decide) rfl
        | 5, _, n => exact n 5 (by decide) rfl
      · exact n 10 (by decide) z
      · exact n 11 (by decide) z
    · rw [e]
      match i, hi, cc with
      | 0, _, cc => exact Or.inr (Or.inl ⟨0, by decide, rfl, (Option.some.inj cc).symm⟩)
      | 1, _, cc => exact Or.inr (Or.inl ⟨1, by decide, rfl, (Option.some.inj cc).symm⟩)
      | 2, _, cc => exact Or.inr (Or.inl ⟨2, by decide, rfl, (Option.some.inj cc).symm⟩)
      | 3, _, cc => exact Or.inr (Or.inl ⟨3, by decide, rfl, (Option.some.inj cc).symm⟩)
      | 4, _, cc => exact Or.inr (Or.inl ⟨4, by decide, rfl, (Option.some.inj cc).symm⟩)
      | 5, _, cc => exact Or.inr (Or.inl ⟨5, by decide, rfl, (Option.some.inj cc).symm⟩)
      | 6, _, cc => exact Or.inr (Or.inr (Or.inl ⟨rfl, (Option.some.inj cc).symm⟩))
      | 7, _, cc => exact Or.inr (Or.inr (Or.inr ⟨rfl, (Option.some.inj cc).symm⟩))
  · have s1 : ¬ s.2.2.1 = 1 := fun z => k2 ((ks2 ks).mpr z)
    have el : lnk T t s = -4 := by unfold lnk; rw [if_neg s1]
    rw [if_neg k2, el]
    exact Or.inl ⟨rfl, by decide⟩
/-- lines without a fault keep rows as they should be, and go on -/
theorem lnS_ok {σ : LSt} (ok : okS σ) (f : (lnS T t σ).1.2.2.2.2.1 = 0) : okS (lnS T t σ) ∧ σ.1.2.1 < (lnS T t σ).1.2.1 := by
  rw [lnS_1] at f ⊢
  have f4 := f
  have go := go_ln4 f4
  have f3 : (ln3 T t σ.2.1 σ.2.2.2.2.1 σ.1).2.2.2.2.1 = 0 := by unfold ln4 at f4; exact (eln_ok f4).2
  have f2 := (go_ln3 (T := T) (t := t) (D := σ.2.1) (cp := σ.2.2.2.2.1) (s := σ.1)).2 f3
  refine ⟨?_, go⟩
  unfold lnS
  rw [if_neg (fun z => z f4)]
  generalize ln4 T t σ.2.1 σ.2.2.2.2.1 σ.1 = s4
  obtain ⟨ok1, ok2, ok3⟩ := ok
  by_cases k10 : lnk T t σ.1 = 10
  · rw [if_pos k10]
    unfold ln3 at f3
    rw [if_pos k10] at f3
    obtain ⟨y1, y2, -⟩ := isn_ok (nxs_ok f3)
    obtain ⟨i, hi, e⟩ := rngL (c := 7) (n := 7) rfl (by decide) y1 y2
    unfold okS; dsimp only; exact ⟨ok1, ⟨i, by omega, e⟩, ok3⟩
  · rw [if_neg k10]
    by_cases k11 : lnk T t σ.1 = 11
    · rw [if_pos k11]
      unfold okS; dsimp only; exact ⟨ok1, ok2, ok3⟩
    · rw [if_neg k11]
      unfold ln3 at f3
      rw [if_neg k10, if_neg k11] at f3
      have z2 := (go_rw6.2 f3).1
      unfold ln2 at z2
      have z1 := nxs_ok z2
      unfold ln1 at z1
      obtain ⟨a1, a2, -⟩ := wts_ok (by decide) z1
      obtain ⟨b1, b2, -⟩ := wts_ok (by decide) a2
      have c1 := ite1 b1
      have c2 := ite1 a1
      have c3 : ¬ lnk T t σ.1 < 0 ∧ ¬ 5 < lnk T t σ.1 := c1.resolve_right (fun y => y.elim k10 k11)
      have hD : σ.2.1 < 24 := c2.resolve_left c3.2
      obtain ⟨k, hk, ek⟩ := rngL (c := 5) (n := 5) rfl (by decide) c3.1 c3.2
      unfold okS
      dsimp only
      refine ⟨hD, ok2, fun w hw => ?_⟩
      unfold upr
      by_cases e : w = σ.2.1
      · rw [if_pos e]
        refine ⟨ok2, k, hk, ek, ?_⟩
        have e6 : rwr T t (lnk T t σ.1) (ln2 T t σ.2.1 σ.1) σ.2.2.2.2.2.1 6 = ra6 T t (lnk T t σ.1) (ln2 T t σ.2.1 σ.1) := rfl
        rw [e6]
        have cn : kCN (lnk T t σ.1) ↔ (1 ≤ k ∧ k ≤ 3) := by
          unfold kCN
          rw [ek, show (1 : Int32) = nI 1 from rfl, show (3 : Int32) = nI 3 from rfl, nlt (by omega) (by omega), nlt (by omega) (by omega)]
          omega
        by_cases q : kCN (lnk T t σ.1)
        · right
          refine ⟨cn.mp q, ?_⟩
          unfold ra6
          rw [if_pos q]
          unfold rw6 at f3
          rw [if_pos q] at f3
          obtain ⟨y1, y2, -⟩ := isn_ok (nxs_ok f3)
          obtain ⟨i, hi, e⟩ := rngL (c := 23) (n := 23) rfl (by decide) y1 y2
          exact ⟨i, hi, e⟩
        · left
          unfold ra6
          rw [if_neg q]
          exact ⟨fun y => q (cn.mpr y), rfl⟩
      · rw [if_neg e]
        exact ok3 w (by have : w < σ.2.1 + 1 := hw; omega)
end EQ7b
end MG48
section MG49
/-! ===== the class reads a library as the lines tell it ===== -/
section EQ8
variable {M : Mm} {T : Nat → Int32} {t : Nat}
theorem rl_copies {c : Tst} {r : Rst} {u : Int32} {ic : Nat → Int32} (tc : TC M T t) (hb : ∀ b, b < 8 → (bt u b = true ↔ ¬ ic b = 0)) (z : RL (adv T t c) r) : NXT T t (tcE T t u c) (rcs T t (ic r.2.2.2.1.toNatClampNeg) r) ∧ ((tcE T t u c).2.2.2.2.1 = 0 → (tc1 T t u c).2.2.2.2.1 = 0 ∧ ∃ i, i < 8 ∧ tkNv 7 (adv T t c) = nI i ∧ r.2.2.2.1 = nI i ∧ tkNv 9 (adv T t (tc1 T t u c)) = (rc3 T t (ic r.2.2.2.1.toNatClampNeg) r).2.2.2.1) := by
  obtain ⟨h1, h2⟩ := rl_num (g := 7) (by decide) z
  have h1' : RL (tkN 7 (adv T t c)) (isn 0 7 r) := h1
  have h2' : (tkN 7 (adv T t c)).2.2.2.2.1 = 0 → tkNv 7 (adv T t c) = r.2.2.2.1 ∧ tkN 7 (adv T t c) = adv T t c ∧ isn 0 7 r = r ∧ (adv T t c).2.2.2.2.1 = 0 := h2
  by_cases f : (tkN 7 (adv T t c)).2.2.2.2.1 = 0
  · obtain ⟨hv, ha, hi, fa⟩ := h2' f
    obtain ⟨⟨i, hi7, ei⟩, -, -⟩ := tkN_ok (g := 7) (by decide) tc f
    have ei' : tkNv 7 (adv T t c) = nI i := ei
    have er : r.2.2.2.1 = nI i := hv.symm.trans ei'
    have cl : r.2.2.2.1.toNatClampNeg = i := by rw [er]; exact ncl (by omega)
    have n0' : ¬ tkNv 7 (adv T t c) < 0 := by rw [ei']; exact n0 i (by omega)
    rw [cl]
    by_cases q : bt u i = true
    · have q1 : ((ushr u (tkNv 7 (adv T t c))) &&& 1) = 1 := by rw [ei', bitu _ (by omega)]; exact q
      have e1 : tc1 T t u c = tfl 4 (adv T t c) := by unfold tc1; rw [if_neg n0', if_pos q1, ha]
      have ic0 : ¬ ic i = 0 := (hb i (by omega)).mp q
      have e2 : rc2 (ic i) r = wts 0 4 r := by unfold rc2; rw [hi, if_neg ic0]
      have rl := rl_fail (k := 4) z fa (by decide)
      have fx : ¬ (tfl 4 (adv T t c)).2.2.2.2.1 = 0 := tfl_ne (by decide)
      have fy : ¬ (wts 0 4 r).2.2.2.2.1 = 0 := fun y => fx (rl.1.trans y)
      have e3 : tcE T t u c = tfl 4 (adv T t c) := by unfold tcE; rw [e1, if_neg fx]
      have e4 : rcs T t (ic i) r = wts 0 4 r := by unfold rcs rc3; rw [e2, nxs_f fy, isn_f fy, nxs_f fy]
      rw [e3, e4]
      exact ⟨nxt_z rl fx, fun y => absurd y fx⟩
    · have q1 : ¬ ((ushr u (tkNv 7 (adv T t c))) &&& 1) = 1 := by rw [ei', bitu _ (by omega)]; exact q
      have e1 : tc1 T t u c = adv T t c := by unfold tc1; rw [if_neg n0', if_neg q1, ha]
      have ic0 : ic i = 0 := by
        by_cases y : ic i = 0
        · exact y
        · exact absurd ((hb i (by omega)).mpr y) q
      have e2 : rc2 (ic i) r = r := by unfold rc2; rw [hi, if_pos ic0]; exact wts_t (by decide)
      have e3 : rc3 T t (ic i) r = nxs T t r := by unfold rc3; rw [e2]
      have a2 : RL (adv T t (adv T t c)) (nxs T t r) := rl_adv tc z fa
      obtain ⟨g1, g2⟩ := rl_num (g := 9) (by decide) a2
      have e4 : tcE T t u c = tkN (nI 9) (adv T t (adv T t c)) := by unfold tcE; rw [e1, if_pos fa]; rfl
      have e5 : rcs T t (ic i) r = nxs T t (isn 0 (nI 9) (nxs T t r)) := by unfold rcs; rw [e3]; rfl
      rw [e4, e5]
      refine ⟨⟨_, g1, rfl⟩, fun y => ⟨by rw [e1]; exact fa, i, by omega, ei', er, ?_⟩⟩
      rw [e1, e3]
      exact (g2 y).1
  · have fy : ¬ (isn 0 7 r).2.2.2.2.1 = 0 := fun y => f (h1'.1.trans y)
    have e1 : tc1 T t u c = tkN 7 (adv T t c) := by
      unfold tc1
      split
      · rfl
      · split
        · exact tfl_f f
        · rfl
    have e2 : tcE T t u c = tkN 7 (adv T t c) := by unfold tcE; rw [e1, if_neg f]
    have e3 : ∀ x, rcs T t x r = isn 0 7 r := by
      intro x
      have e : rc2 x r = isn 0 7 r := by unfold rc2; exact wts_f fy
      unfold rcs rc3; rw [e, nxs_f fy, isn_f fy, nxs_f fy]
    rw [e2, e3]
    exact ⟨nxt_z h1' f, fun y => absurd y f⟩
theorem nxt_close {x : Tst} {D : Nat} {cp : Nat → Int32} {s : Rst} (tc : TC M T t) (h : NXT T t x (ln3 T t D cp s)) : RL (tkC T t x) (ln4 T t D cp s) := by
  obtain ⟨y, h1, h2⟩ := h
  unfold ln4
  rw [h2]
  exact rl_close tc h1
/-- a word's row as it was told; no steps are counted yet -/
def WK0 (M : Mm) (x : Nat) : Prop := WK 24 M x ∧ gi M x 10 = 0
theorem wk0_eq {M N : Mm} {x : Nat} (h : gi N x = gi M x) (w : WK0 M x) : WK0 N x := ⟨wk_eq h w.1, by rw [h]; exact w.2⟩
theorem wb2_10 (T : Nat → Int32) (t : Nat) (k : Int32) (s : Tst) (b : Int32) : wb2 T t k s b 10 = 0 := by
  have e0 : wb0 k b 10 = 0 := rfl
  have e1 : wb1 T t k s b 10 = 0 := by
    unfold wb1
    by_cases q : k = 5
    · rw [if_pos q, if_neg (by decide)]; exact e0
    · rw [if_neg q, if_neg (by decide)]; exact e0
  unfold wb2 syr
  by_cases q : k13 k
  · rw [if_pos q, if_neg (by decide), if_neg (by decide)]; exact e1
  · rw [if_neg q]
    by_cases z : k = 4
    · rw [if_pos z, if_neg (by decide)]; exact e1
    · rw [if_neg z, if_neg (by decide), if_neg (by decide), if_neg (by decide)]; exact e1
/-- the class's draft stands as the lines tell it -/
def CL (M : Mm) (r : Nat) (σ : LSt) (u : Int32) : Prop := LR M r ∧ gi M r 1 = nI σ.2.1 ∧ (∀ w, w < σ.2.1 → ∀ i, i < 8 → gi M (r + 776 + 64 * w) (cf i) = σ.2.2.1 w i) ∧ (∀ w, w < σ.2.1 → kCN (σ.2.2.1 w 0) → gi M (r + 776 + 64 * w) 7 = σ.2.2.2.2.2.2 w) ∧ (∀ b, b < 8 → gi M (r + 140) b = σ.2.2.2.1 b) ∧ gi M 258 1 = σ.2.2.2.2.2.1 ∧ (∀ b, b < 8 → (bt u b = true ↔ ¬ σ.2.2.2.2.1 b = 0)) ∧ ∀ w, w < σ.2.1 → WK0 M (r + 776 + 64 * w)
theorem cl_pt {N : Mm} {r : Nat} {σ : LSt} {u : Int32} (hr : 258 < r) (f : PT M N) (l : CL M r σ u) : CL N r σ u := by
  obtain ⟨l1, l2, l3, l4, l5, l6, l7, l8⟩ := l
  refine ⟨lr_gr l1 f.1, by rw [f.2.2 r (by omega)]; exact l2, fun w hw i hi => by rw [f.2.2 _ (by omega)]; exact l3 w hw i hi, fun w hw k => by rw [f.2.2 _ (by omega)]; exact l4 w hw k, fun b hb => by rw [f.2.2 _ (by omega)]; exact l5 b hb, by rw [f.2.2 _ (by omega)]; exact l6, l7, fun w hw => wk0_eq (f.2.2 _ (by omega)) (l8 w hw)⟩
/-- a wrong follower, on both sides -/
theorem bd_eq {r : Nat} {σ : LSt} {u : Int32} {w : Nat} (ok : okS σ) (l : CL M r σ u) (hw : w < σ.2.1) : badc M r σ.2.1 w ↔ bdS σ w := by
  obtain ⟨l1, l2, l3, l4, l5, l6, l7, l8⟩ := l
  have hD := ok.1
  obtain ⟨-, k, hk, ek, h⟩ := ok.2.2 w hw
  have e6 : gi M (r + 776 + 64 * w) 6 = σ.2.2.1 w 6 := l3 w hw 6 (by decide)
  unfold badc mfc bdS
  rw [e6]
  rcases h with ⟨n, e⟩ | ⟨n, f, hf, e⟩
  · rw [e]
    exact ⟨fun z => absurd (show (-4 : Int32) < 0 by decide) z.1, fun z => absurd rfl z.1⟩
  · rw [e, ncl (by omega)]
    have nn : ¬ nI f < 0 := n0 f (by omega)
    by_cases lf : f < σ.2.1
    · have e0 : gi M (r + 776 + 64 * f) 0 = σ.2.2.1 f 0 := l3 f lf 0 (by decide)
      rw [e0]
      constructor
      · rintro ⟨-, z⟩
        refine ⟨nI4 (by omega), ?_⟩
        by_cases y1 : nI σ.2.1 ≤ nI f
        · exact Or.inl y1
        · by_cases y2 : nI f = nI w
          · exact Or.inr (Or.inl y2)
          · by_cases y3 : σ.2.2.1 f 0 = 5
            · exact Or.inr (Or.inr y3)
            · exact absurd ⟨nn, y1, y2, y3⟩ z
      · rintro ⟨-, z⟩
        refine ⟨nn, fun y => ?_⟩
        rcases z with z | z | z
        · exact y.2.1 z
        · exact y.2.2.1 z
        · exact y.2.2.2 z
    · have le : nI σ.2.1 ≤ nI f := by rw [nle (by omega) (by omega)]; omega
      exact ⟨fun _ => ⟨nI4 (by omega), Or.inl le⟩, fun _ => ⟨nn, fun y => y.2.1 le⟩⟩
/-- the beginning of the lines -/
def lS0 (T : Nat → Int32) (t : Nat) (x v p : Int32) : LSt := (nxs T t (0, 0, x, v, 0, p), 0, (fun _ _ => 0), (fun _ => 2), (fun _ => 0), 0, fun _ => 0)
theorem okS0 {x v p : Int32} : okS (lS0 T t x v p) := ⟨by show (0 : Nat) ≤ 24; decide, ⟨0, by decide, rfl⟩, fun w hw => absurd (show w < 0 from hw) (by omega)⟩
theorem eLr_readInto {r : Nat} {x0 v0 p0 : Int32} {K : Int32 → Mm → Prop} (hl : LR M r) (hr : 258 < r) (g0 : gr M 258 0 = some 199) (tc : TC M T t)
    (h1 : ∀ N, PC r M N → ¬ (lpS T t 401 (lS0 T t x0 v0 p0) 0).1.1.2.2.2.2.1 = 0 → gi N 199 5 = (lpS T t 401 (lS0 T t x0 v0 p0) 0).1.1.2.2.2.2.1 → gi N 199 6 = (lpS T t 401 (lS0 T t x0 v0 p0) 0).1.1.2.2.2.2.2 → K (-1) N)
    (h2 : ∀ N w, PC r M N → (lpS T t 401 (lS0 T t x0 v0 p0) 0).1.1.2.2.2.2.1 = 0 → w < (lpS T t 401 (lS0 T t x0 v0 p0) 0).1.2.1 → bdS (lpS T t 401 (lS0 T t x0 v0 p0) 0).1 w → (∀ v, v < w → ¬ bdS (lpS T t 401 (lS0 T t x0 v0 p0) 0).1 v) → gi N 199 5 = 6 → gi N 199 6 = (lpS T t 401 (lS0 T t x0 v0 p0) 0).1.2.2.2.2.2.2 w → K (-1) N)
    (h3 : ∀ N u, PC r M N → (lpS T t 401 (lS0 T t x0 v0 p0) 0).1.1.2.2.2.2.1 = 0 → (∀ w, w < (lpS T t 401 (lS0 T t x0 v0 p0) 0).1.2.1 → ¬ bdS (lpS T t 401 (lS0 T t x0 v0 p0) 0).1 w) → gi N 199 5 = 0 → LD N r (lpS T t 401 (lS0 T t x0 v0 p0) 0).1.2.1 → CL N r (lpS T t 401 (lS0 T t x0 v0 p0) 0).1 u → okS (lpS T t 401 (lS0 T t x0 v0 p0) 0).1 → (lpS T t 401 (lS0 T t x0 v0 p0) 0).2 ≤ 400 → K (nI (lpS T t 401 (lS0 T t x0 v0 p0) 0).2) N) : CI mLr_readInto [.ref 258, .ref r] M K := by
  have ht := tc.2.2.2.1
  refine call_of rfl (Nat.le_of_ble_eq_true rfl) rfl (vLr_readInto_0 hl.1 (sLi_clear hl (vLr_readInto_4 rfl g0 ?_)))
  generalize eA : fl (si M r 1 0) (r + 140) 8 2 = A
  have pA : PC r M A := by
    rw [← eA]
    refine ⟨rfl, rfl, fun a h1 h2 h3 => ?_⟩
    funext k
    rw [flR _ _ _ _ _ _ (by omega), giR _ _ _ _ _ _ (by omega)]
  have a1 : gi A r 1 = nI 0 := by rw [← eA, flR _ _ _ _ _ _ (by omega), gi_si, if_pos ⟨rfl, rfl⟩]; rfl
  have a140 : ∀ b, b < 8 → gi A (r + 140) b = 2 := fun b hb => by rw [← eA, gi_fl, if_pos ⟨rfl, hb⟩]
  have rA : gr A = gr M := pA.1
  have tA : TC A T t := tc_gi rA (pA.2.2 70 (by decide) (by decide) (by omega)) (pA.2.2 145 (by decide) (by decide) (by omega)) tc
  refine nTo_begin tA rfl (fun B pB tB => vLr_readInto_11 rfl (by rw [pB.1, rA]; exact g0) ?_)
  refine nTo_advance (td_si (by decide) (by decide) (by decide) tB) (fun C pC tC => ?_)
  have pMC : PC r M C := pc_tr pA (pc_tr (pc_pt pB) (pc_tr (pc_si (Or.inl rfl)) (pc_pt pC)))
  have lC : CL C r (lS0 T t x0 v0 p0) 0 := by
    refine ⟨lr_gr hl pMC.1, ?_, fun w hw => absurd (show w < 0 from hw) (by omega), fun w hw => absurd (show w < 0 from hw) (by omega), fun b hb => ?_, ?_, fun b hb => ?_, fun w hw => absurd (show w < 0 from hw) (by omega)⟩
    · rw [pC.2.2 r (by omega), gi_ne (by omega), pB.2.2 r (by omega), a1]; rfl
    · rw [pC.2.2 _ (by omega), gi_ne (by omega), pB.2.2 _ (by omega), a140 b hb]; rfl
    · rw [pC.2.2 258 (by decide), gi_si, if_pos ⟨rfl, rfl⟩]; rfl
    · rw [b_0]
      exact ⟨fun z => absurd z (by decide), fun z => absurd rfl z⟩
  have rC : RL (adv T t (0, 0, 0, gi A 199 4, 0, 0)) (lS0 T t x0 v0 p0).1 := rl_adv0 tc rfl rfl rfl
  have okC : okS (lS0 T t x0 v0 p0) := okS0
  have pos0 : (lS0 T t x0 v0 p0).1.2.2.2.2.1 = 0 → ¬ (lS0 T t x0 v0 p0).1.2.2.1 = 0 → 0 < (lS0 T t x0 v0 p0).1.2.1 := fun f n => by
    have := (go_nxs (T := T) (t := t) (s := (0, 0, x0, v0, 0, p0))).2 f
    exact this.2 n
  generalize lS0 T t x0 v0 p0 = σ0 at h1 h2 h3 lC rC okC pos0
  generalize eF : lpS T t 401 σ0 0 = F at h1 h2 h3
  have bout : ∀ N s u σ v, PC r M N → TD N T t s → RL s σ.1 → (s.2.2.2.2.1 = 0 → CL N r σ u ∧ okS σ) → v ≤ 400 → (σ, v) = F → CV mLr_findWrongFollowers [.ref 258, .ref r] N (fun N => X mLr_readInto 165 [(0, .ref 258), (3, .int (nI v))] [] N (mC mLr_readInto, mS mLr_readInto) (QI K)) := by
    intro N s u σ v pN tN rl lk hv e
    subst e
    have gN : gr N 258 0 = some 199 := by rw [pN.1]; exact g0
    have lN := lr_gr hl pN.1
    have n5 := tN.2.2.2.2.2.1
    have n6 := tN.2.2.2.2.2.2.1
    by_cases z : s.2.2.2.2.1 = 0
    · have zr : σ.1.2.2.2.2.1 = 0 := rl.1.symm.trans z
      obtain ⟨cl, ok⟩ := lk z
      have hD := ok.1
      refine sLr_findWrong (D := σ.2.1) lN (by omega) gN tN (fun _ => ⟨cl.2.1, hD⟩) (fun y => absurd z y) (fun _ nb => ?_) (fun _ w hw b1 b2 O pO o5 o6 o4 => ?_)
      · refine vLr_readInto_165 rfl gN ?_
        rw [n5, if_pos z]
        refine h3 N u pN zr (fun w hw b => nb w hw ((bd_eq ok cl hw).mpr b)) (n5.trans z) ⟨lN, cl.2.1, hD, fun w hw => ?_⟩ cl ok hv
        obtain ⟨k1, k2, k3, k4⟩ := (cl.2.2.2.2.2.2.2 w hw).1
        refine ⟨k1, k2, k3, ?_⟩
        by_cases y : gi N (r + 776 + 64 * w) 6 < 0
        · exact Or.inl y
        · right
          have nbw := nb w hw
          have m : mfc N r σ.2.1 w := by
            by_cases m : mfc N r σ.2.1 w
            · exact m
            · exact absurd ⟨y, m⟩ nbw
          exact rng (n := σ.2.1) rfl (by omega) m.1 m.2.1
      · refine vLr_readInto_165 rfl (by rw [pO.1]; exact gN) ?_
        have nz : ¬ gi O 199 5 = 0 := by rw [o5]; decide
        rw [if_neg nz]
        have bs := (bd_eq ok cl hw).mp b1
        refine h2 O w (pc_tr pN (pc_pt pO)) zr hw bs (fun v hv b => b2 v hv ((bd_eq ok cl (Nat.lt_trans hv hw)).mpr b)) o5 ?_
        rw [o6]
        refine cl.2.2.2.1 w hw ?_
        obtain ⟨-, k, hk, ek, h⟩ := ok.2.2 w hw
        rcases h with ⟨-, e⟩ | ⟨n, -⟩
        · exact absurd e bs.1
        · unfold kCN
          rw [ek, show (1 : Int32) = nI 1 from rfl, show (3 : Int32) = nI 3 from rfl, nlt (by omega) (by omega), nlt (by omega) (by omega)]
          omega
    · have zr : ¬ σ.1.2.2.2.2.1 = 0 := fun y => z (rl.1.trans y)
      have nz : ¬ gi N 199 5 = 0 := by rw [n5]; exact z
      refine sLr_findWrong (D := 0) lN (by omega) gN tN (fun y => absurd y z) (fun _ => ?_) (fun y => absurd y z) (fun y => absurd y z)
      refine vLr_readInto_165 rfl gN ?_
      rw [if_neg nz]
      exact h1 N pN zr (n5.trans rl.1) (n6.trans (rl.2.1 z))
  have key : ∀ n v N s u σ, v + n = 400 → PC r M N → TD N T t s → RL s σ.1 → (s.2.2.2.2.1 = 0 → CL N r σ u ∧ okS σ) → (σ.1.2.2.2.2.1 = 0 → ¬ σ.1.2.2.1 = 0 → v < σ.1.2.1) → lpS T t (n + 1) σ v = F → X mLr_readInto 27 [(0, .ref 258), (1, .ref r), (2, .int u), (3, .int (nI v))] [] N (mC mLr_readInto, mS mLr_readInto) (QI K) := by
    intro n
    induction n with
    | zero =>
      intro v N s u σ hv pN tN rl lk pos e
      have gN : gr N 258 0 = some 199 := by rw [pN.1]; exact g0
      have ev : v = 400 := by omega
      have l : (400 : Int32) ≤ nI v := by rw [ev]; exact Int32.le_refl _
      have ex : ¬ σ.1.2.2.2.2.1 = 0 ∨ σ.1.2.2.1 = 0 := by
        by_cases f : σ.1.2.2.2.2.1 = 0
        · right
          by_cases q : σ.1.2.2.1 = 0
          · exact q
          · exfalso
            have p := pos f q
            have fs : s.2.2.2.2.1 = 0 := rl.1.trans f
            have b2 := tN.2.2.2.2.2.2.2.2
            rw [(rl.2.2 fs).2.1] at b2
            omega
        · exact Or.inl f
      have e' : (σ, v) = F := (lpS_stop T t ex).symm.trans e
      exact vLr_readInto_27 rfl gN ⟨fun _ => bout N s u σ v pN tN rl lk (by omega) e', fun q => absurd l q.1, fun q => absurd l q.1⟩
    | succ n ih =>
      intro v N s u σ hv pN tN rl lk pos e
      have gN : gr N 258 0 = some 199 := by rw [pN.1]; exact g0
      have n5 := tN.2.2.2.2.2.1
      have n1 := tN.2.1
      have stop : (¬ σ.1.2.2.2.2.1 = 0 ∨ σ.1.2.2.1 = 0) → (σ, v) = F := fun ex => (lpS_stop T t ex).symm.trans e
      have b79 : s.2.2.2.2.1 = 0 → ¬ σ.1.2.2.1 = 0 → X mLr_readInto 79 [(0, .ref 258), (1, .ref r), (2, .int u), (3, .int (nI v))] [.int (if s.1 = 2 then amo T t 0 s else -1)] N (mC mLr_readInto, mS mLr_readInto) (QI K) := by
        intro z ns
        have zr : σ.1.2.2.2.2.1 = 0 := rl.1.symm.trans z
        obtain ⟨cl, ok⟩ := lk z
        have hD := ok.1
        have b2 := tN.2.2.2.2.2.2.2.2
        have hs4 : σ.1.2.1 ≤ 400 := by rw [← (rl.2.2 z).2.1]; exact b2
        have e' : lpS T t (n + 1) (lnS T t σ) (v + 1) = F := (lpS_go T t (fun y => y.elim (fun y => y zr) ns)).symm.trans e
        -- behind a line
        have b147 : ∀ O x u', PC r M O → TD O T t x → NXT T t x (ln3 T t σ.2.1 σ.2.2.2.2.1 σ.1) → ((lnS T t σ).1.2.2.2.2.1 = 0 → CL O r (lnS T t σ) u') → X mLr_readInto 147 [(0, .ref 258), (1, .ref r), (2, .int u'), (3, .int (nI v))] [] O (mC mLr_readInto, mS mLr_readInto) (QI K) := by
          intro O x u' pO tO nx clO
          refine vLr_readInto_147 rfl (by rw [pO.1]; exact g0) (nTo_closeLine tO (fun P pP tP => vLr_readInto_154 ?_))
          rw [nI_s]
          have rl' : RL (tkC T t x) (lnS T t σ).1 := by rw [lnS_1]; exact nxt_close tc nx
          refine ih (v + 1) P _ u' (lnS T t σ) (by omega) (pc_tr pO (pc_pt pP)) tP rl' (fun y => ?_) (fun y1 y2 => ?_) e'
          · have y' : (lnS T t σ).1.2.2.2.2.1 = 0 := rl'.1.symm.trans y
            exact ⟨cl_pt hr pP (clO y'), (lnS_ok ok y').1⟩
          · have g := (lnS_ok ok y1).2
            have := pos zr ns
            omega
        have z2 : ∀ {x : Rst}, x = σ.1 → RL (adv T t s) (nxs T t x) := fun e => by rw [e]; exact rl_adv tc rl z
        rcases ln_rel (T := T) (t := t) hs4 rl z with ⟨ek, bad⟩ | ⟨i, hi, ek, el⟩ | ⟨ek, el⟩ | ⟨ek, el⟩
        · -- no line begins so
          rw [ek]
          refine vLr_readInto_79 rfl gN ⟨fun q => absurd q.1 (by decide), fun q => absurd q.1 (by decide), fun q => absurd q.1 (by decide), fun _ => nTo_fail tN (fun O pO tO => vLr_readInto_94 (b147 O _ u (pc_tr pN (pc_pt pO)) tO ?_ (fun y => ?_)))⟩
          · have rf := rl_fail (k := 2) rl z (by decide)
            have fx : ¬ (tfl 2 s).2.2.2.2.1 = 0 := tfl_ne (by decide)
            have fy : ¬ (wts 0 2 σ.1).2.2.2.2.1 = 0 := fun y => fx (rf.1.trans y)
            have e1 : ln1 T t σ.2.1 σ.1 = wts 0 2 σ.1 := by unfold ln1; rw [if_neg bad]; exact wts_f fy
            have e2 : ln2 T t σ.2.1 σ.1 = wts 0 2 σ.1 := by unfold ln2; rw [e1, nxs_f fy]
            have e3 : ln3 T t σ.2.1 σ.2.2.2.2.1 σ.1 = wts 0 2 σ.1 := by
              unfold ln3
              rw [if_neg (fun y => bad (Or.inr (Or.inl y))), if_neg (fun y => bad (Or.inr (Or.inr y))), e2]
              exact rw1_f fy
            rw [e3]; exact nxt_z rf fx
          · exfalso
            rw [lnS_1] at y
            unfold ln4 at y
            have y3 := (eln_ok y).2
            have y2 := (go_ln3.2 y3).1
            have fz := (go_ln3 (T := T) (t := t) (D := σ.2.1) (cp := σ.2.2.2.2.1) (s := σ.1)).2 y3
            have f1 : (ln1 T t σ.2.1 σ.1).2.2.2.2.1 = 0 := by
              have : (ln2 T t σ.2.1 σ.1).2.2.2.2.1 = 0 := by
                unfold ln3 at y3
                rw [if_neg (fun y => bad (Or.inr (Or.inl y))), if_neg (fun y => bad (Or.inr (Or.inr y)))] at y3
                exact (go_rw6.2 y3).1
              unfold ln2 at this
              exact nxs_ok this
            unfold ln1 at f1
            obtain ⟨-, q2, -⟩ := wts_ok (by decide) f1
            obtain ⟨q1, -, -⟩ := wts_ok (by decide) q2
            exact bad (ite1 q1)
        · -- a word
          have k16 : lnk T t σ.1 = 0 ∨ lnk T t σ.1 = 1 ∨ lnk T t σ.1 = 2 ∨ lnk T t σ.1 = 3 ∨ lnk T t σ.1 = 4 ∨ lnk T t σ.1 = 5 := by
            rw [el]
            match i, hi with
            | 0, _ => exact Or.inl rfl
            | 1, _ => exact Or.inr (Or.inl rfl)
            | 2, _ => exact Or.inr (Or.inr (Or.inl rfl))
            | 3, _ => exact Or.inr (Or.inr (Or.inr (Or.inl rfl)))
            | 4, _ => exact Or.inr (Or.inr (Or.inr (Or.inr (Or.inl rfl))))
            | 5, _ => exact Or.inr (Or.inr (Or.inr (Or.inr (Or.inr rfl))))
          have n10' : ¬ lnk T t σ.1 = 10 := by rcases k16 with q | q | q | q | q | q <;> rw [q] <;> decide
          have n11' : ¬ lnk T t σ.1 = 11 := by rcases k16 with q | q | q | q | q | q <;> rw [q] <;> decide
          have v1 : ¬ lnk T t σ.1 < 0 ∧ ¬ 5 < lnk T t σ.1 := by rcases k16 with q | q | q | q | q | q <;> rw [q] <;> decide
          have p0 : (0 : Int32) ≤ nI i := nI_pos' (by omega)
          have n6' : ¬ (6 : Int32) ≤ nI i := by rw [show (6 : Int32) = nI 6 from rfl, nle (by omega) (by decide)]; omega
          rw [ek]
          have e0 : wts (if (¬ lnk T t σ.1 < 0 ∧ ¬ 5 < lnk T t σ.1) ∨ lnk T t σ.1 = 10 ∨ lnk T t σ.1 = 11 then 1 else 0) 2 σ.1 = σ.1 := wts_t (by rw [if_pos (Or.inl v1)]; decide)
          have e3 : ln3 T t σ.2.1 σ.2.2.2.2.1 σ.1 = rw6 T t (lnk T t σ.1) (ln2 T t σ.2.1 σ.1) := by unfold ln3; rw [if_neg n10', if_neg n11']
          refine vLr_readInto_79 rfl gN ⟨fun q => absurd q.2.1 n6', fun q => absurd q.2.1 n6', fun _ => ?_, fun q => absurd p0 q⟩
          refine nLr_tellWord cl.1 (by omega) gN tN cl.2.1 hD (fun h24 O pO tO => vLr_readInto_112 (b147 O _ u (pc_tr pN (pc_pt pO)) tO ?_ (fun y => ?_))) (fun hD4 O pO tO nf => vLr_readInto_112 (b147 _ _ u (pc_tr pN (pc_tr (pc_px (by omega) pO) (pc_si (Or.inr (by omega))))) (td_si (by omega) (by omega) (by omega) tO) ?_ (fun y => ?_))) (fun hD4 O pO tO nf ew => vLr_readInto_112 (b147 _ _ u (pc_tr pN (pc_tr (pc_px (by omega) pO) (pc_si (Or.inr (by omega))))) (td_si (by omega) (by omega) (by omega) tO) ?_ (fun y => ?_)))
          · have nl : ¬ (5 < lnk T t σ.1 ∨ σ.2.1 < 24) := fun y => y.elim v1.2 (fun y => by omega)
            have rf := rl_fail (k := 5) rl z (by decide)
            have fx : ¬ (tfl 5 s).2.2.2.2.1 = 0 := tfl_ne (by decide)
            have fy : ¬ (wts 0 5 σ.1).2.2.2.2.1 = 0 := fun y => fx (rf.1.trans y)
            have e1 : ln1 T t σ.2.1 σ.1 = wts 0 5 σ.1 := by unfold ln1; rw [e0, if_neg nl]
            have e2 : ln2 T t σ.2.1 σ.1 = wts 0 5 σ.1 := by unfold ln2; rw [e1, nxs_f fy]
            rw [e3, e2, rw1_f fy]
            exact nxt_z rf fx
          · exfalso
            rw [lnS_1] at y
            unfold ln4 at y
            have y3 := (eln_ok y).2
            rw [e3] at y3
            have y2 := (go_rw6.2 y3).1
            unfold ln2 at y2
            have y1 := nxs_ok y2
            unfold ln1 at y1
            obtain ⟨q1, -, -⟩ := wts_ok (by decide) y1
            rcases ite1 q1 with q | q
            · exact v1.2 q
            · omega
          · have wl : 5 < lnk T t σ.1 ∨ σ.2.1 < 24 := Or.inr hD4
            have e1 : ln1 T t σ.2.1 σ.1 = σ.1 := by unfold ln1; rw [e0, if_pos wl]; exact wts_t (by decide)
            have e2 : ln2 T t σ.2.1 σ.1 = nxs T t σ.1 := by unfold ln2; rw [e1]
            rw [e3, e2, el]
            exact (rl_word tc (nxs_400 ht hs4) (by rw [← el]; exact k16) (z2 rfl)).1
          · exfalso
            have wl : 5 < lnk T t σ.1 ∨ σ.2.1 < 24 := Or.inr hD4
            have e1 : ln1 T t σ.2.1 σ.1 = σ.1 := by unfold ln1; rw [e0, if_pos wl]; exact wts_t (by decide)
            have e2 : ln2 T t σ.2.1 σ.1 = nxs T t σ.1 := by unfold ln2; rw [e1]
            have nx := (rl_word (k := nI i) tc (nxs_400 ht hs4) (by rw [← el]; exact k16) (z2 rfl)).1
            rw [lnS_1] at y
            unfold ln4 at y
            have y3 := (eln_ok y).2
            rw [e3, e2, el] at y3
            exact (nxt_f nx nf).2 y3
          · have wl : 5 < lnk T t σ.1 ∨ σ.2.1 < 24 := Or.inr hD4
            have e1 : ln1 T t σ.2.1 σ.1 = σ.1 := by unfold ln1; rw [e0, if_pos wl]; exact wts_t (by decide)
            have e2 : ln2 T t σ.2.1 σ.1 = nxs T t σ.1 := by unfold ln2; rw [e1]
            rw [e3, e2, el]
            exact (rl_word tc (nxs_400 ht hs4) (by rw [← el]; exact k16) (z2 rfl)).1
          · have wl : 5 < lnk T t σ.1 ∨ σ.2.1 < 24 := Or.inr hD4
            have e1 : ln1 T t σ.2.1 σ.1 = σ.1 := by unfold ln1; rw [e0, if_pos wl]; exact wts_t (by decide)
            have e2 : ln2 T t σ.2.1 σ.1 = nxs T t σ.1 := by unfold ln2; rw [e1]
            have rw' := (rl_word (k := nI i) tc (nxs_400 ht hs4) (by rw [← el]; exact k16) (z2 rfl)).2 nf σ.2.2.2.2.2.1
            have f4 : (ln4 T t σ.2.1 σ.2.2.2.2.1 σ.1).2.2.2.2.1 = 0 := by rw [← lnS_1]; exact y
            have eS : lnS T t σ = (ln4 T t σ.2.1 σ.2.2.2.2.1 σ.1, σ.2.1 + 1, upr σ.2.2.1 σ.2.1 (rwr T t (lnk T t σ.1) (ln2 T t σ.2.1 σ.1) σ.2.2.2.2.2.1), σ.2.2.2.1, σ.2.2.2.2.1, σ.2.2.2.2.2.1, up1 σ.2.2.2.2.2.2 σ.2.1 (nI (rw5 T t (lnk T t σ.1) (ln2 T t σ.2.1 σ.1)).1)) := by
              unfold lnS; rw [if_neg (fun q => q f4), if_neg n10', if_neg n11']
            rw [eS, e2, el]
            obtain ⟨l1, l2, l3, l4, l5, l6, l7, l8⟩ := cl
            obtain ⟨b, hb, eb⟩ := ok.2.1
            rw [l6] at ew
            refine ⟨lr_gr l1 pO.1, by rw [gi_si, if_pos ⟨rfl, rfl⟩], fun w hw j hj => ?_, fun w hw kc => ?_, fun b hb => ?_, ?_, l7, fun w hw => ?_⟩
            · show gi (si O r 1 (nI (σ.2.1 + 1))) (r + 776 + 64 * w) (cf j) = upr σ.2.2.1 σ.2.1 (rwr T t (nI i) (nxs T t σ.1) σ.2.2.2.2.2.1) w j
              have hw' : w < σ.2.1 + 1 := hw
              rw [giR _ _ _ _ _ _ (by omega)]
              unfold upr
              by_cases q : w = σ.2.1
              · rw [if_pos q, q, ew (cf j) (by unfold cf; split <;> omega)]
                exact rw'.1 j hj
              · rw [if_neg q, pO.2.2 _ (by omega) (by omega)]
                exact l3 w (by omega) j hj
            · show gi (si O r 1 (nI (σ.2.1 + 1))) (r + 776 + 64 * w) 7 = up1 σ.2.2.2.2.2.2 σ.2.1 (nI (rw5 T t (nI i) (nxs T t σ.1)).1) w
              have hw' : w < σ.2.1 + 1 := hw
              have kc' : kCN (upr σ.2.2.1 σ.2.1 (rwr T t (nI i) (nxs T t σ.1) σ.2.2.2.2.2.1) w 0) := kc
              rw [giR _ _ _ _ _ _ (by omega)]
              unfold up1
              by_cases q : w = σ.2.1
              · rw [if_pos q, q, ew 7 (by decide)]
                refine rw'.2 ?_
                unfold upr at kc'
                rw [if_pos q] at kc'
                exact kc'
              · rw [if_neg q, pO.2.2 _ (by omega) (by omega)]
                unfold upr at kc'
                rw [if_neg q] at kc'
                exact l4 w (by omega) kc'
            · rw [gi_ne (by omega), pO.2.2 _ (by omega) (by omega)]; exact l5 b hb
            · rw [gi_ne (by omega), pO.2.2 _ (by omega) (by omega)]; exact l6
            · have hw' : w < σ.2.1 + 1 := hw
              by_cases q : w = σ.2.1
              · rw [q]
                have wk := wb2_ok tN.1 hb eb nf
                refine ⟨?_, ?_⟩
                · unfold WK
                  rw [gi_ne (by omega), ew 1 (by decide), ew 2 (by decide), ew 3 (by decide), ew 6 (by decide)]
                  exact wk
                · rw [gi_ne (by omega), ew 10 (by decide)]; exact wb2_10 _ _ _ _ _
              · refine wk0_eq ?_ (l8 w (by omega))
                rw [gi_ne (by omega), pO.2.2 _ (by omega) (by omega)]
        · -- a book
          rw [ek]
          have e0 : wts (if (¬ lnk T t σ.1 < 0 ∧ ¬ 5 < lnk T t σ.1) ∨ lnk T t σ.1 = 10 ∨ lnk T t σ.1 = 11 then 1 else 0) 2 σ.1 = σ.1 := wts_t (by rw [if_pos (Or.inr (Or.inl el))]; decide)
          have e1 : ln1 T t σ.2.1 σ.1 = σ.1 := by unfold ln1; rw [e0, if_pos (Or.inl (by rw [el]; decide))]; exact wts_t (by decide)
          have e2 : ln2 T t σ.2.1 σ.1 = nxs T t σ.1 := by unfold ln2; rw [e1]
          have e3 : ln3 T t σ.2.1 σ.2.2.2.2.1 σ.1 = nxs T t (isn 0 7 (nxs T t σ.1)) := by unfold ln3; rw [if_pos el, e2]
          obtain ⟨g1, g2⟩ := rl_num (g := 7) (by decide) (z2 rfl)
          refine vLr_readInto_79 rfl gN ⟨fun q => absurd rfl q.2.2, fun _ => nTo_takeNumber tN (fun O pO tO => vLr_readInto_132 rfl (b147 _ (tkN 7 (adv T t s)) u (pc_tr pN (pc_tr (pc_pt pO) (pc_si (Or.inl rfl)))) (td_si (by decide) (by decide) (by decide) tO) ?_ (fun y => ?_))), fun q => absurd q.2 (by decide), fun q => absurd (by decide) q⟩
          · rw [e3]; exact ⟨_, g1, rfl⟩
          · have f4 : (ln4 T t σ.2.1 σ.2.2.2.2.1 σ.1).2.2.2.2.1 = 0 := by rw [← lnS_1]; exact y
            have eS : lnS T t σ = (ln4 T t σ.2.1 σ.2.2.2.2.1 σ.1, σ.2.1, σ.2.2.1, σ.2.2.2.1, σ.2.2.2.2.1, (ln2 T t σ.2.1 σ.1).2.2.2.1, σ.2.2.2.2.2.2) := by
              unfold lnS; rw [if_neg (fun q => q f4), if_pos el]
            have f3 : (ln3 T t σ.2.1 σ.2.2.2.2.1 σ.1).2.2.2.2.1 = 0 := by unfold ln4 at f4; exact (eln_ok f4).2
            rw [e3] at f3
            have fi := nxs_ok f3
            have fx : (tkN (nI 7) (adv T t s)).2.2.2.2.1 = 0 := g1.1.trans fi
            have ev := (g2 fx).1
            rw [eS, e2]
            have c2 := cl_pt hr pO cl
            obtain ⟨l1, l2, l3, l4, l5, l6, l7, l8⟩ := c2
            refine ⟨lr_gr l1 rfl, by rw [gi_ne (by omega)]; exact l2, fun w hw j hj => by rw [gi_ne (by omega)]; exact l3 w hw j hj, fun w hw kc => by rw [gi_ne (by omega)]; exact l4 w hw kc, fun b hb => by rw [gi_ne (by omega)]; exact l5 b hb, ?_, l7, fun w hw => wk0_eq (gi_ne (by omega)) (l8 w hw)⟩
            rw [gi_si, if_pos ⟨rfl, rfl⟩]; exact ev
        · -- copies
          rw [ek]
          have e0 : wts (if (¬ lnk T t σ.1 < 0 ∧ ¬ 5 < lnk T t σ.1) ∨ lnk T t σ.1 = 10 ∨ lnk T t σ.1 = 11 then 1 else 0) 2 σ.1 = σ.1 := wts_t (by rw [if_pos (Or.inr (Or.inr el))]; decide)
          have e1 : ln1 T t σ.2.1 σ.1 = σ.1 := by unfold ln1; rw [e0, if_pos (Or.inl (by rw [el]; decide))]; exact wts_t (by decide)
          have e2 : ln2 T t σ.2.1 σ.1 = nxs T t σ.1 := by unfold ln2; rw [e1]
          have n10' : ¬ lnk T t σ.1 = 10 := by rw [el]; decide
          have e3 : ln3 T t σ.2.1 σ.2.2.2.2.1 σ.1 = rcs T t (σ.2.2.2.2.1 (nxs T t σ.1).2.2.2.1.toNatClampNeg) (nxs T t σ.1) := by unfold ln3; rw [if_neg n10', if_pos el, e2]
          obtain ⟨g1, g2⟩ := rl_copies (u := u) (ic := σ.2.2.2.2.1) tc cl.2.2.2.2.2.2.1 (z2 rfl)
          have up : (lnS T t σ).1.2.2.2.2.1 = 0 → (tcE T t u s).2.2.2.2.1 = 0 := fun y => by
            have f4 : (ln4 T t σ.2.1 σ.2.2.2.2.1 σ.1).2.2.2.2.1 = 0 := by rw [← lnS_1]; exact y
            have f3 : (ln3 T t σ.2.1 σ.2.2.2.2.1 σ.1).2.2.2.2.1 = 0 := by unfold ln4 at f4; exact (eln_ok f4).2
            rw [e3] at f3
            by_cases q : (tcE T t u s).2.2.2.2.1 = 0
            · exact q
            · exact absurd f3 (nxt_f g1 q).2
          refine vLr_readInto_79 rfl gN ⟨fun _ => nLr_tellCopies cl.1 (by omega) gN tN (fun O pO tO nf => vLr_readInto_145 (b147 O _ _ (pc_tr pN (pc_pt pO)) tO (by rw [e3]; exact g1) (fun y => ?_))) (fun O i pO tO nf hi ei => vLr_readInto_145 (b147 _ (tcE T t u s) _ (pc_tr pN (pc_tr (pc_pt pO) (pc_si (Or.inr (by omega))))) (td_si (by omega) (by omega) (by omega) tO) (by rw [e3]; exact g1) (fun y => ?_))), fun q => absurd q.2.2 (by decide), fun q => absurd q.2 (by decide), fun q => absurd (by decide) q⟩
          · exact absurd (g2 (up y)).1 nf
          · have f4 : (ln4 T t σ.2.1 σ.2.2.2.2.1 σ.1).2.2.2.2.1 = 0 := by rw [← lnS_1]; exact y
            obtain ⟨-, i', hi', ei', er, ev⟩ := g2 (up y)
            have ii : i' = i := (ninj (by omega) (by omega)).mp (ei'.symm.trans ei)
            subst ii
            have eS : lnS T t σ = (ln4 T t σ.2.1 σ.2.2.2.2.1 σ.1, σ.2.1, σ.2.2.1, up1 σ.2.2.2.1 (ln2 T t σ.2.1 σ.1).2.2.2.1.toNatClampNeg (rc3 T t (σ.2.2.2.2.1 (ln2 T t σ.2.1 σ.1).2.2.2.1.toNatClampNeg) (ln2 T t σ.2.1 σ.1)).2.2.2.1, up1 σ.2.2.2.2.1 (ln2 T t σ.2.1 σ.1).2.2.2.1.toNatClampNeg 1, σ.2.2.2.2.2.1, σ.2.2.2.2.2.2) := by
              unfold lnS; rw [if_neg (fun q => q f4), if_neg n10', if_pos el]
            have ci : (nxs T t σ.1).2.2.2.1.toNatClampNeg = i' := by rw [er]; exact ncl (by omega)
            rw [ci] at ev
            rw [eS, e2, ci]
            have c2 := cl_pt hr pO cl
            obtain ⟨l1, l2, l3, l4, l5, l6, l7, l8⟩ := c2
            refine ⟨lr_gr l1 rfl, by rw [gi_ne (by omega)]; exact l2, fun w hw j hj => by rw [gi_ne (by omega)]; exact l3 w hw j hj, fun w hw kc => by rw [gi_ne (by omega)]; exact l4 w hw kc, fun b hb => ?_, by rw [gi_ne (by omega)]; exact l6, fun b hb => ?_, fun w hw => wk0_eq (gi_ne (by omega)) (l8 w hw)⟩
            · show gi (si O (r + 140) i' (tkNv 9 (adv T t (tc1 T t u s)))) (r + 140) b = up1 σ.2.2.2.1 i' (rc3 T t (σ.2.2.2.2.1 i') (nxs T t σ.1)).2.2.2.1 b
              rw [gxs]
              unfold up1
              by_cases q : b = i'
              · rw [if_pos q, if_pos q]; exact ev
              · rw [if_neg q, if_neg q]; exact l5 b hb
            · show bt (u ||| ((1 : Int32) <<< (nI i' &&& 31))) b = true ↔ ¬ up1 σ.2.2.2.2.1 i' 1 b = 0
              rw [b_or, b_one i' (by omega) b (by omega), Bool.or_eq_true, decide_eq_true_eq]
              unfold up1
              by_cases q : b = i'
              · rw [if_pos q]
                exact ⟨fun _ => by decide, fun _ => Or.inr q⟩
              · rw [if_neg q]
                exact ⟨fun y => (l7 b hb).mp (y.resolve_right q), fun y => Or.inl ((l7 b hb).mpr y)⟩
      have kend : s.2.2.2.2.1 = 0 → (s.1 = 1 ↔ σ.1.2.2.1 = 0) := fun f => ks1 (rl.2.2 f).2.2.1
      have nv : ¬ (400 : Int32) ≤ nI v := by rw [show (400 : Int32) = nI 400 from rfl, nle (by omega) (by decide)]; omega
      refine vLr_readInto_27 rfl gN ⟨fun q => ?_, fun q => ?_, fun q => sTo_among (j := 0) tN (by decide) (vLr_readInto_75 ?_)⟩
      · refine bout N s u σ v pN tN rl lk (by omega) (stop ?_)
        rw [n5, n1] at q
        rcases q with q | q | q
        · exact absurd q nv
        · exact Or.inl (fun y => q.2 (rl.1.trans y))
        · exact Or.inr ((kend q.2.1).mp q.2.2)
      · rw [n5, n1] at q
        have := b79 q.2.1 (fun y => q.2.2.1 ((kend q.2.1).mpr y))
        rw [if_neg q.2.2.2] at this
        exact this
      · rw [n5, n1] at q
        have := b79 q.2.1 (fun y => q.2.2.1 ((kend q.2.1).mpr y))
        rw [if_pos q.2.2.2] at this
        exact this
  exact key 400 0 C _ 0 σ0 (by omega) pMC tC rC (fun _ => ⟨lC, okC⟩) pos0 eF
end EQ8
end MG49
