section MG89
/-! ===== bits of a long counted: the JDK's way and the reference's loop ===== -/
theorem land_32 (d a m b : Nat) (hd : d < 2 ^ 32) (hm : m < 2 ^ 32) : (d + 4294967296 * a) &&& (m + 4294967296 * b) = (d &&& m) + 4294967296 * (a &&& b) := by
  have e1 : d + 4294967296 * a = 2 ^ 32 * a + d := by omega
  have e2 : m + 4294967296 * b = 2 ^ 32 * b + m := by omega
  have e3 : (d &&& m) + 4294967296 * (a &&& b) = 2 ^ 32 * (a &&& b) + (d &&& m) := by omega
  have hdm : (d &&& m) < 2 ^ 32 := Nat.and_lt_two_pow d hm
  rw [e1, e2, e3]
  refine Nat.eq_of_testBit_eq (fun j => ?_)
  rw [Nat.testBit_and, Nat.testBit_two_pow_mul_add _ hd, Nat.testBit_two_pow_mul_add _ hm, Nat.testBit_two_pow_mul_add _ hdm]
  by_cases h : j < 32
  · rw [if_pos h, if_pos h, if_pos h, Nat.testBit_and]
  · rw [if_neg h, if_neg h, if_neg h, Nat.testBit_and]
theorem d4_lt {a b c d : Nat} (ha : a < 256) (hb : b < 256) (hc : c < 256) (hd : d < 256) : d4 a b c d < 2 ^ 32 := by unfold d4; omega
theorem pn1c (a b c d e : Nat) (ha : a < 256) (hb : b < 256) (hc : c < 256) (hd : d < 256) (he : e < 2) : (d4 a b c d / 2 + 2147483648 * e &&& 1431655765) = (d4 a b c d / 2 &&& 1431655765) := by
  have x : d4 a b c d / 2 = d4 (a / 2 + 128 * (b % 2)) (b / 2 + 128 * (c % 2)) (c / 2 + 128 * (d % 2)) (d / 2) := by unfold d4; omega
  have y : d4 a b c d / 2 + 2147483648 * e = d4 (a / 2 + 128 * (b % 2)) (b / 2 + 128 * (c % 2)) (c / 2 + 128 * (d % 2)) (d / 2 + 128 * e) := by rw [x]; unfold d4; omega
  have m : (1431655765 : Nat) = d4 85 85 85 85 := rfl
  rw [y, x, m, land_4 (by omega) (by omega) (by omega) (by decide) (by decide) (by decide), land_4 (by omega) (by omega) (by omega) (by decide) (by decide) (by decide), (by1 d hd e he).1]
theorem pn2c (a b c d e : Nat) (ha : a < 256) (hb : b < 256) (hc : c < 256) (hd : d < 256) (he : e < 4) : (d4 a b c d / 4 + 1073741824 * e &&& 858993459) = (d4 a b c d / 4 &&& 858993459) := by
  have x : d4 a b c d / 4 = d4 (a / 4 + 64 * (b % 4)) (b / 4 + 64 * (c % 4)) (c / 4 + 64 * (d % 4)) (d / 4) := by unfold d4; omega
  have y : d4 a b c d / 4 + 1073741824 * e = d4 (a / 4 + 64 * (b % 4)) (b / 4 + 64 * (c % 4)) (c / 4 + 64 * (d % 4)) (d / 4 + 64 * e) := by rw [x]; unfold d4; omega
  have m : (858993459 : Nat) = d4 51 51 51 51 := rfl
  rw [y, x, m, land_4 (by omega) (by omega) (by omega) (by decide) (by decide) (by decide), land_4 (by omega) (by omega) (by omega) (by decide) (by decide) (by decide), by2 d hd e he]
theorem pn3c (a b c d y : Nat) (ha : a % 16 ≤ 4 ∧ a / 16 ≤ 4) (hb : b % 16 ≤ 4 ∧ b / 16 ≤ 4) (hc : c % 16 ≤ 4 ∧ c / 16 ≤ 4) (hd : d % 16 ≤ 4 ∧ d / 16 ≤ 4) (hy : y ≤ 4) : (d4 a b c d + d4 a b c d / 16 + 268435456 * y &&& 252645135) = d4 (pw3 a) (pw3 b) (pw3 c) (pw3 d) ∧ d4 a b c d + d4 a b c d / 16 + 268435456 * y < 2 ^ 32 := by
  have e : d4 a b c d + d4 a b c d / 16 + 268435456 * y = d4 (a + a / 16 + 16 * (b % 16)) (b + b / 16 + 16 * (c % 16)) (c + c / 16 + 16 * (d % 16)) (d + d / 16 + 16 * y) := by unfold d4; omega
  have m : (252645135 : Nat) = d4 15 15 15 15 := rfl
  have f : ∀ x y, x % 16 ≤ 4 ∧ x / 16 ≤ 4 → y ≤ 4 → (x + x / 16 + 16 * y &&& 15) = pw3 x := by
    intro x y hx hy
    have e : x + x / 16 + 16 * y = 16 * (x / 16 + y) + (x % 16 + x / 16) := by omega
    have em : (x + x / 16 + 16 * y) % 16 = x % 16 + x / 16 := by rw [e, Nat.mul_add_mod, Nat.mod_eq_of_lt (by omega)]
    rw [by4 _ (by omega) (by rw [em]; omega), em]
    rfl
  refine ⟨?_, by unfold d4; omega⟩
  rw [e, m, land_4 (by omega) (by omega) (by omega) (by decide) (by decide) (by decide), f a _ ha hb.1, f b _ hb hc.1, f c _ hc hd.1, f d _ hd hy]
theorem pa1 {a X X1 : Nat} (ha : a ≤ 8) (e : X = a + 256 * X1) : X / 256 = X1 := by omega
theorem pa2 {a b c X1 X2 X3 : Nat} (e1 : X1 = b + 256 * X2) (e2 : X2 = c + 256 * X3) : a + 256 * X1 + X1 = (a + b) + 256 * (b + c) + 65536 * (X2 + X3) := by omega
theorem pa2' {a b c Y : Nat} (ha : a ≤ 8) (hb : b ≤ 8) (hc : c ≤ 8) : ((a + b) + 256 * (b + c) + 65536 * Y) / 65536 = Y := by omega
theorem pa3a {d e X3 X4 X5 : Nat} (e3 : X3 = d + 256 * X4) (e4 : X4 = e + 256 * X5) : 65536 * X3 = 65536 * d + 16777216 * e + 4294967296 * X5 := by omega
theorem pa3b {c d X2 X3 X4 : Nat} (e2 : X2 = c + 256 * X3) (e3 : X3 = d + 256 * X4) : 65536 * X2 = 65536 * c + 16777216 * d + 4294967296 * X4 := by omega
theorem pa3c {d e f g X3 X4 X5 X6 X7 : Nat} (e3 : X3 = d + 256 * X4) (e4 : X4 = e + 256 * X5) (e5 : X5 = f + 256 * X6) (e6 : X6 = g + 256 * X7) : X3 = d + 256 * e + 65536 * f + 16777216 * g + 4294967296 * X7 := by omega
theorem pa3d {a b c d e f g X2 X3 X4 X5 X6 X7 p q : Nat} (a2 : p = 65536 * c + 16777216 * d + 4294967296 * X4) (a3 : q = 65536 * d + 16777216 * e + 4294967296 * X5) (b2 : X2 = c + 256 * d + 65536 * e + 16777216 * f + 4294967296 * X6) (b3 : X3 = d + 256 * e + 65536 * f + 16777216 * g + 4294967296 * X7) : (a + b) + 256 * (b + c) + (p + q) + (X2 + X3) = (a + b + c + d) + 256 * (b + c + d + e) + 65536 * (c + d + e + f) + 16777216 * (d + e + f + g) + 4294967296 * (X4 + X5 + X6 + X7) := by omega
theorem pa4 {s t u v Y : Nat} (hs : s ≤ 64) (ht : t ≤ 64) (hu : u ≤ 64) (hv : v ≤ 64) : (s + 256 * t + 65536 * u + 16777216 * v + 4294967296 * Y) / 4294967296 = Y := by omega
theorem pa5 {e f g h X4 X5 X6 X7 : Nat} (e4 : X4 = e + 256 * X5) (e5 : X5 = f + 256 * X6) (e6 : X6 = g + 256 * X7) (e7 : X7 = h) : X4 + X5 + X6 + X7 = (e + f + g + h) + 128 * (2 * X5 + 2 * X6 + 2 * X7) := by omega
theorem pa6 {e f g h X4 X5 X6 X7 : Nat} (he : e ≤ 8) (hf : f ≤ 8) (hg : g ≤ 8) (hh : h ≤ 8) (e4 : X4 = e + 256 * X5) (e5 : X5 = f + 256 * X6) (e6 : X6 = g + 256 * X7) (e7 : X7 = h) : X4 + X5 + X6 + X7 ≤ 268435456 := by omega
theorem pa7 {a b c d X1 X2 X3 X4 : Nat} (e1 : X1 = b + 256 * X2) (e2 : X2 = c + 256 * X3) (e3 : X3 = d + 256 * X4) : d4 a b c d + 4294967296 * X4 = a + 256 * X1 := by unfold d4; omega
theorem pa8 {s t u v y Y k : Nat} (e : Y = y + 128 * k) : s + 256 * t + 65536 * u + 16777216 * v + 4294967296 * Y + Y = 128 * (2 * t + 512 * u + 131072 * v + 33554432 * Y + k) + (s + y) := by omega
theorem pa9 {s t u v Y : Nat} (hs : s ≤ 64) (ht : t ≤ 64) (hu : u ≤ 64) (hv : v ≤ 64) (hY : Y ≤ 268435456) : s + 256 * t + 65536 * u + 16777216 * v + 4294967296 * Y < 2 ^ 64 ∧ s + 256 * t + 65536 * u + 16777216 * v + 4294967296 * Y + Y < 2 ^ 64 := by omega
theorem pa10 {x y z : Nat} (h : x + y < z) : x < z := by omega
theorem sum4 {a b c d : Nat} (ha : a ≤ 8) (hb : b ≤ 8) (hc : c ≤ 8) (hd : d ≤ 8) : a + b + c + d ≤ 64 := by omega
theorem sum8 {a b c d e f g h : Nat} (ha : a ≤ 8) (hb : b ≤ 8) (hc : c ≤ 8) (hd : d ≤ 8) (he : e ≤ 8) (hf : f ≤ 8) (hg : g ≤ 8) (hh : h ≤ 8) : (a + b + c + d) + (e + f + g + h) < 128 := by omega
/-- eight bytes, each no more than 8, are added up -/
theorem pn5 (a b c d e f g h : Nat) (ha : a ≤ 8) (hb : b ≤ 8) (hc : c ≤ 8) (hd : d ≤ 8) (he : e ≤ 8) (hf : f ≤ 8) (hg : g ≤ 8) (hh : h ≤ 8) {X : Nat} (eX : X = d4 a b c d + 4294967296 * d4 e f g h) : ∃ A B, A = X + X / 256 ∧ B = A + A / 65536 ∧ (B + B / 4294967296) % 128 = (a + b + c + d) + (e + f + g + h) ∧ A < 2 ^ 64 ∧ B < 2 ^ 64 ∧ B + B / 4294967296 < 2 ^ 64 := by
  obtain ⟨X7, e7⟩ : ∃ x, x = h := ⟨_, rfl⟩
  obtain ⟨X6, e6⟩ : ∃ x, x = g + 256 * X7 := ⟨_, rfl⟩
  obtain ⟨X5, e5⟩ : ∃ x, x = f + 256 * X6 := ⟨_, rfl⟩
  obtain ⟨X4, e4⟩ : ∃ x, x = e + 256 * X5 := ⟨_, rfl⟩
  obtain ⟨X3, e3⟩ : ∃ x, x = d + 256 * X4 := ⟨_, rfl⟩
  obtain ⟨X2, e2⟩ : ∃ x, x = c + 256 * X3 := ⟨_, rfl⟩
  obtain ⟨X1, e1⟩ : ∃ x, x = b + 256 * X2 := ⟨_, rfl⟩
  have h4 : d4 e f g h = X4 := by unfold d4; rw [e4, e5, e6, e7]
  have x0 : X = a + 256 * X1 := by rw [eX, h4]; exact pa7 e1 e2 e3
  have hY := pa6 he hf hg hh e4 e5 e6 e7
  have kA : X + X / 256 = (a + b) + 256 * (b + c) + 65536 * (X2 + X3) := by rw [pa1 ha x0, x0]; exact pa2 e1 e2
  have kB : (X + X / 256) + (X + X / 256) / 65536 = (a + b + c + d) + 256 * (b + c + d + e) + 65536 * (c + d + e + f) + 16777216 * (d + e + f + g) + 4294967296 * (X4 + X5 + X6 + X7) := by
    rw [kA, pa2' ha hb hc, show 65536 * (X2 + X3) = 65536 * X2 + 65536 * X3 from Nat.mul_add _ _ _]
    exact pa3d (pa3b e2 e3) (pa3a e3 e4) (pa3c e2 e3 e4 e5) (pa3c e3 e4 e5 e6)
  obtain ⟨q1, q2⟩ := pa9 (sum4 ha hb hc hd) (sum4 hb hc hd he) (sum4 hc hd he hf) (sum4 hd he hf hg) hY
  have kD : ((a + b + c + d) + 256 * (b + c + d + e) + 65536 * (c + d + e + f) + 16777216 * (d + e + f + g) + 4294967296 * (X4 + X5 + X6 + X7)) / 4294967296 = X4 + X5 + X6 + X7 := pa4 (sum4 ha hb hc hd) (sum4 hb hc hd he) (sum4 hc hd he hf) (sum4 hd he hf hg)
  refine ⟨X + X / 256, (X + X / 256) + (X + X / 256) / 65536, rfl, rfl, ?_, ?_, ?_, ?_⟩
  · rw [kB, kD, pa8 (pa5 e4 e5 e6 e7), Nat.mul_add_mod, Nat.mod_eq_of_lt (sum8 ha hb hc hd he hf hg hh)]
  · exact pa10 (y := (X + X / 256) / 65536) (by rw [kB]; exact q1)
  · rw [kB]; exact q1
  · rw [kB, kD]; exact q2
theorem hv2 {lo hi : Nat} (hl : lo < 2 ^ 32) : (lo + 4294967296 * hi) / 2 = (lo / 2 + 2147483648 * (hi % 2)) + 4294967296 * (hi / 2) ∧ lo / 2 + 2147483648 * (hi % 2) < 2 ^ 32 := by omega
theorem hv4 {lo hi : Nat} (hl : lo < 2 ^ 32) : (lo + 4294967296 * hi) / 4 = (lo / 4 + 1073741824 * (hi % 4)) + 4294967296 * (hi / 4) ∧ lo / 4 + 1073741824 * (hi % 4) < 2 ^ 32 := by omega
theorem hv16 {lo hi : Nat} (hl : lo < 2 ^ 32) : (lo + 4294967296 * hi) / 16 = (lo / 16 + 268435456 * (hi % 16)) + 4294967296 * (hi / 16) := by omega
theorem hsub {p q r s : Nat} (h1 : r ≤ p) (h2 : s ≤ q) : p + 4294967296 * q - (r + 4294967296 * s) = (p - r) + 4294967296 * (q - s) ∧ r + 4294967296 * s ≤ p + 4294967296 * q := by omega
theorem hadd {p q r s : Nat} : (p + 4294967296 * q) + (r + 4294967296 * s) = (p + r) + 4294967296 * (q + s) := by omega
theorem hlt {p q : Nat} (h1 : p < 2 ^ 32) (h2 : q < 2 ^ 32) : p + 4294967296 * q < 2 ^ 64 := by omega
theorem d4_m {a b c d : Nat} : d4 a b c d % 16 = a % 16 := by unfold d4; omega
def tL (x : Int64) : Nat := x.toBitVec.toNat
theorem tL_lt (x : Int64) : tL x < 2 ^ 64 := x.toBitVec.isLt
theorem tL_and (x y : Int64) : tL (x &&& y) = tL x &&& tL y := by unfold tL; rw [Int64.toBitVec_and, BitVec.toNat_and]
theorem tL_add {x y : Int64} (h : tL x + tL y < 2 ^ 64) : tL (x + y) = tL x + tL y := by
  unfold tL at h ⊢
  rw [Int64.toBitVec_add, BitVec.toNat_add, Nat.mod_eq_of_lt h]
theorem tL_sub {x y : Int64} (h : tL y ≤ tL x) : tL (x - y) = tL x - tL y := by
  have l := tL_lt x
  unfold tL at h l ⊢
  rw [Int64.toBitVec_sub, BitVec.toNat_sub]
  omega
theorem s_ul : ∀ n, n < 64 → (((nI n).toInt64.toUInt64 &&& Int64.toUInt64 63).toBitVec % 64).toNat = n := by decide +kernel
theorem tL_ushr (x : Int64) {k : Nat} (hk : k < 64) : tL (lushr x (nI k)) = tL x / 2 ^ k := by
  show (x.toUInt64 >>> ((nI k).toInt64.toUInt64 &&& Int64.toUInt64 63)).toBitVec.toNat = x.toUInt64.toBitVec.toNat / 2 ^ k
  rw [UInt64.toBitVec_shiftRight]
  show (x.toUInt64.toBitVec >>> (((nI k).toInt64.toUInt64 &&& Int64.toUInt64 63).toBitVec % 64).toNat).toNat = _
  rw [s_ul k hk, BitVec.toNat_ushiftRight, Nat.shiftRight_eq_div_pow]
theorem tN_32 (x : Int64) : tN x.toInt32 = tL x % 2 ^ 32 := by
  unfold tN tL
  rw [Int64.toBitVec_toInt32, BitVec.signExtend_eq_setWidth_of_le _ (by decide), BitVec.toNat_setWidth]
/-- the JDK's count of a long's bits is the sum over its eight bytes -/
theorem bcl_sum (x : Int64) {a b c d e f g h : Nat} (ha : a < 256) (hb : b < 256) (hc : c < 256) (hd : d < 256) (he : e < 256) (hf : f < 256) (hg : g < 256) (hh : h < 256) (ex : tL x = d4 a b c d + 4294967296 * d4 e f g h) : tN (bc64 x) = (pc8 a + pc8 b + pc8 c + pc8 d) + (pc8 e + pc8 f + pc8 g + pc8 h) := by
  obtain ⟨a1, a2, a3, a4, a5, a6, -⟩ := by3 a ha
  obtain ⟨b1, b2, b3, b4, b5, b6, -⟩ := by3 b hb
  obtain ⟨c1, c2, c3, c4, c5, c6, -⟩ := by3 c hc
  obtain ⟨d1, d2, d3, d4', d5, d6, -⟩ := by3 d hd
  obtain ⟨e1, e2, e3, e4, e5, e6, -⟩ := by3 e he
  obtain ⟨f1, f2, f3, f4, f5, f6, -⟩ := by3 f hf
  obtain ⟨g1, g2, g3, g4, g5', g6', -⟩ := by3 g hg
  obtain ⟨h1, h2, h3, h4, h5, h6, -⟩ := by3 h hh
  have m1 : tL (6148914691236517205 : Int64) = 1431655765 + 4294967296 * 1431655765 := by decide +kernel
  have m2 : tL (3689348814741910323 : Int64) = 858993459 + 4294967296 * 858993459 := by decide +kernel
  have m3 : tL (1085102592571150095 : Int64) = 252645135 + 4294967296 * 252645135 := by decide +kernel
  have m4 : tN (127 : Int32) = 127 := by decide +kernel
  have u1 : ∀ x : Int64, tL (lushr x (1 : Int32)) = tL x / 2 := fun x => tL_ushr x (k := 1) (by decide)
  have u2 : ∀ x : Int64, tL (lushr x (2 : Int32)) = tL x / 4 := fun x => tL_ushr x (k := 2) (by decide)
  have u4 : ∀ x : Int64, tL (lushr x (4 : Int32)) = tL x / 16 := fun x => tL_ushr x (k := 4) (by decide)
  have u8 : ∀ x : Int64, tL (lushr x (8 : Int32)) = tL x / 256 := fun x => tL_ushr x (k := 8) (by decide)
  have u16 : ∀ x : Int64, tL (lushr x (16 : Int32)) = tL x / 65536 := fun x => tL_ushr x (k := 16) (by decide)
  have u32 : ∀ x : Int64, tL (lushr x (32 : Int32)) = tL x / 4294967296 := fun x => tL_ushr x (k := 32) (by decide)
  unfold bc64
  generalize q1 : x - ((lushr x (1 : Int32)) &&& 6148914691236517205) = y1
  have t1 : tL y1 = d4 (pw1 a) (pw1 b) (pw1 c) (pw1 d) + 4294967296 * d4 (pw1 e) (pw1 f) (pw1 g) (pw1 h) := by
    obtain ⟨p1, p1'⟩ := pn1 a b c d ha hb hc hd
    obtain ⟨r1, r1'⟩ := pn1 e f g h he hf hg hh
    obtain ⟨s1, s2⟩ := hv2 (hi := d4 e f g h) (d4_lt ha hb hc hd)
    obtain ⟨k1, k2⟩ := hsub p1' r1'
    have k : (tL x / 2 &&& (1431655765 + 4294967296 * 1431655765)) = (d4 a b c d / 2 &&& 1431655765) + 4294967296 * (d4 e f g h / 2 &&& 1431655765) := by
      rw [ex, s1, land_32 _ _ _ _ s2 (by decide), pn1c a b c d _ ha hb hc hd (Nat.mod_lt _ (by decide))]
    rw [← q1, tL_sub (by rw [tL_and, u1, m1, k, ex]; exact k2), tL_and, u1, m1, k, ex, k1, p1, r1]
  clear q1 ex
  generalize q2 : (y1 &&& 3689348814741910323) + ((lushr y1 (2 : Int32)) &&& 3689348814741910323) = y2
  have t2 : tL y2 = d4 (pw2 (pw1 a)) (pw2 (pw1 b)) (pw2 (pw1 c)) (pw2 (pw1 d)) + 4294967296 * d4 (pw2 (pw1 e)) (pw2 (pw1 f)) (pw2 (pw1 g)) (pw2 (pw1 h)) := by
    have p2 := pn2 (pw1 a) (pw1 b) (pw1 c) (pw1 d) a1 b1 c1 d1
    have r2 := pn2 (pw1 e) (pw1 f) (pw1 g) (pw1 h) e1 f1 g1 h1
    have l0 := d4_lt a1 b1 c1 d1
    obtain ⟨s1, s2⟩ := hv4 (hi := d4 (pw1 e) (pw1 f) (pw1 g) (pw1 h)) l0
    have k1 : (tL y1 &&& (858993459 + 4294967296 * 858993459)) = (d4 (pw1 a) (pw1 b) (pw1 c) (pw1 d) &&& 858993459) + 4294967296 * (d4 (pw1 e) (pw1 f) (pw1 g) (pw1 h) &&& 858993459) := by
      rw [t1, land_32 _ _ _ _ l0 (by decide)]
    have k2 : (tL y1 / 4 &&& (858993459 + 4294967296 * 858993459)) = (d4 (pw1 a) (pw1 b) (pw1 c) (pw1 d) / 4 &&& 858993459) + 4294967296 * (d4 (pw1 e) (pw1 f) (pw1 g) (pw1 h) / 4 &&& 858993459) := by
      rw [t1, s1, land_32 _ _ _ _ s2 (by decide), pn2c _ _ _ _ _ a1 b1 c1 d1 (Nat.mod_lt _ (by decide))]
    have s : tL (y1 &&& 3689348814741910323) + tL ((lushr y1 (2 : Int32)) &&& 3689348814741910323) = d4 (pw2 (pw1 a)) (pw2 (pw1 b)) (pw2 (pw1 c)) (pw2 (pw1 d)) + 4294967296 * d4 (pw2 (pw1 e)) (pw2 (pw1 f)) (pw2 (pw1 g)) (pw2 (pw1 h)) := by
      rw [tL_and, tL_and, u2, m2, k1, k2, hadd, p2, r2]
    rw [← q2, tL_add (by rw [s]; exact hlt (d4_lt a2 b2 c2 d2) (d4_lt e2 f2 g2 h2)), s]
  clear q2 t1
  generalize q3 : (y2 + (lushr y2 (4 : Int32))) &&& 1085102592571150095 = y3
  have t3 : tL y3 = d4 (pc8 a) (pc8 b) (pc8 c) (pc8 d) + 4294967296 * d4 (pc8 e) (pc8 f) (pc8 g) (pc8 h) := by
    have hm : d4 (pw2 (pw1 e)) (pw2 (pw1 f)) (pw2 (pw1 g)) (pw2 (pw1 h)) % 16 ≤ 4 := by rw [d4_m]; exact e3
    obtain ⟨p3, p3'⟩ := pn3c (pw2 (pw1 a)) (pw2 (pw1 b)) (pw2 (pw1 c)) (pw2 (pw1 d)) _ ⟨a3, a4⟩ ⟨b3, b4⟩ ⟨c3, c4⟩ ⟨d3, d4'⟩ hm
    obtain ⟨r3, r3'⟩ := pn3 (pw2 (pw1 e)) (pw2 (pw1 f)) (pw2 (pw1 g)) (pw2 (pw1 h)) ⟨e3, e4⟩ ⟨f3, f4⟩ ⟨g3, g4⟩ ⟨h3, h4⟩
    have s : tL y2 + tL y2 / 16 = (d4 (pw2 (pw1 a)) (pw2 (pw1 b)) (pw2 (pw1 c)) (pw2 (pw1 d)) + d4 (pw2 (pw1 a)) (pw2 (pw1 b)) (pw2 (pw1 c)) (pw2 (pw1 d)) / 16 + 268435456 * (d4 (pw2 (pw1 e)) (pw2 (pw1 f)) (pw2 (pw1 g)) (pw2 (pw1 h)) % 16)) + 4294967296 * (d4 (pw2 (pw1 e)) (pw2 (pw1 f)) (pw2 (pw1 g)) (pw2 (pw1 h)) + d4 (pw2 (pw1 e)) (pw2 (pw1 f)) (pw2 (pw1 g)) (pw2 (pw1 h)) / 16) := by
      rw [t2, hv16 (d4_lt a2 b2 c2 d2), hadd, ← Nat.add_assoc (d4 (pw2 (pw1 a)) (pw2 (pw1 b)) (pw2 (pw1 c)) (pw2 (pw1 d))) (d4 (pw2 (pw1 a)) (pw2 (pw1 b)) (pw2 (pw1 c)) (pw2 (pw1 d)) / 16)]
    rw [← q3, tL_and, m3, tL_add (by rw [u4, s]; exact hlt p3' r3'), u4, s, land_32 _ _ _ _ p3' (by decide), p3, r3, a5, b5, c5, d5, e5, f5, g5', h5]
  clear q3 t2
  obtain ⟨A, B, eA, eB, n1, n2, n3, n4⟩ := pn5 (pc8 a) (pc8 b) (pc8 c) (pc8 d) (pc8 e) (pc8 f) (pc8 g) (pc8 h) a6 b6 c6 d6 e6 f6 g6' h6 t3
  generalize q4 : y3 + (lushr y3 (8 : Int32)) = y4
  have t4 : tL y4 = A := by rw [← q4, tL_add (by rw [u8, ← eA]; exact n2), u8, ← eA]
  generalize q5 : y4 + (lushr y4 (16 : Int32)) = y5
  have t5 : tL y5 = B := by rw [← q5, tL_add (by rw [u16, t4, ← eB]; exact n3), u16, t4, ← eB]
  have t6 : tL (y5 + (lushr y5 (32 : Int32))) = B + B / 4294967296 := by rw [tL_add (by rw [u32, t5]; exact n4), u32, t5]
  rw [tN_and, m4, tN_32, t6, show (127 : Nat) = 2 ^ 7 - 1 from rfl, Nat.and_two_pow_sub_one_eq_mod, Nat.mod_mod_of_dvd _ (by decide)]
  exact n1
theorem d4_of {n : Nat} (h : n < 2 ^ 32) : n = d4 (n % 256) (n / 256 % 256) (n / 65536 % 256) (n / 16777216) ∧ n / 16777216 < 256 := by unfold d4; omega
theorem sbt_64 {a b c d e f g h : Nat} (ha : a < 256) (hb : b < 256) (hc : c < 256) (hd : d < 256) (he : e < 256) (hf : f < 256) (hg : g < 256) (hh : h < 256) : sbt (d4 a b c d + 4294967296 * d4 e f g h) 64 = (pc8 a + pc8 b + pc8 c + pc8 d) + (pc8 e + pc8 f + pc8 g + pc8 h) := by
  have e0 : d4 a b c d + 4294967296 * d4 e f g h = a + 256 * (b + 256 * (c + 256 * (d + 256 * d4 e f g h))) := pa7 rfl rfl rfl
  have f1 : sbt (a + 256 * (b + 256 * (c + 256 * (d + 256 * d4 e f g h)))) 64 = pc8 a + sbt (b + 256 * (c + 256 * (d + 256 * d4 e f g h))) 56 := sbt_s a _ ha 56
  have f2 : sbt (b + 256 * (c + 256 * (d + 256 * d4 e f g h))) 56 = pc8 b + sbt (c + 256 * (d + 256 * d4 e f g h)) 48 := sbt_s b _ hb 48
  have f3 : sbt (c + 256 * (d + 256 * d4 e f g h)) 48 = pc8 c + sbt (d + 256 * d4 e f g h) 40 := sbt_s c _ hc 40
  have f4 : sbt (d + 256 * d4 e f g h) 40 = pc8 d + sbt (d4 e f g h) 32 := sbt_s d _ hd 32
  rw [e0, f1, f2, f3, f4, sbt_32 he hf hg hh]
  clear e0 f1 f2 f3 f4
  omega
theorem lb_n (v : Int64) (k : Nat) : lb v k = true ↔ tL v / 2 ^ k % 2 = 1 := by
  unfold lb tL
  rw [← BitVec.testBit_toNat, Nat.testBit_eq_decide_div_mod_eq, decide_eq_true_eq]
theorem mo_sum (v : Int64) : ∀ k, k ≤ 64 → tN (mo v k) = sbt (tL v) k
  | 0, _ => show tN 0 = 0 from by decide +kernel
  | k + 1, hk => by
    have ih := mo_sum v k (by omega)
    have le := sbt_le (tL v) k
    have t1 : tN (1 : Int32) = 1 := by decide +kernel
    have t0 : tN (0 : Int32) = 0 := by decide +kernel
    have m2 := Nat.mod_lt (tL v / 2 ^ k) (show 0 < 2 by decide)
    have e : tN ((v >>> ((nI k).toInt64 &&& 63)) &&& 1).toInt32 = tL v / 2 ^ k % 2 := by
      by_cases q : lb v k = true
      · rw [(lbit v (by omega)).mpr q, (lb_n v k).mp q]
        exact t1
      · have n1 : ¬ tL v / 2 ^ k % 2 = 1 := fun z => q ((lb_n v k).mpr z)
        have qf : lb v k = false := by simpa using q
        have e0 : ((v >>> ((nI k).toInt64 &&& 63)) &&& 1) = 0 := by
          refine l_ext (fun j hj => ?_)
          rw [l_and, l_1 j hj, l_0]
          by_cases ej : j = 0
          · subst ej
            rw [l_shr k (by omega), qf]; rfl
          · rw [decide_eq_false ej, Bool.and_false]
        rw [e0, show (0 : Int64).toInt32 = 0 from rfl, t0]
        omega
    rw [mo, sbt, tN_add (by rw [ih, e]; omega), ih, e]
/-- the two counts of a long's bits are the same -/
theorem bcl_mo (v : Int64) : bc64 v = mo v 64 := by
  have l := tL_lt v
  obtain ⟨lo, hi, hl, hh, e⟩ : ∃ lo hi, lo < 2 ^ 32 ∧ hi < 2 ^ 32 ∧ tL v = lo + 4294967296 * hi := ⟨tL v % 4294967296, tL v / 4294967296, by omega, by omega, by omega⟩
  obtain ⟨p, p'⟩ := d4_of hl
  obtain ⟨q, q'⟩ := d4_of hh
  have m : ∀ n : Nat, n % 256 < 256 := fun n => Nat.mod_lt n (by decide)
  rw [p, q] at e
  refine tN_inj ?_
  rw [bcl_sum v (m _) (m _) (m _) p' (m _) (m _) (m _) q' e, mo_sum v 64 (Nat.le_refl _)]
  conv => rhs; rw [e]
  rw [sbt_64 (m _) (m _) (m _) p' (m _) (m _) (m _) q']
end MG89
section MG90
/-! ===== the least bit of a long: the JDK's way and the reference's loop; sets of cases counted ===== -/
/-- the way down comes to the same -/
def nq (H W : Nat → Int32) (c : Nat) : Bool := decide (¬ H c = W c)
end MG90
section MG91
/-! ===== many, clash, sides: the same on both sides ===== -/
section EW3
variable {A M N : Mm} {L P R S U D W t : Nat} {G : Nat → Nat → Int32}
theorem pz_many {v : Int32} {Z : Int32 → Int32 → Mm → Prop} (i0 : INY M) (h : ∀ r s N, INY N → r = s → Z r s N) : CI mC_many [.ref 10, .int v] M (fun r N => CI mM_many [.ref 6027, .int v] N (fun s O => Z r s O)) := by
  obtain ⟨L, P, R, S, U, D, W, t, i, ez⟩ := i0
  have c := i.1.1
  have hW : W ≤ 24 := i.2.1.2.1
  obtain ⟨G, ey⟩ := ez.2
  have key : ∀ N r, CQ M N → r = mMany N W v → CI mM_many [.ref 6027, .int v] N (fun s O => Z r s O) := fun N r f e => tM_many (iv_cq f i).2.1.1 (iv_cq f i).2.1.2.2.1 (fun O g => h _ _ O ⟨L, P, R, S, U, D, W, t, iv_af g (iv_cq f i), ez_af g (ez_cq f ez)⟩ e)
  refine call_of rfl (Nat.le_of_ble_eq_true rfl) rfl (vC_many_0 (eC_isKind (fun q => vC_many_4 rfl ⟨fun _ => key M _ (cq_rf M) ?_, fun q => absurd rfl q⟩) (fun q => vC_many_4 rfl ⟨fun q => absurd q (by decide), fun _ => eC_casesNow c (fun N fN => vC_many_12 (sJl_bitCount (fun r er => vC_many_15 (key N _ fN ?_))))⟩)))
  · rw [mMany, q, if_neg (by decide)]
  · rw [mMany, q, if_pos rfl, mCases, q, if_pos rfl, er, bcl_mo, cs_e (cmp_of i ez.1 ey fN) hW (iv_cq fN i).2.1.2.2.1 q 64 (Nat.le_refl 64)]
end EW3
end MG91
section MG92
/-! ===== what holds, of opinions alone; hangs ===== -/
/-- what is held, by a law, opinions, a head and silence -/
def hof (l : Int32) (o : Nat → Int32) (hd si : Int32) : Int32 := anb (byf l (ocn o 1 8) (ocn o 0 8) (hds hd o) si) l (ocn o 1 8) (ocn o 0 8) (hds hd o) si
section EW4
variable {A M N : Mm} {L P R S U D W t : Nat} {G : Nat → Nat → Int32}
end EW4
end MG92
section MG93
/-! ===== a found word: what a doctor says then, on both sides ===== -/
def bet (W v : Nat) : Nat := if v < W then v else 24
section EX2
variable {A M N S : Mm} {L P R U D W t d m : Nat} {G : Nat → Nat → Int32} {a : Int32}
end EX2
end MG93
