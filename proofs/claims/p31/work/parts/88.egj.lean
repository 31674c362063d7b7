section MG89
/-! ===== bits of a long counted: the JDK's way and the reference's loop ===== -/
theorem land_32 (d a m b : Nat) (hd : d < 2 ^ 32) (hm : m < 2 ^ 32) : (d + 4294967296 * a) &&& (m + 4294967296 * b) = (d &&& m) + 4294967296 * (a &&& b) := by
  have e1 : d + 4294967296 * a = 2 ^ 32 * a + d := by omega
  have e2 : m + 4294967296 * b = 2 ^ 32 * b + m := by omega
  have e3 : (d &&& m) + 4294967296 * (a &&& b) = 2 ^ 32 * (a &&& b) + (d &&& m) := by omega
  have hdm : (d &&& m) < 2 ^ 32 := Nat.and_lt_two_pow d hm
  rw [e1, e2, e3]
  refine Nat.eq_of_testBit_eq (fun j => ?_)
  rw [Nat.testBit_and, Nat.testBit_two_pow_mul_add _ hd, Nat.testBit_two_pow_mul_add _ hm, Nat.testBit_two_pow_mul_add _ hdm]
  by_cases h : j < 32
  · rw [if_pos h, if_pos h, if_pos h, Nat.testBit_and]
  · rw [if_neg h, if_neg h, if_neg h, Nat.testBit_and]
theorem d4_lt {a b c d : Nat} (ha : a < 256) (hb : b < 256) (hc : c < 256) (hd : d < 256) : d4 a b c d < 2 ^ 32 := by unfold d4; omega
theorem pn1c (a b c d e : Nat) (ha : a < 256) (hb : b < 256) (hc : c < 256) (hd : d < 256) (he : e < 2) : (d4 a b c d / 2 + 2147483648 * e &&& 1431655765) = (d4 a b c d / 2 &&& 1431655765) := by
  have x : d4 a b c d / 2 = d4 (a / 2 + 128 * (b % 2)) (b / 2 + 128 * (c % 2)) (c / 2 + 128 * (d % 2)) (d / 2) := by unfold d4; omega
  have y : d4 a b c d / 2 + 2147483648 * e = d4 (a / 2 + 128 * (b % 2)) (b / 2 + 128 * (c % 2)) (c / 2 + 128 * (d % 2)) (d / 2 + 128 * e) := by rw [x]; unfold d4; omega
  have m : (1431655765 : Nat) = d4 85 85 85 85 := rfl
  rw [y, x, m, land_4 (by omega) (by omega) (by omega) (by decide) (by decide) (by decide), land_4 (by omega) (by omega) (by omega) (by decide) (by decide) (by decide), (by1 d hd e he).1]
theorem pn2c (a b c d e : Nat) (ha : a < 256) (hb : b < 256) (hc : c < 256) (hd : d < 256) (he : e < 4) : (d4 a b c d / 4 + 1073741824 * e &&& 858993459) = (d4 a b c d / 4 &&& 858993459) := by
  have x : d4 a b c d / 4 = d4 (a / 4 + 64 * (b % 4)) (b / 4 + 64 * (c % 4)) (c / 4 + 64 * (d % 4)) (d / 4) := by unfold d4; omega
  have y : d4 a b c d / 4 + 1073741824 * e = d4 (a / 4 + 64 * (b % 4)) (b / 4 + 64 * (c % 4)) (c / 4 + 64 * (d % 4)) (d / 4 + 64 * e) := by rw [x]; unfold d4; omega
  have m : (858993459 : Nat) = d4 51 51 51 51 := rfl
  rw [y, x, m, land_4 (by omega) (by omega) (by omega) (by decide) (by decide) (by decide), land_4 (by omega) (by omega) (by omega) (by decide) (by decide) (by decide), by2 d hd e he]
theorem pn3c (a b c d y : Nat) (ha : a % 16 ≤ 4 ∧ a / 16 ≤ 4) (hb : b % 16 ≤ 4 ∧ b / 16 ≤ 4) (hc : c % 16 ≤ 4 ∧ c / 16 ≤ 4) (hd : d % 16 ≤ 4 ∧ d / 16 ≤ 4) (hy : y ≤ 4) : (d4 a b c d + d4 a b c d / 16 + 268435456 * y &&& 252645135) = d4 (pw3 a) (pw3 b) (pw3 c) (pw3 d) ∧ d4 a b c d + d4 a b c d / 16 + 268435456 * y < 2 ^ 32 := by
  have e : d4 a b c d + d4 a b c d / 16 + 268435456 * y = d4 (a + a / 16 + 16 * (b % 16)) (b + b / 16 + 16 * (c % 16)) (c + c / 16 + 16 * (d % 16)) (d + d / 16 + 16 * y) := by unfold d4; omega
  have m : (252645135 : Nat) = d4 15 15 15 15 := rfl
  have f : ∀ x y, x % 16 ≤ 4 ∧ x / 16 ≤ 4 → y ≤ 4 → (x + x / 16 + 16 * y &&& 15) = pw3 x := by
    intro x y hx hy
    have e : x + x / 16 + 16 * y = 16 * (x / 16 + y) + (x % 16 + x / 16) := by omega
    have em : (x + x / 16 + 16 * y) % 16 = x % 16 + x / 16 := by rw [e, Nat.mul_add_mod, Nat.mod_eq_of_lt (by omega)]
    rw [by4 _ (by omega) (by rw [em]; omega), em]
    rfl
  refine ⟨?_, by unfold d4; omega⟩
  rw [e, m, land_4 (by omega) (by omega) (by omega) (by decide) (by decide) (by decide), f a _ ha hb.1, f b _ hb hc.1, f c _ hc hd.1, f d _ hd hy]
theorem pa1 {a X X1 : Nat} (ha : a ≤ 8) (e : X = a + 256 * X1) : X / 256 = X1 := by omega
theorem pa2 {a b c X1 X2 X3 : Nat} (e1 : X1 = b + 256 * X2) (e2 : X2 = c + 256 * X3) : a + 256 * X1 + X1 = (a + b) + 256 * (b + c) + 65536 * (X2 + X3) := by omega
theorem pa2' {a b c Y : Nat} (ha : a ≤ 8) (hb : b ≤ 8) (hc : c ≤ 8) : ((a + b) + 256 * (b + c) + 65536 * Y) / 65536 = Y := by omega
theorem pa3a {d e X3 X4 X5 : Nat} (e3 : X3 = d + 256 * X4) (e4 : X4 = e + 256 * X5) : 65536 * X3 = 65536 * d + 16777216 * e + 4294967296 * X5 := by omega
theorem pa3b {c d X2 X3 X4 : Nat} (e2 : X2 = c + 256 * X3) (e3 : X3 = d + 256 * X4) : 65536 * X2 = 65536 * c + 16777216 * d + 4294967296 * X4 := by omega
theorem pa3c {d e f g X3 X4 X5 X6 X7 : Nat} (e3 : X3 = d + 256 * X4) (e4 : X4 = e + 256 * X5) (e5 : X5 = f + 256 * X6) (e6 : X6 = g + 256 * X7) : X3 = d + 256 * e + 65536 * f + 16777216 * g + 4294967296 * X7 := by omega
theorem pa3d {a b c d e f g X2 X3 X4 X5 X6 X7 p q : Nat} (a2 : p = 65536 * c + 16777216 * d + 4294967296 * X4) (a3 : q = 65536 * d + 16777216 * e + 4294967296 * X5) (b2 : X2 = c + 256 * d + 65536 * e + 16777216 * f + 4294967296 * X6) (b3 : X3 = d + 256 * e + 65536 * f + 16777216 * g + 4294967296 * X7) : (a + b) + 256 * (b + c) + (p + q) + (X2 + X3) = (a + b + c + d) + 256 * (b + c + d + e) + 65536 * (c + d + e + f) + 16777216 * (d + e + f + g) + 4294967296 * (X4 + X5 + X6 + X7) := by omega
theorem pa4 {s t u v Y : Nat} (hs : s ≤ 64) (ht : t ≤ 64) (hu : u ≤ 64) (hv : v ≤ 64) : (s + 256 * t + 65536 * u + 16777216 * v + 4294967296 * Y) / 4294967296 = Y := by omega
theorem pa5 {e f g h X4 X5 X6 X7 : Nat} (e4 : X4 = e + 256 * X5) (e5 : X5 = f + 256 * X6) (e6 : X6 = g + 256 * X7) (e7 : X7 = h) : X4 + X5 + X6 + X7 = (e + f + g + h) + 128 * (2 * X5 + 2 * X6 + 2 * X7) := by omega
theorem pa6 {e f g h X4 X5 X6 X7 : Nat} (he : e ≤ 8) (hf : f ≤ 8) (hg : g ≤ 8) (hh : h ≤ 8) (e4 : X4 = e + 256 * X5) (e5 : X5 = f + 256 * X6) (e6 : X6 = g + 256 * X7) (e7 : X7 = h) : X4 + X5 + X6 + X7 ≤ 268435456 := by omega
theorem pa7 {a b c d X1 X2 X3 X4 : Nat} (e1 : X1 = b + 256 * X2) (e2 : X2 = c + 256 * X3) (e3 : X3 = d + 256 * X4) : d4 a b c d + 4294967296 * X4 = a + 256 * X1 := by unfold d4; omega
theorem pa8 {s t u v y Y k : Nat} (e : Y = y + 128 * k) : s + 256 * t + 65536 * u + 16777216 * v + 4294967296 * Y + Y = 128 * (2 * t + 512 * u + 131072 * v + 33554432 * Y + k) + (s + y) := by omega
theorem pa9 {s t u v Y : Nat} (hs : s ≤ 64) (ht : t ≤ 64) (hu : u ≤ 64) (hv : v ≤ 64) (hY : Y ≤ 268435456) : s + 256 * t + 65536 * u + 16777216 * v + 4294967296 * Y < 2 ^ 64 ∧ s + 256 * t + 65536 * u + 16777216 * v + 4294967296 * Y + Y < 2 ^ 64 := by omega
theorem pa10 {x y z : Nat} (h : x + y < z) : x < z := by omega
theorem sum4 {a b c d : Nat} (ha : a ≤ 8) (hb : b ≤ 8) (hc : c ≤ 8) (hd : d ≤ 8) : a + b + c + d ≤ 64 := by omega
theorem sum8 {a b c d e f g h : Nat} (ha : a ≤ 8) (hb : b ≤ 8) (hc : c ≤ 8) (hd : d ≤ 8) (he : e ≤ 8) (hf : f ≤ 8) (hg : g ≤ 8) (hh : h ≤ 8) : (a + b + c + d) + (e + f + g + h) < 128 := by omega
/-- eight bytes, each no more than 8, are added up -/
theorem pn5 (a b c d e f g h : Nat) (ha : a ≤ 8) (hb : b ≤ 8) (hc : c ≤ 8) (hd : d ≤ 8) (he : e ≤ 8) (hf : f ≤ 8) (hg : g ≤ 8) (hh : h ≤ 8) {X : Nat} (eX : X = d4 a b c d + 4294967296 * d4 e f g h) : ∃ A B, A = X + X / 256 ∧ B = A + A / 65536 ∧ (B + B / 4294967296) % 128 = (a + b + c + d) + (e + f + g + h) ∧ A < 2 ^ 64 ∧ B < 2 ^ 64 ∧ B + B / 4294967296 < 2 ^ 64 := by
  obtain ⟨X7, e7⟩ : ∃ x, x = h := ⟨_, rfl⟩
  obtain ⟨X6, e6⟩ : ∃ x, x = g + 256 * X7 := ⟨_, rfl⟩
  obtain ⟨X5, e5⟩ : ∃ x, x = f + 256 * X6 := ⟨_, rfl⟩
  obtain ⟨X4, e4⟩ : ∃ x, x = e + 256 * X5 := ⟨_, rfl⟩
  obtain ⟨X3, e3⟩ : ∃ x, x = d + 256 * X4 := ⟨_, rfl⟩
  obtain ⟨X2, e2⟩ : ∃ x, x = c + 256 * X3 := ⟨_, rfl⟩
  obtain ⟨X1, e1⟩ : ∃ x, x = b + 256 * X2 := ⟨_, rfl⟩
  have h4 : d4 e f g h = X4 := by unfold d4; rw [e4, e5, e6, e7]
  have x0 : X = a + 256 * X1 := by rw [eX, h4]; exact pa7 e1 e2 e3
  have hY := pa6 he hf hg hh e4 e5 e6 e7
  have kA : X + X / 256 = (a + b) + 256 * (b + c) + 65536 * (X2 + X3) := by rw [pa1 ha x0, x0]; exact pa2 e1 e2
  have kB : (X + X / 256) + (X + X / 256) / 65536 = (a + b + c + d) + 256 * (b + c + d + e) + 65536 * (c + d + e + f) + 16777216 * (d + e + f + g) + 4294967296 * (X4 + X5 + X6 + X7) := by
    rw [kA, pa2' ha hb hc, show 65536 * (X2 + X3) = 65536 * X2 + 65536 * X3 from Nat.mul_add _ _ _]
    exact pa3d (pa3b e2 e3) (pa3a e3 e4) (pa3c e2 e3 e4 e5) (pa3c e3 e4 e5 e6)
  obtain ⟨q1, q2⟩ := pa9 (sum4 ha hb hc hd) (sum4 hb hc hd he) (sum4 hc hd he hf) (sum4 hd he hf hg) hY
  have kD : ((a + b + c + d) + 256 * (b + c + d + e) + 65536 * (c + d + e + f) + 16777216 * (d + e + f + g) + 4294967296 * (X4 + X5 + X6 + X7)) / 4294967296 = X4 + X5 + X6 + X7 := pa4 (sum4 ha hb hc hd) (sum4 hb hc hd he) (sum4 hc hd he hf) (sum4 hd he hf hg)
  refine ⟨X + X / 256, (X + X / 256) + (X + X / 256) / 65536, rfl, rfl, ?_, ?_, ?_, ?_⟩
  · rw [kB, kD, pa8 (pa5 e4 e5 e6 e7), Nat.mul_add_mod, Nat.mod_eq_of_lt (sum8 ha hb hc hd he hf hg hh)]
  · exact pa10 (y := (X + X / 256) / 65536) (by rw [kB]; exact q1)
  · rw [kB]; exact q1
  · rw [kB, kD]; exact q2
theorem hv2 {lo hi : Nat} (hl : lo < 2 ^ 32) : (lo + 4294967296 * hi) / 2 = (lo / 2 + 2147483648 * (hi % 2)) + 4294967296 * (hi / 2) ∧ lo / 2 + 2147483648 * (hi % 2) < 2 ^ 32 := by omega
theorem hv4 {lo hi : Nat} (hl : lo < 2 ^ 32) : (lo + 4294967296 * hi) / 4 = (lo / 4 + 1073741824 * (hi % 4)) + 4294967296 * (hi / 4) ∧ lo / 4 + 1073741824 * (hi % 4) < 2 ^ 32 := by omega
theorem hv16 {lo hi : Nat} (hl : lo < 2 ^ 32) : (lo + 4294967296 * hi) / 16 = (lo / 16 + 268435456 * (hi % 16)) + 4294967296 * (hi / 16) := by omega
theorem hsub {p q r s : Nat} (h1 : r ≤ p) (h2 : s ≤ q) : p + 4294967296 * q - (r + 4294967296 * s) = (p - r) + 4294967296 * (q - s) ∧ r + 4294967296 * s ≤ p + 4294967296 * q := by omega
theorem hadd {p q r s : Nat} : (p + 4294967296 * q) + (r + 4294967296 * s) = (p + r) + 4294967296 * (q + s) := by omega
theorem hlt {p q : Nat} (h1 : p < 2 ^ 32) (h2 : q < 2 ^ 32) : p + 4294967296 * q < 2 ^ 64 := by omega
theorem d4_m {a b c d : Nat} : d4 a b c d % 16 = a % 16 := by unfold d4; omega
def tL (x : Int64) : Nat := x.toBitVec.toNat
theorem tL_lt (x : Int64) : tL x < 2 ^ 64 := x.toBitVec.isLt
theorem tL_and (x y : Int64) : tL (x &&& y) = tL x &&& tL y := by unfold tL; rw [Int64.toBitVec_and, BitVec.toNat_and]
theorem tL_add {x y : Int64} (h : tL x + tL y < 2 ^ 64) : tL (x + y) = tL x + tL y := by
  unfold tL at h ⊢
  rw [Int64.toBitVec_add, BitVec.toNat_add, Nat.mod_eq_of_lt h]
theorem tL_sub {x y : Int64} (h : tL y ≤ tL x) : tL (x - y) = tL x - tL y := by
  have l := tL_lt x
  unfold tL at h l ⊢
  rw [Int64.toBitVec_sub, BitVec.toNat_sub]
  omega
theorem s_ul : ∀ n, n < 64 → (((nI n).toInt64.toUInt64 &&& Int64.toUInt64 63).toBitVec % 64).toNat = n := by decide +kernel
theorem tL_ushr (x : Int64) {k : Nat} (hk : k < 64) : tL (lushr x (nI k)) = tL x / 2 ^ k := by
  show (x.toUInt64 >>> ((nI k).toInt64.toUInt64 &&& Int64.toUInt64 63)).toBitVec.toNat = x.toUInt64.toBitVec.toNat / 2 ^ k
  rw [UInt64.toBitVec_shiftRight]
  show (x.toUInt64.toBitVec >>> (((nI k).toInt64.toUInt64 &&& Int64.toUInt64 63).toBitVec % 64).toNat).toNat = _
  rw [s_ul k hk, BitVec.toNat_ushiftRight, Nat.shiftRight_eq_div_pow]
theorem tN_32 (x : Int64) : tN x.toInt32 = tL x % 2 ^ 32 := by
  unfold tN tL
  rw [Int64.toBitVec_toInt32, BitVec.signExtend_eq_setWidth_of_le _ (by decide), BitVec.toNat_setWidth]
/-- the JDK's count of a long's bits is the sum over its eight bytes -/
theorem bcl_sum (x : Int64) {a b c d e f g h : Nat} (ha : a < 256) (hb : b < 256) (hc : c < 256) (hd : d < 256) (he : e < 256) (hf : f < 256) (hg : g < 256) (hh : h < 256) (ex : tL x = d4 a b c d + 4294967296 * d4 e f g h) : tN (bc64 x) = (pc8 a + pc8 b + pc8 c + pc8 d) + (pc8 e + pc8 f + pc8 g + pc8 h) := by
  obtain ⟨a1, a2, a3, a4, a5, a6, -⟩ := by3 a ha
  obtain ⟨b1, b2, b3, b4, b5, b6, -⟩ := by3 b hb
  obtain ⟨c1, c2, c3, c4, c5, c6, -⟩ := by3 c hc
  obtain ⟨d1, d2, d3, d4', d5, d6, -⟩ := by3 d hd
  obtain ⟨e1, e2, e3, e4, e5, e6, -⟩ := by3 e he
  obtain ⟨f1, f2, f3, f4, f5, f6, -⟩ := by3 f hf
  obtain ⟨g1, g2, g3, g4, g5', g6', -⟩ := by3 g hg
  obtain ⟨h1, h2, h3, h4, h5, h6, -⟩ := by3 h hh
  have m1 : tL (6148914691236517205 : Int64) = 1431655765 + 4294967296 * 1431655765 := by decide +kernel
  have m2 : tL (3689348814741910323 : Int64) = 858993459 + 4294967296 * 858993459 := by decide +kernel
  have m3 : tL (1085102592571150095 : Int64) = 252645135 + 4294967296 * 252645135 := by decide +kernel
  have m4 : tN (127 : Int32) = 127 := by decide +kernel
  have u1 : ∀ x : Int64, tL (lushr x (1 : Int32)) = tL x / 2 := fun x => tL_ushr x (k := 1) (by decide)
  have u2 : ∀ x : Int64, tL (lushr x (2 : Int32)) = tL x / 4 := fun x => tL_ushr x (k := 2) (by decide)
  have u4 : ∀ x : Int64, tL (lushr x (4 : Int32)) = tL x / 16 := fun x => tL_ushr x (k := 4) (by decide)
  have u8 : ∀ x : Int64, tL (lushr x (8 : Int32)) = tL x / 256 := fun x => tL_ushr x (k := 8) (by decide)
  have u16 : ∀ x : Int64, tL (lushr x (16 : Int32)) = tL x / 65536 := fun x => tL_ushr x (k := 16) (by decide)
  have u32 : ∀ x : Int64, tL (lushr x (32 : Int32)) = tL x / 4294967296 := fun x => tL_ushr x (k := 32) (by decide)
  unfold bc64
  generalize q1 : x - ((lushr x (1 : Int32)) &&& 6148914691236517205) = y1
  have t1 : tL y1 = d4 (pw1 a) (pw1 b) (pw1 c) (pw1 d) + 4294967296 * d4 (pw1 e) (pw1 f) (pw1 g) (pw1 h) := by
    obtain ⟨p1, p1'⟩ := pn1 a b c d ha hb hc hd
    obtain ⟨r1, r1'⟩ := pn1 e f g h he hf hg hh
    obtain ⟨s1, s2⟩ := hv2 (hi := d4 e f g h) (d4_lt ha hb hc hd)
    obtain ⟨k1, k2⟩ := hsub p1' r1'
    have k : (tL x / 2 &&& (1431655765 + 4294967296 * 1431655765)) = (d4 a b c d / 2 &&& 1431655765) + 4294967296 * (d4 e f g h / 2 &&& 1431655765) := by
      rw [ex, s1, land_32 _ _ _ _ s2 (by decide), pn1c a b c d _ ha hb hc hd (Nat.mod_lt _ (by decide))]
    rw [← q1, tL_sub (by rw [tL_and, u1, m1, k, ex]; exact k2), tL_and, u1, m1, k, ex, k1, p1, r1]
  clear q1 ex
  generalize q2 : (y1 &&& 3689348814741910323) + ((lushr y1 (2 : Int32)) &&& 3689348814741910323) = y2
  have t2 : tL y2 = d4 (pw2 (pw1 a)) (pw2 (pw1 b)) (pw2 (pw1 c)) (pw2 (pw1 d)) + 4294967296 * d4 (pw2 (pw1 e)) (pw2 (pw1 f)) (pw2 (pw1 g)) (pw2 (pw1 h)) := by
    have p2 := pn2 (pw1 a) (pw1 b) (pw1 c) (pw1 d) a1 b1 c1 d1
    have r2 := pn2 (pw1 e) (pw1 f) (pw1 g) (pw1 h) e1 f1 g1 h1
    have l0 := d4_lt a1 b1 c1 d1
    obtain ⟨s1, s2⟩ := hv4 (hi := d4 (pw1 e) (pw1 f) (pw1 g) (pw1 h)) l0
    have k1 : (tL y1 &&& (858993459 + 4294967296 * 858993459)) = (d4 (pw1 a) (pw1 b) (pw1 c) (pw1 d) &&& 858993459) + 4294967296 * (d4 (pw1 e) (pw1 f) (pw1 g) (pw1 h) &&& 858993459) := by
      rw [t1, land_32 _ _ _ _ l0 (by decide)]
    have k2 : (tL y1 / 4 &&& (858993459 + 4294967296 * 858993459)) = (d4 (pw1 a) (pw1 b) (pw1 c) (pw1 d) / 4 &&& 858993459) + 4294967296 * (d4 (pw1 e) (pw1 f) (pw1 g) (pw1 h) / 4 &&& 858993459) := by
      rw [t1, s1, land_32 _ _ _ _ s2 (by decide), pn2c _ _ _ _ _ a1 b1 c1 d1 (Nat.mod_lt _ (by decide))]
    have s : tL (y1 &&& 3689348814741910323) + tL ((lushr y1 (2 : Int32)) &&& 3689348814741910323) = d4 (pw2 (pw1 a)) (pw2 (pw1 b)) (pw2 (pw1 c)) (pw2 (pw1 d)) + 4294967296 * d4 (pw2 (pw1 e)) (pw2 (pw1 f)) (pw2 (pw1 g)) (pw2 (pw1 h)) := by
      rw [tL_and, tL_and, u2, m2, k1, k2, hadd, p2, r2]
    rw [← q2, tL_add (by rw [s]; exact hlt (d4_lt a2 b2 c2 d2) (d4_lt e2 f2 g2 h2)), s]
  clear q2 t1
  generalize q3 : (y2 + (lushr y2 (4 : Int32))) &&& 1085102592571150095 = y3
  have t3 : tL y3 = d4 (pc8 a) (pc8 b) (pc8 c) (pc8 d) + 4294967296 * d4 (pc8 e) (pc8 f) (pc8 g) (pc8 h) := by
    have hm : d4 (pw2 (pw1 e)) (pw2 (pw1 f)) (pw2 (pw1 g)) (pw2 (pw1 h)) % 16 ≤ 4 := by rw [d4_m]; exact e3
    obtain ⟨p3, p3'⟩ := pn3c (pw2 (pw1 a)) (pw2 (pw1 b)) (pw2 (pw1 c)) (pw2 (pw1 d)) _ ⟨a3, a4⟩ ⟨b3, b4⟩ ⟨c3, c4⟩ ⟨d3, d4'⟩ hm
    obtain ⟨r3, r3'⟩ := pn3 (pw2 (pw1 e)) (pw2 (pw1 f)) (pw2 (pw1 g)) (pw2 (pw1 h)) ⟨e3, e4⟩ ⟨f3, f4⟩ ⟨g3, g4⟩ ⟨h3, h4⟩
    have s : tL y2 + tL y2 / 16 = (d4 (pw2 (pw1 a)) (pw2 (pw1 b)) (pw2 (pw1 c)) (pw2 (pw1 d)) + d4 (pw2 (pw1 a)) (pw2 (pw1 b)) (pw2 (pw1 c)) (pw2 (pw1 d)) / 16 + 268435456 * (d4 (pw2 (pw1 e)) (pw2 (pw1 f)) (pw2 (pw1 g)) (pw2 (pw1 h)) % 16)) + 4294967296 * (d4 (pw2 (pw1 e)) (pw2 (pw1 f)) (pw2 (pw1 g)) (pw2 (pw1 h)) + d4 (pw2 (pw1 e)) (pw2 (pw1 f)) (pw2 (pw1 g)) (pw2 (pw1 h)) / 16) := by
      rw [t2, hv16 (d4_lt a2 b2 c2 d2), hadd, ← Nat.add_assoc (d4 (pw2 (pw1 a)) (pw2 (pw1 b)) (pw2 (pw1 c)) (pw2 (pw1 d))) (d4 (pw2 (pw1 a)) (pw2 (pw1 b)) (pw2 (pw1 c)) (pw2 (pw1 d)) / 16)]
    rw [← q3, tL_and, m3, tL_add (by rw [u4, s]; exact hlt p3' r3'), u4, s, land_32 _ _ _ _ p3' (by decide), p3, r3, a5, b5, c5, d5, e5, f5, g5', h5]
  clear q3 t2
  obtain ⟨A, B, eA, eB, n1, n2, n3, n4⟩ := pn5 (pc8 a) (pc8 b) (pc8 c) (pc8 d) (pc8 e) (pc8 f) (pc8 g) (pc8 h) a6 b6 c6 d6 e6 f6 g6' h6 t3
  generalize q4 : y3 + (lushr y3 (8 : Int32)) = y4
  have t4 : tL y4 = A := by rw [← q4, tL_add (by rw [u8, ← eA]; exact n2), u8, ← eA]
  generalize q5 : y4 + (lushr y4 (16 : Int32)) = y5
  have t5 : tL y5 = B := by rw [← q5, tL_add (by rw [u16, t4, ← eB]; exact n3), u16, t4, ← eB]
  have t6 : tL (y5 + (lushr y5 (32 : Int32))) = B + B / 4294967296 := by rw [tL_add (by rw [u32, t5]; exact n4), u32, t5]
  rw [tN_and, m4, tN_32, t6, show (127 : Nat) = 2 ^ 7 - 1 from rfl, Nat.and_two_pow_sub_one_eq_mod, Nat.mod_mod_of_dvd _ (by decide)]
  exact n1
theorem d4_of {n : Nat} (h : n < 2 ^ 32) : n = d4 (n % 256) (n / 256 % 256) (n / 65536 % 256) (n / 16777216) ∧ n / 16777216 < 256 := by unfold d4; omega
theorem sbt_64 {a b c d e f g h : Nat} (ha : a < 256) (hb : b < 256) (hc : c < 256) (hd : d < 256) (he : e < 256) (hf : f < 256) (hg : g < 256) (hh : h < 256) : sbt (d4 a b c d + 4294967296 * d4 e f g h) 64 = (pc8 a + pc8 b + pc8 c + pc8 d) + (pc8 e + pc8 f + pc8 g + pc8 h) := by
  have e0 : d4 a b c d + 4294967296 * d4 e f g h = a + 256 * (b + 256 * (c + 256 * (d + 256 * d4 e f g h))) := pa7 rfl rfl rfl
  have f1 : sbt (a + 256 * (b + 256 * (c + 256 * (d + 256 * d4 e f g h)))) 64 = pc8 a + sbt (b + 256 * (c + 256 * (d + 256 * d4 e f g h))) 56 := sbt_s a _ ha 56
  have f2 : sbt (b + 256 * (c + 256 * (d + 256 * d4 e f g h))) 56 = pc8 b + sbt (c + 256 * (d + 256 * d4 e f g h)) 48 := sbt_s b _ hb 48
  have f3 : sbt (c + 256 * (d + 256 * d4 e f g h)) 48 = pc8 c + sbt (d + 256 * d4 e f g h) 40 := sbt_s c _ hc 40
  have f4 : sbt (d + 256 * d4 e f g h) 40 = pc8 d + sbt (d4 e f g h) 32 := sbt_s d _ hd 32
  rw [e0, f1, f2, f3, f4, sbt_32 he hf hg hh]
  clear e0 f1 f2 f3 f4
  omega
theorem lb_n (v : Int64) (k : Nat) : lb v k = true ↔ tL v / 2 ^ k % 2 = 1 := by
  unfold lb tL
  rw [← BitVec.testBit_toNat, Nat.testBit_eq_decide_div_mod_eq, decide_eq_true_eq]
theorem mo_sum (v : Int64) : ∀ k, k ≤ 64 → tN (mo v k) = sbt (tL v) k
  | 0, _ => show tN 0 = 0 from by decide +kernel
  | k + 1, hk => by
    have ih := mo_sum v k (by omega)
    have le := sbt_le (tL v) k
    have t1 : tN (1 : Int32) = 1 := by decide +kernel
    have t0 : tN (0 : Int32) = 0 := by decide +kernel
    have m2 := Nat.mod_lt (tL v / 2 ^ k) (show 0 < 2 by decide)
    have e : tN ((v >>> ((nI k).toInt64 &&& 63)) &&& 1).toInt32 = tL v / 2 ^ k % 2 := by
      by_cases q : lb v k = true
      · rw [(lbit v (by omega)).mpr q, (lb_n v k).mp q]
        exact t1
      · have n1 : ¬ tL v / 2 ^ k % 2 = 1 := fun z => q ((lb_n v k).mpr z)
        have qf : lb v k = false := by simpa using q
        have e0 : ((v >>> ((nI k).toInt64 &&& 63)) &&& 1) = 0 := by
          refine l_ext (fun j hj => ?_)
          rw [l_and, l_1 j hj, l_0]
          by_cases ej : j = 0
          · subst ej
            rw [l_shr k (by omega), qf]; rfl
          · rw [decide_eq_false ej, Bool.and_false]
        rw [e0, show (0 : Int64).toInt32 = 0 from rfl, t0]
        omega
    rw [mo, sbt, tN_add (by rw [ih, e]; omega), ih, e]
/-- the two counts of a long's bits are the same -/
theorem bcl_mo (v : Int64) : bc64 v = mo v 64 := by
  have l := tL_lt v
  obtain ⟨lo, hi, hl, hh, e⟩ : ∃ lo hi, lo < 2 ^ 32 ∧ hi < 2 ^ 32 ∧ tL v = lo + 4294967296 * hi := ⟨tL v % 4294967296, tL v / 4294967296, by omega, by omega, by omega⟩
  obtain ⟨p, p'⟩ := d4_of hl
  obtain ⟨q, q'⟩ := d4_of hh
  have m : ∀ n : Nat, n % 256 < 256 := fun n => Nat.mod_lt n (by decide)
  rw [p, q] at e
  refine tN_inj ?_
  rw [bcl_sum v (m _) (m _) (m _) p' (m _) (m _) (m _) q' e, mo_sum v 64 (Nat.le_refl _)]
  conv => rhs; rw [e]
  rw [sbt_64 (m _) (m _) (m _) p' (m _) (m _) (m _) q']
end MG89
section MG90
/-! ===== the least bit of a long: the JDK's way and the reference's loop; sets of cases counted ===== -/
theorem nt_p : ∀ p, p < 32 → nt1 (Int32.ofNat (2 ^ p - 1)) = nI p := by decide +kernel
theorem ones_b : ∀ p, p < 32 → ∀ i, i < 32 → bt (Int32.ofNat (2 ^ p - 1)) i = decide (i < p) := by decide +kernel
theorem btn (x : Int32) (i : Nat) : bt x i = (tN x).testBit i := rfl
theorem lbn (x : Int64) (i : Nat) : lb x i = (tL x).testBit i := rfl
theorem lsb_n {x p : Nat} (h0 : ∀ j, j < p → x.testBit j = false) (h1 : x.testBit p = true) (i : Nat) : ((!x.testBit i) && (x - 1).testBit i) = decide (i < p) := by
  have e0 : x % 2 ^ p = 0 := by
    refine Nat.eq_of_testBit_eq (fun j => ?_)
    rw [Nat.testBit_mod_two_pow, Nat.zero_testBit]
    by_cases q : j < p
    · rw [h0 j q, Bool.and_false]
    · rw [decide_eq_false q, Bool.false_and]
  have o1 : x / 2 ^ p % 2 = 1 := by
    rw [Nat.testBit_eq_decide_div_mod_eq, decide_eq_true_eq] at h1
    exact h1
  obtain ⟨k, hk⟩ : ∃ k, x / 2 ^ p = 2 * k + 1 := ⟨x / 2 ^ p / 2, by omega⟩
  have hp : 0 < 2 ^ p := Nat.two_pow_pos p
  have ex : x = 2 ^ p * (2 * k + 1) + 0 := by
    have := Nat.div_add_mod x (2 ^ p)
    rw [e0, hk] at this
    exact this.symm
  have ey : x - 1 = 2 ^ p * (2 * k) + (2 ^ p - 1) := by
    rw [Nat.mul_add, Nat.mul_one] at ex
    omega
  rw [ey]
  conv => lhs; rw [ex]
  rw [Nat.testBit_two_pow_mul_add _ hp, Nat.testBit_two_pow_mul_add _ (by omega)]
  by_cases q : i < p
  · rw [if_pos q, if_pos q, Nat.zero_testBit, Nat.testBit_two_pow_sub_one, decide_eq_true q]; rfl
  · rw [if_neg q, if_neg q, decide_eq_false q]
    generalize i - p = j
    match j with
    | 0 =>
      rw [Nat.testBit_zero, Nat.testBit_zero, decide_eq_true (show (2 * k + 1) % 2 = 1 by omega)]; rfl
    | j + 1 =>
      rw [Nat.testBit_succ, Nat.testBit_succ, show (2 * k + 1) / 2 = k by omega, show 2 * k / 2 = k by omega]
      cases k.testBit j <;> rfl
theorem ntz_p {v : Int32} {p : Nat} (hp : p < 32) (h0 : ∀ j, j < p → bt v j = false) (h1 : bt v p = true) : ntz v = nI p := by
  have nz : 1 ≤ tN v := by
    have z : ¬ tN v = 0 := fun z => by
      rw [btn, z, Nat.zero_testBit] at h1
      exact absurd h1 (by decide)
    omega
  have t1 : tN (1 : Int32) = 1 := by decide +kernel
  have e : ((v ^^^ (-1)) &&& (v - 1)) = Int32.ofNat (2 ^ p - 1) := by
    refine b_ext (fun i hi => ?_)
    rw [b_and, b_not _ hi, ones_b p hp i hi, btn (v - 1), tN_sub (by rw [t1]; exact nz), t1, btn v]
    exact lsb_n (fun j hj => h0 j hj) h1 i
  unfold ntz
  rw [e]
  exact nt_p p hp
theorem lo_b (v : Int64) {i : Nat} (hi : i < 32) : bt v.toInt32 i = lb v i := by
  rw [btn, lbn, tN_32, Nat.testBit_mod_two_pow, decide_eq_true hi, Bool.true_and]
theorem hi_b (v : Int64) {i : Nat} (hi : i < 32) : bt (lushr v (32 : Int32)).toInt32 i = lb v (i + 32) := by
  have u : tL (lushr v (32 : Int32)) = tL v / 2 ^ 32 := tL_ushr v (k := 32) (by decide)
  rw [btn, lbn, tN_32, Nat.testBit_mod_two_pow, decide_eq_true hi, Bool.true_and, u, Nat.testBit_div_two_pow]
theorem n32 : ∀ p, p < 32 → 32 + nI p = nI (p + 32) := by decide +kernel
theorem ntl_p {v : Int64} {p : Nat} (hp : p < 64) (h0 : ∀ j, j < p → lb v j = false) (h1 : lb v p = true) : ntl v = nI p := by
  unfold ntl
  by_cases q : v.toInt32 = 0
  · have l : ¬ p < 32 := fun z => by
      have := lo_b v z
      rw [q, b_0, h1] at this
      exact absurd this (by decide)
    rw [if_pos q, ntz_p (p := p - 32) (by omega) (fun j hj => by rw [hi_b v (by omega)]; exact h0 _ (by omega)) (by rw [hi_b v (by omega), show p - 32 + 32 = p by omega]; exact h1), n32 _ (by omega), show p - 32 + 32 = p by omega]
  · rw [if_neg q]
    have l : p < 32 := by
      obtain ⟨i, hi, e⟩ := nz_b.mp q
      rw [lo_b v hi] at e
      have : ¬ i < p := fun z => by rw [h0 i z] at e; exact absurd e (by decide)
      omega
    exact ntz_p l (fun j hj => by rw [lo_b v (by omega)]; exact h0 j hj) (by rw [lo_b v l]; exact h1)
/-- the first of some cases from 64 - r on -/
def fsp (p : Nat → Bool) : Nat → Int32
  | 0 => -4
  | r + 1 => if p (63 - r) = true then nI (63 - r) else fsp p r
/-- how many of the first k -/
def nbp (p : Nat → Bool) : Nat → Int32
  | 0 => 0
  | k + 1 => nbp p k + (if p k = true then 1 else 0)
theorem mo_p (v : Int64) : ∀ k, k ≤ 64 → mo v k = nbp (lb v) k
  | 0, _ => rfl
  | k + 1, hk => by
    rw [mo, nbp, mo_p v k (by omega)]
    have b := lbit v (c := k) (by omega)
    by_cases q : lb v k = true
    · rw [if_pos q, b.mpr q]; rfl
    · rw [if_neg q]
      have qf : lb v k = false := by simpa using q
      have e0 : ((v >>> ((nI k).toInt64 &&& 63)) &&& 1) = 0 := by
        refine l_ext (fun j hj => ?_)
        rw [l_and, l_1 j hj, l_0]
        by_cases ej : j = 0
        · subst ej
          rw [l_shr k (by omega), qf]; rfl
        · rw [decide_eq_false ej, Bool.and_false]
      rw [e0]; rfl
theorem nbp_cg {p q : Nat → Bool} : ∀ k, (∀ c, c < k → p c = q c) → nbp p k = nbp q k
  | 0, _ => rfl
  | k + 1, h => by rw [nbp, nbp, nbp_cg k (fun c hc => h c (by omega)), h k (by omega)]
theorem fsp_cg {p q : Nat → Bool} : ∀ r, r ≤ 64 → (∀ c, c < 64 → p c = q c) → fsp p r = fsp q r
  | 0, _, _ => rfl
  | r + 1, hr, h => by rw [fsp, fsp, fsp_cg r (by omega) h, h (63 - r) (by omega)]
/-- the first one is the least -/
theorem fsp_least {p : Nat → Bool} {c : Nat} (hc : c < 64) (h0 : ∀ j, j < c → p j = false) (h1 : p c = true) : ∀ r, r ≤ 64 → 64 - r ≤ c → fsp p r = nI c
  | 0, _, h => absurd h (by omega)
  | r + 1, hr, h => by
    rw [fsp]
    by_cases e : 63 - r = c
    · rw [e, if_pos h1]
    · rw [h0 (63 - r) (by omega), if_neg (by decide)]
      exact fsp_least hc h0 h1 r (by omega) (by omega)
theorem fsp_none {p : Nat → Bool} (h : ∀ c, c < 64 → p c = false) : ∀ r, r ≤ 64 → fsp p r = -4
  | 0, _ => rfl
  | r + 1, hr => by rw [fsp, h (63 - r) (by omega), if_neg (by decide)]; exact fsp_none h r (by omega)
theorem first_ex {p : Nat → Bool} : ∀ n, (∃ c, c < n ∧ p c = true) → ∃ c, c < n ∧ p c = true ∧ ∀ j, j < c → p j = false
  | 0, ⟨_, h, _⟩ => absurd h (by omega)
  | n + 1, ⟨c, hc, e⟩ => by
    by_cases q : ∃ c, c < n ∧ p c = true
    · obtain ⟨d, hd, h⟩ := first_ex n q
      exact ⟨d, by omega, h⟩
    · have nf : ∀ j, j < n → p j = false := fun j hj => by
        cases z : p j
        · rfl
        · exact absurd ⟨j, hj, z⟩ q
      have ec : c = n := by
        by_cases z : c < n
        · rw [nf c z] at e; exact absurd e (by decide)
        · omega
      exact ⟨n, by omega, by rw [← ec]; exact e, nf⟩
/-- the least case as the class tells it -/
def lstC (v : Int64) : Int32 := if v = 0 then -4 else ntl v
theorem lstC_p (v : Int64) : lstC v = fsp (lb v) 64 := by
  unfold lstC
  by_cases q : v = 0
  · rw [if_pos q, fsp_none (fun c _ => by rw [q]; exact l_0 c) 64 (Nat.le_refl _)]
  · rw [if_neg q]
    have ex : ∃ c, c < 64 ∧ lb v c = true := by
      by_cases z : ∃ c, c < 64 ∧ lb v c = true
      · exact z
      · refine absurd (l_ext (fun c hc => ?_)) q
        rw [l_0]
        cases y : lb v c
        · rfl
        · exact absurd ⟨c, hc, y⟩ z
    obtain ⟨c, hc, h1, h0⟩ := first_ex 64 ex
    rw [ntl_p hc h0 h1, fsp_least hc h0 h1 64 (Nat.le_refl _) (by omega)]
theorem bcl_p (v : Int64) : bc64 v = nbp (lb v) 64 := (bcl_mo v).trans (mo_p v 64 (Nat.le_refl _))
/-- the way down comes to the same -/
def nq (H W : Nat → Int32) (c : Nat) : Bool := decide (¬ H c = W c)
theorem cnt_dn (H W : Nat → Int32) : ∀ j, j ≤ 64 → nbp (nq H W) (64 - j) + cnt H W j = nbp (nq H W) 64
  | 0, _ => Int32.add_zero _
  | j + 1, hj => by
    have ih := cnt_dn H W j (by omega)
    rw [show 64 - j = (64 - (j + 1)) + 1 by omega, nbp] at ih
    rw [cnt, ← ih, show 63 - j = 64 - (j + 1) by omega]
    have e : (if H (64 - (j + 1)) = W (64 - (j + 1)) then (0 : Int32) else 1) = if nq H W (64 - (j + 1)) = true then 1 else 0 := by
      unfold nq
      by_cases q : H (64 - (j + 1)) = W (64 - (j + 1))
      · rw [if_pos q, decide_eq_false (fun z => z q), if_neg (by decide)]
      · rw [if_neg q, decide_eq_true q, if_pos rfl]
    rw [e]
    generalize (if nq H W (64 - (j + 1)) = true then (1 : Int32) else 0) = t
    generalize nbp (nq H W) (64 - (j + 1)) = a
    generalize cnt H W j = b
    rw [Int32.add_assoc, Int32.add_comm t b]
theorem cnt_p (H W : Nat → Int32) : cnt H W 64 = nbp (nq H W) 64 := by
  have := cnt_dn H W 64 (Nat.le_refl _)
  rw [show nbp (nq H W) (64 - 64) = 0 from rfl, Int32.zero_add] at this
  exact this
theorem fst_least {H W : Nat → Int32} {c : Nat} (hc : c < 64) (h0 : ∀ j, j < c → nq H W j = false) (h1 : nq H W c = true) : ∀ j, j ≤ 64 → 64 - j ≤ c → fst H W j = nI c
  | 0, _, h => absurd h (by omega)
  | j + 1, hj, h => by
    rw [fst]
    by_cases e : 63 - j = c
    · rw [e, if_neg (of_decide_eq_true h1)]
    · have := h0 (63 - j) (by omega)
      have q : H (63 - j) = W (63 - j) := by
        by_cases z : H (63 - j) = W (63 - j)
        · exact z
        · exact absurd (decide_eq_true z) (by rw [show decide (¬ H (63 - j) = W (63 - j)) = false from this]; decide)
      rw [if_pos q]
      exact fst_least hc h0 h1 j (by omega) (by omega)
theorem fst_none {H W : Nat → Int32} (h : ∀ c, c < 64 → nq H W c = false) : ∀ j, j ≤ 64 → fst H W j = -4
  | 0, _ => rfl
  | j + 1, hj => by
    have := h (63 - j) (by omega)
    have q : H (63 - j) = W (63 - j) := by
      by_cases z : H (63 - j) = W (63 - j)
      · exact z
      · exact absurd (decide_eq_true z) (by rw [show decide (¬ H (63 - j) = W (63 - j)) = false from this]; decide)
    rw [fst, if_pos q]
    exact fst_none h j (by omega)
theorem fst_p (H W : Nat → Int32) : fst H W 64 = fsp (nq H W) 64 := by
  by_cases z : ∃ c, c < 64 ∧ nq H W c = true
  · obtain ⟨c, hc, h1, h0⟩ := first_ex 64 z
    rw [fst_least hc h0 h1 64 (Nat.le_refl _) (by omega), fsp_least hc h0 h1 64 (Nat.le_refl _) (by omega)]
  · have h : ∀ c, c < 64 → nq H W c = false := fun c hc => by
      cases y : nq H W c
      · rfl
      · exact absurd ⟨c, hc, y⟩ z
    rw [fst_none h 64 (Nat.le_refl _), fsp_none h 64 (Nat.le_refl _)]
/-- many or the least, as the class tells -/
theorem eC_least {M : Mm} {v : Int64} {K : Int32 → Mm → Prop} (h : K (lstC v) M) : CI mC_least [.long v] M K := by
  unfold lstC at h
  refine call_of rfl (Nat.le_of_ble_eq_true rfl) rfl (vC_least_0 ⟨fun q => sJl_ntz (vC_least_15 ?_), fun q => ?_⟩)
  · rw [if_neg q] at h; exact h
  · rw [if_pos q] at h; exact h
theorem eC_manyOrLeast {M : Mm} {v : Int64} {w : Int32} {K : Int32 → Mm → Prop} (h : K (if w = 0 then nbp (lb v) 64 else fsp (lb v) 64) M) : CI mC_manyOrLeast [.long v, .int w] M K := by
  refine call_of rfl (Nat.le_of_ble_eq_true rfl) rfl (vC_manyOrLeast_0 ⟨fun q => eC_least (vC_manyOrLeast_15 ?_), fun q => sJl_bitCount (fun r er => vC_manyOrLeast_8 ?_)⟩)
  · rw [if_neg q] at h; rw [lstC_p]; exact h
  · rw [if_pos q] at h; rw [er, bcl_p]; exact h
end MG90
section MG91
/-! ===== many, clash, sides: the same on both sides ===== -/
/-- a long holds just those of the first k cases of which p is so -/
def BL (v : Int64) (p : Nat → Bool) (k : Nat) : Prop := ∀ c, c < 64 → (lb v c = true ↔ c < k ∧ p c = true)
theorem bl_0 (p : Nat → Bool) : BL 0 p 0 := fun c _ => ⟨fun z => absurd ((l_0 c).symm.trans z) (by decide), fun z => absurd z.1 (by omega)⟩
theorem bl_n {v : Int64} {p : Nat → Bool} {k : Nat} (b : BL v p k) (h : p k = false) : BL v p (k + 1) := fun c hc => by
  rw [b c hc]
  constructor
  · rintro ⟨a, e⟩; exact ⟨by omega, e⟩
  · rintro ⟨a, e⟩
    by_cases z : c = k
    · subst z; rw [h] at e; exact absurd e (by decide)
    · exact ⟨by omega, e⟩
theorem bl_y {v : Int64} {p : Nat → Bool} {k : Nat} (b : BL v p k) (hk : k < 64) (h : p k = true) : BL (v ||| ((1 : Int64) <<< ((nI k).toInt64 &&& 63))) p (k + 1) := fun c hc => by
  rw [l_or, Bool.or_eq_true, l_one k hk c hc, decide_eq_true_eq, b c hc]
  constructor
  · rintro (⟨a, e⟩ | rfl)
    · exact ⟨by omega, e⟩
    · exact ⟨by omega, h⟩
  · rintro ⟨a, e⟩
    by_cases z : c = k
    · exact Or.inr z
    · exact Or.inl ⟨by omega, e⟩
theorem bl_z {v : Int64} {p : Nat → Bool} {k : Nat} (b : BL v p k) (h : p k = false) : BL (v ||| 0) p (k + 1) := fun c hc => by
  rw [l_or, l_0, Bool.or_false]; exact bl_n b h c hc
theorem bl_e {v : Int64} {p : Nat → Bool} (b : BL v p 64) {c : Nat} (hc : c < 64) : lb v c = p c := by
  have := b c hc
  cases e : p c
  · cases z : lb v c
    · rfl
    · have y := (this.mp z).2; rw [e] at y; exact absurd y (by decide)
  · exact this.mpr ⟨hc, e⟩
theorem td_b (y z : Int64) {c : Nat} (hc : c < 64) : td y z (nI c) = vl2 (lb y c) (lb z c) := by
  unfold td vl2
  by_cases p : lb y c = true
  · rw [if_pos p, if_pos ((lbit _ hc).mpr p)]
  · rw [if_neg p, if_neg (fun z => p ((lbit _ hc).mp z))]
    by_cases q : lb z c = true
    · rw [if_pos q, if_pos ((lbit _ hc).mpr q)]
    · rw [if_neg q, if_neg (fun z => q ((lbit _ hc).mp z))]
section EW3
variable {A M N : Mm} {L P R S U D W t : Nat} {G : Nat → Nat → Int32}
theorem opv_e (m : CMP A N L R W G) (hW : W ≤ 24) {d c : Nat} (hd : d < 8) (hc : c < 64) : opn A L R d c = vl2 (lb (eyv N W (nI d) 64) c) (lb (enw N W (nI d) 64) c) := by
  rw [(opn_e m hW hd hc).1, td_b _ _ hc]
end EW3
end MG91
section MG92
/-! ===== what holds, of opinions alone; hangs ===== -/
/-- what is held, by a law, opinions, a head and silence -/
def hof (l : Int32) (o : Nat → Int32) (hd si : Int32) : Int32 := anb (byf l (ocn o 1 8) (ocn o 0 8) (hds hd o) si) l (ocn o 1 8) (ocn o 0 8) (hds hd o) si
theorem ocn_cg {o o' : Nat → Int32} {v : Int32} : ∀ k, (∀ d, d < k → o d = o' d) → ocn o v k = ocn o' v k
  | 0, _ => rfl
  | k + 1, h => by rw [ocn, ocn, ocn_cg k (fun d hd => h d (by omega)), h k (by omega)]
theorem hof_cg {l hd si : Int32} {o o' : Nat → Int32} (h : ∀ d, d < 8 → o d = o' d) : hof l o hd si = hof l o' hd si := by
  unfold hof
  rw [ocn_cg 8 h, ocn_cg 8 h, hds_cg h]
section EW4
variable {A M N : Mm} {L P R S U D W t : Nat} {G : Nat → Nat → Int32}
theorem heC_h (A : Mm) (L R c : Nat) : heC A L R c = hof (lwI A L R c) (fun d => opn A L R d c) (gi A R 4) (gi A R 5) := rfl
/-- the reference: what is held, of opinions alone -/
theorem sum_o {H : Nat → Nat → Int64} {c : Nat} {o : Nat → Int32} (hc : c < 64) (ho : ∀ d, d < 8 → o d = vl2 (lb (H 7003 d) c) (lb (H 7067 d) c) ∧ ¬ (lb (H 7003 d) c = true ∧ lb (H 7067 d) c = true)) : ∀ k, k ≤ 8 → ocn o 1 k = sb H 7003 c k ∧ ocn o 0 k = sb H 7067 c k
  | 0, _ => ⟨rfl, rfl⟩
  | k + 1, hk => by
    obtain ⟨i1, i2⟩ := sum_o hc ho k (by omega)
    obtain ⟨e, x⟩ := ho k (by omega)
    have t1 : ∀ z : Int64, ((z >>> ((nI c).toInt64 &&& 63)) &&& 1).toInt32 = if lb z c = true then 1 else 0 := fun z => by
      by_cases q : lb z c = true
      · rw [if_pos q, (lbit _ hc).mpr q]; rfl
      · rw [if_neg q]
        have qf : lb z c = false := by simpa using q
        have e0 : ((z >>> ((nI c).toInt64 &&& 63)) &&& 1) = 0 := by
          refine l_ext (fun j hj => ?_)
          rw [l_and, l_1 j hj, l_0]
          by_cases ej : j = 0
          · subst ej
            rw [l_shr c hc, qf]; rfl
          · rw [decide_eq_false ej, Bool.and_false]
        rw [e0]; rfl
    rw [ocn, ocn, sb, sb, i1, i2, t1, t1, e]
    revert x
    cases lb (H 7003 k) c <;> cases lb (H 7067 k) c <;> intro x
    · exact ⟨rfl, rfl⟩
    · exact ⟨rfl, rfl⟩
    · exact ⟨rfl, rfl⟩
    · exact absurd ⟨rfl, rfl⟩ x
theorem hev_of {Q : Mm} {c : Nat} {o : Nat → Int32} (hc : c < 64) (hh : HD Q) (ho : ∀ d, d < 8 → o d = vl2 (lb (gl Q 7003 d) c) (lb (gl Q 7067 d) c) ∧ ¬ (lb (gl Q 7003 d) c = true ∧ lb (gl Q 7067 d) c = true)) : hev Q W c = hof (laV Q W (nI c)) o (gi Q 6543 4) (gi Q 6543 5) := by
  obtain ⟨s1, s2⟩ := sum_o (H := gl Q) hc ho 8 (Nat.le_refl 8)
  have hd : hdv Q c = hds (gi Q 6543 4) o := by
    unfold hds hdv
    rcases hh with h | ⟨e, he, h⟩
    · rw [h, if_pos (Or.inl (by decide)), if_pos rfl]
    · have n1 : ¬ (nI e < 0 ∨ 8 ≤ nI e) := fun z => by
        rcases z with z | z
        · exact n0 e (by omega) z
        · exact nge (c := 8) (n := 8) rfl (by decide) he z
      rw [h, if_neg n1, if_neg (nI4 (by omega)), ncl (by omega), td_b _ _ hc]
      exact (ho e he).1.symm
  unfold hev hof
  rw [s1, s2, hd]
  generalize laV Q W (nI c) = x1
  generalize sb (gl Q) 7003 c 8 = x2
  generalize sb (gl Q) 7067 c 8 = x3
  generalize hds (gi Q 6543 4) o = x4
  generalize gi Q 6543 5 = x5
  unfold anb hef byf
  by_cases q1 : x1 = -4
  · by_cases q2 : x2 = x3
    · by_cases q3 : x4 = -4
      · by_cases q4 : x5 = -4
        · simp [q1, q2, q3, q4]
        · simp [q1, q2, q3, q4]
      · simp [q1, q2, q3]
    · simp [q1, q2]
  · simp [q1]
theorem eyn_x {d : Int32} {c : Nat} (hc : c < 64) : ¬ (lb (eyv N W d 64) c = true ∧ lb (enw N W d 64) c = true) := by
  obtain ⟨b1, b2⟩ := eyv_b (N := N) (W := W) (d := d) hc 64 (Nat.le_refl 64)
  rw [b1, b2, clv_b]
  rintro ⟨z | z, y | y⟩
  · rw [z.1] at y; exact absurd y.2 (by decide)
  · rw [z.2] at y; exact absurd y.2.1.2 (by decide)
  · rw [y.2] at z; exact absurd z.2.1.1 (by decide)
  · rw [z.2.2] at y; exact absurd y.2.2 (by decide)
/-- what the reference's doctors say -/
def rop (M : Mm) (W c d : Nat) : Int32 := vl2 (lb (eyv M W (nI d) 64) c) (lb (enw M W (nI d) 64) c)
/-- what is held, by the reference -/
def rhe (M : Mm) (W c : Nat) : Int32 := hof (laV M W (nI c)) (rop M W c) (gi M 6543 4) (gi M 6543 5)
theorem hev_eo (hh : HD M) {c : Nat} (hc : c < 64) : hev (EO M W) W c = rhe M W c := by
  unfold rhe
  rw [← laV_sm (eo_sm M W)]
  refine hev_of (Q := EO M W) (o := rop M W c) hc hh (fun d hd => ?_)
  have g3 : gl (EO M W) 7003 d = eyv M W (nI d) 64 := by rw [gl_eo, if_pos ⟨rfl, hd⟩]
  have g6 : gl (EO M W) 7067 d = enw M W (nI d) 64 := by rw [gl_eo, if_neg (by simp), if_pos ⟨rfl, hd⟩]
  rw [g3, g6]
  exact ⟨rfl, eyn_x hc⟩
/-- both sides: law, opinions, head, silence -/
theorem hold_e (m : CMP A N L R W G) (hW : W ≤ 24) {c : Nat} (hc : c < 64) : lwI A L R c = laV N W (nI c) ∧ (∀ d, d < 8 → opn A L R d c = rop N W c d) ∧ gi A R 4 = gi N 6543 4 ∧ gi A R 5 = gi N 6543 5 :=
  ⟨law_e m hc, fun d hd => opv_e m hW hd hc, m.2.2.2.2.2.2.2.1 4 (by decide), m.2.2.2.2.2.2.2.1 5 (by decide)⟩
theorem heC_e (m : CMP A N L R W G) (hW : W ≤ 24) {c : Nat} (hc : c < 64) : heC A L R c = rhe N W c := by
  obtain ⟨e1, e2, e3, e4⟩ := hold_e m hW hc
  rw [heC_h, rhe, e1, e3, e4]
  exact hof_cg e2
theorem nq_cg {H H' Q Q' : Nat → Int32} {c : Nat} (h1 : H c = H' c) (h2 : Q c = Q' c) : nq H Q c = nq H' Q' c := by unfold nq; rw [h1, h2]
end EW4
end MG92
section MG93
/-! ===== any rule, any books: the same on both sides; differ ===== -/
section EW5
variable {A B M N O : Mm} {L P R S U D W t : Nat} {G : Nat → Nat → Int32}
theorem cnt_g {b : Int32} (sw : SW A L G W) (rows : ∀ w, w < W → ∀ k, k < 8 → wd N w k = G w k) (rt : ∀ w, w < W → RT (G w)) (rk : ∀ w, w < W → ∃ b, b < 8 ∧ wd N w 2 = nI b) (x3 : ∀ i, i < 7 → gi A R i = gi N 6543 i) (x9 : gi N 6027 9 = b) (x5 : ∀ b, b < 8 → gi A (L + 140) b = gi N 6157 b) {v : Nat} (hv : v < 32) : bt (ctg A L R b) v = true ↔ v < W ∧ ¬ cw N v = 0 := by
  obtain ⟨s1, s2, s3, s4⟩ := sw
  have nn : ∀ x : Int32, bt (x ^^^ (-1)) v = true ↔ ¬ bt x v = true := fun x => by
    rw [b_not x hv]
    cases bt x v <;> decide
  have m1 : bt (-1) v = true := by
    have : ∀ v, v < 32 → bt (-1) v = true := by decide +kernel
    exact this v hv
  have n2 : bt (if gi A R 2 = 0 then gi A L 11 ^^^ (-1) else -1) v = true ↔ ¬ (gi A R 2 = 0 ∧ bt (gi A L 11) v = true) := by
    by_cases q : gi A R 2 = 0
    · rw [if_pos q, nn]; exact ⟨fun h z => h z.2, fun h z => h ⟨q, z⟩⟩
    · rw [if_neg q, m1]; exact ⟨fun _ z => q z.1, fun _ => rfl⟩
  unfold ctg
  rw [b_and, b_and, Bool.and_eq_true, Bool.and_eq_true, n2, nn, cto_b 8 (Nat.le_refl 8) v hv, mwd_b 8 (Nat.le_refl 8) v hv, s3 v hv, s4 v hv]
  by_cases lv : v < W
  · have wd_ : ∀ k, k < 8 → wd N v k = G v k := fun k hk => rows v lv k hk
    obtain ⟨t1, t2, -⟩ := rt v lv
    obtain ⟨e, he, eb⟩ := rk v lv
    have eb' : G v 2 = nI e := by rw [← wd_ 2 (by decide)]; exact eb
    unfold cw
    rw [wd_ 0 (by decide), wd_ 1 (by decide), eb, ← x3 0 (by decide), ← x3 1 (by decide), ← x3 2 (by decide), x9, ncl (by omega), ← x5 e he]
    by_cases k5 : G v 0 = 5
    · rw [if_pos k5]
      exact ⟨fun h => absurd ⟨lv, k5⟩ h.1.2, fun h => absurd rfl h.2⟩
    · rw [if_neg k5]
      obtain ⟨d, hd, ed⟩ := t2 k5
      by_cases k3 : G v 0 = 3 ∧ gi A R 2 = 0
      · rw [if_pos k3]
        exact ⟨fun h => absurd ⟨k3.2, lv, k3.1⟩ h.2, fun h => absurd rfl h.2⟩
      · rw [if_neg k3, ed]
        have c : (((gi A R 0 >>> (nI d &&& 31)) &&& 1) = 1 ∨ (((b >>> (nI e &&& 31)) &&& 1) = 1 ∧ ¬ gi A (L + 140) e < gi A R 1)) ↔ (bt (gi A R 0) d = true ∨ (bt b e = true ∧ ¬ gi A (L + 140) e < gi A R 1)) := by rw [bit1 _ (by omega), bit1 _ (by omega)]
        have rhs : ¬ (if ((gi A R 0 >>> (nI d &&& 31)) &&& 1) = 1 ∨ (((b >>> (nI e &&& 31)) &&& 1) = 1 ∧ ¬ gi A (L + 140) e < gi A R 1) then (1 : Int32) else 0) = 0 ↔ (bt (gi A R 0) d = true ∨ (bt b e = true ∧ ¬ gi A (L + 140) e < gi A R 1)) := by
          rw [← c]
          by_cases z : ((gi A R 0 >>> (nI d &&& 31)) &&& 1) = 1 ∨ (((b >>> (nI e &&& 31)) &&& 1) = 1 ∧ ¬ gi A (L + 140) e < gi A R 1)
          · rw [if_pos z]; exact ⟨fun _ => z, fun _ => by decide⟩
          · rw [if_neg z]; exact ⟨fun y => absurd rfl y, fun y => absurd y z⟩
        rw [rhs]
        constructor
        · rintro ⟨⟨h, -⟩, -⟩
          refine ⟨lv, ?_⟩
          rcases h with ⟨d', hd', z1, z2⟩ | ⟨b', hb', z1, z2⟩
          · have := ((s1 d' hd' v hv).mp z2).2
            rw [ed, ninj (by omega) (by omega)] at this
            subst this
            exact Or.inl z1
          · have := ((s2 b' hb' v hv).mp z2).2
            rw [eb', ninj (by omega) (by omega)] at this
            subst this
            exact Or.inr z1
        · rintro ⟨-, h⟩
          refine ⟨⟨?_, fun z => k5 z.2⟩, fun z => k3 ⟨z.2.2, z.1⟩⟩
          rcases h with h | h
          · exact Or.inl ⟨d, hd, h, (s1 d hd v hv).mpr ⟨lv, ed⟩⟩
          · exact Or.inr ⟨e, he, h, (s2 e he v hv).mpr ⟨lv, eb'⟩⟩
  · constructor
    · rintro ⟨⟨h, -⟩, -⟩
      exfalso
      rcases h with ⟨d', hd', z1, z2⟩ | ⟨b', hb', z1, z2⟩
      · exact lv ((s1 d' hd' v hv).mp z2).1
      · exact lv ((s2 b' hb' v hv).mp z2).1
    · rintro ⟨h, -⟩; exact absurd h lv
/-- the class's weighing by any rule and books, beside a memory of the reference that has them -/
theorem cmp_gen {b : Int32} {R' : Nat} (i : IV M L P R S U D W t) (ex : EX M L R S D W) (ey : EY M L W G) (hR : RA R') (n1 : ∀ w, w < W → ∀ k, k < 8 → wd N w k = wd M w k) (n2 : ∀ v, v < W → gl N 6874 v = gl M 6874 v ∧ gl N 6938 v = gl M 6938 v) (n3 : gi N 6027 24 = gi M 6027 24) (n4 : ∀ k, k < 8 → gi N 6157 k = gi M 6157 k) (n5 : ∀ k, k < 7 → gi N 6543 k = gi M R' k) (n6 : gi N 6027 9 = b) (nj : JW N W) (nt : T3 (gi N 6543 3) ∧ T3 (gi N 6543 6) ∧ T5 (gi N 6543 5)) : CMP (bgn M L R' b) N L R' W G := by
  have hL' := i.1.1.2.2.1.1
  have hR' := hR
  unfold LA at hL'
  unfold RA at hR'
  have hb : ∀ o, o < 2304 → gi (bgn M L R' b) (L + o) = gi M (L + o) := fun o ho => gi_bgn _ _ _ _ (by omega)
  obtain ⟨y1, y2, ⟨sw, -, -, cy⟩, -, y5, ry, wl, rv⟩ := ey
  have rows : ∀ w, w < W → ∀ k, k < 8 → wd N w k = G w k := fun w hw k hk => (n1 w hw k hk).trans (y1 w hw k hk)
  refine ⟨fun v hv => ?_, fun d hd v hv => ?_, fun c hc v hv => ?_, fun v hv c hc => ?_, rows, wl_eq (fun a ha => gi_bgn _ _ _ _ (by omega)) wl, n3.trans y5, fun k hk => ?_, nt, nj, fun w hw => (y2 w hw).2.2, fun w hw => (y2 w hw).1⟩
  · rw [gi_bgn2]
    exact cnt_g sw rows (fun w hw => (y2 w hw).1) (fun w hw => (nj.2.2.2 w hw).1) (fun k hk => (n5 k hk).symm) n6 (fun k hk => (ex.2.2.2.2.2.1 k hk).trans (n4 k hk).symm) hv
  · rw [hb 460 (by decide)]; exact sw.1 d hd v hv
  · rw [hb 205 (by decide), hb 269 (by decide)]; exact cy c hc v hv
  · rw [(n2 v hv).1, (n2 v hv).2]; exact ry v hv c hc
  · rw [gi_bgn _ _ _ _ (by omega)]; exact (n5 k hk).symm
/-- what is held depends on the library, the rule and what counts -/
theorem hvs_eq (h : ∀ o, o < 2304 → gi B (L + o) = gi A (L + o)) (ws fw : Int32) : ∀ k, hvs B L ws fw k = hvs A L ws fw k
  | 0 => rfl
  | k + 1 => by rw [hvs, hvs, hvs_eq h ws fw k, h 590 (by decide)]
theorem stl_eq (h : ∀ o, o < 2304 → gi B (L + o) = gi A (L + o)) (hr : gi B R = gi A R) (y n fw : Int32) : stl B L R y n fw = stl A L R y n fw := by
  unfold stl; rw [hvs_eq h, hr]
theorem opn_eq (h : ∀ o, o < 2304 → gi B (L + o) = gi A (L + o)) (hr : gi B R = gi A R) (h2 : gi B 5192 2 = gi A 5192 2) (d c : Nat) : opn B L R d c = opn A L R d c := by
  unfold opn his; rw [stl_eq h hr, h 460 (by decide), h 205 (by decide), h 269 (by decide), h2]
theorem heC_eq (h : ∀ o, o < 2304 → gi B (L + o) = gi A (L + o)) (hr : gi B R = gi A R) (h2 : gi B 5192 2 = gi A 5192 2) (c : Nat) : heC B L R c = heC A L R c := by
  have l : lwI B L R c = lwI A L R c := by unfold lwI; rw [h 397 (by decide), h 333 (by decide), hr]
  rw [heC_h, heC_h, l, hr]
  exact hof_cg (fun d _ => opn_eq h hr h2 d c)
theorem ctg_eq {b : Int32} (h : ∀ o, o < 2304 → gi B (L + o) = gi A (L + o)) (hr : gi B R = gi A R) : ctg B L R b = ctg A L R b := by
  have m : ∀ k, mwd B L R k = mwd A L R k := by
    intro k
    induction k with
    | zero => rfl
    | succ k ih => rw [mwd, mwd, ih, hr, h 460 (by decide)]
  have c : ∀ k, cto B L R b k = cto A L R b k := by
    intro k
    induction k with
    | zero => exact m 8
    | succ k ih => rw [cto, cto, ih, hr, h 140 (by decide), h 524 (by decide)]
  have h0 : gi B L = gi A L := h 0 (by decide)
  unfold ctg
  rw [c 8, h0, hr]
theorem heC_bg {b : Int32} (hL : LA L) (hR : RA R) (f : CQ M O) (c : Nat) : heC (bgn O L R b) L R c = heC (bgn M L R b) L R c := by
  unfold LA at hL
  unfold RA at hR
  have h : ∀ o, o < 2304 → gi O (L + o) = gi M (L + o) := fun o ho => f.2.2 _ (by omega)
  have hr : gi O R = gi M R := f.2.2 _ (by omega)
  refine heC_eq (fun o ho => ?_) ?_ ?_ c
  · rw [gi_bgn _ _ _ _ (by omega), gi_bgn _ _ _ _ (by omega)]; exact h o ho
  · rw [gi_bgn _ _ _ _ (by omega), gi_bgn _ _ _ _ (by omega)]; exact hr
  · rw [gi_bgn2, gi_bgn2]; exact ctg_eq h hr
theorem csO_bl (A : Mm) (L R : Nat) (v : Int32) : ∀ k, k ≤ 64 → BL (csO A L R v k) (fun c => decide (csK A L R v c = v)) k
  | 0, _ => bl_0 _
  | k + 1, hk => by
    rw [csO]
    by_cases q : csK A L R v k = v
    · rw [if_pos q]; exact bl_y (csO_bl A L R v k (by omega)) (by omega) (decide_eq_true q)
    · rw [if_neg q]; exact bl_z (csO_bl A L R v k (by omega)) (decide_eq_false q)
theorem csO_y {c : Nat} (hc : c < 64) : lb (csO A L R 0 64) c = decide (heC A L R c = 1) := by
  rw [bl_e (csO_bl A L R 0 64 (Nat.le_refl _)) hc]
  show decide (csK A L R 0 c = 0) = _
  unfold csK
  rw [if_pos (by decide)]
  by_cases q : heC A L R c = 1
  · rw [if_pos q, decide_eq_true q]; rfl
  · rw [if_neg q, decide_eq_false q]
    by_cases z : heC A L R c = 0
    · rw [if_pos z]; rfl
    · rw [if_neg z]; rfl
theorem csO_n {c : Nat} (hc : c < 64) : lb (csO A L R 1 64) c = decide (heC A L R c = 0) := by
  rw [bl_e (csO_bl A L R 1 64 (Nat.le_refl _)) hc]
  show decide (csK A L R 1 c = 1) = _
  unfold csK
  rw [if_pos (by decide)]
  by_cases q : heC A L R c = 1
  · rw [if_pos q, q]; rfl
  · rw [if_neg q]
    by_cases z : heC A L R c = 0
    · rw [if_pos z, z]; rfl
    · rw [if_neg z, decide_eq_false z]; rfl
theorem l_xor (x y : Int64) (c : Nat) : lb (x ^^^ y) c = (lb x c ^^ lb y c) := by unfold lb; rw [Int64.toBitVec_xor, BitVec.getLsbD_xor]
theorem ulk {x y : Int32} (hx : x = 1 ∨ x = 0 ∨ x = -4) (hy : y = 1 ∨ y = 0 ∨ y = -4) : ((decide (x = 1) ^^ decide (y = 1)) || (decide (x = 0) ^^ decide (y = 0))) = decide (¬ y = x) := by
  rcases hx with rfl | rfl | rfl <;> rcases hy with rfl | rfl | rfl <;> decide
theorem rop_sm (s : SM W M N) (j : JW M W) (c d : Nat) : rop N W c d = rop M W c d := by unfold rop; rw [eyv_sm s j, enw_sm s j]
theorem rhe_sm (s : SM W M N) (j : JW M W) (c : Nat) : rhe N W c = rhe M W c := by
  unfold rhe
  rw [laV_sm s, s.2.2.1, hof_cg (fun d _ => rop_sm s j c d)]
theorem rhe_3 (m : CMP A N L R W G) (hW : W ≤ 24) (hh : HD N) {c : Nat} (hc : c < 64) : rhe N W c = 1 ∨ rhe N W c = 0 ∨ rhe N W c = -4 := by
  rw [← hev_eo hh hc]; exact hev_3 m hW hh hc
/-- the reference's memory with the rules swapped -/
def swm (M : Mm) : Mm := (M.1, (fun a k => if a = 6543 ∧ k < 7 then gi M 6607 k else if a = 6607 ∧ k < 7 then gi M 6543 k else gi M a k), M.2.2)
theorem gi_swm (M : Mm) (a k : Nat) : gi (swm M) a k = if a = 6543 ∧ k < 7 then gi M 6607 k else if a = 6607 ∧ k < 7 then gi M 6543 k else gi M a k := rfl
theorem sp_swm (M : Mm) : SP 7 M (swm M) := by
  refine ⟨rfl, rfl, fun a h1 h2 => ?_, fun k => ?_, fun k => ?_⟩
  · funext k
    rw [gi_swm, if_neg (fun q => h1 q.1), if_neg (fun q => h2 q.1)]
  · rw [gi_swm]
    by_cases q : k < 7
    · rw [if_pos ⟨rfl, q⟩, if_pos q]
    · rw [if_neg (fun z => q z.2), if_neg (fun z => q z.2), if_neg q]
  · rw [gi_swm, if_neg (fun z => absurd z.1 (by decide))]
    by_cases q : k < 7
    · rw [if_pos ⟨rfl, q⟩, if_pos q]
    · rw [if_neg (fun z => q z.2), if_neg q]
theorem sm_swm (f : QF W M O) (s : SP 7 O N) : SM W (swm M) N := by
  have u := sp_swm M
  have e : ∀ a, a ≠ 6543 → a ≠ 6607 → gi N a = gi O a := s.2.2.1
  have e' : ∀ a, a ≠ 6543 → a ≠ 6607 → gi (swm M) a = gi M a := u.2.2.1
  have q3 : gi O 6543 = gi M 6543 := f.2.1 6543 (by decide)
  have q7 : gi O 6607 = gi M 6607 := f.2.1 6607 (by decide)
  refine ⟨(s.1.trans f.1).trans u.1.symm, fun k hk => ?_, ?_, ?_, ?_, ?_, ?_, fun k hk => ?_, fun k hk => ?_⟩
  · rw [e 6101 (by decide) (by decide), e' 6101 (by decide) (by decide)]; exact f.2.2.1 k hk
  · funext k
    rw [s.2.2.2.1, u.2.2.2.1, q3, q7]
  · rw [e 6157 (by decide) (by decide), e' 6157 (by decide) (by decide)]; exact f.2.1 6157 (by decide)
  · rw [e 6027 (by decide) (by decide), e' 6027 (by decide) (by decide)]; exact f.2.2.2.1 0 (by decide)
  · rw [e 6027 (by decide) (by decide), e' 6027 (by decide) (by decide)]; exact f.2.2.2.1 9 (by decide)
  · rw [e 6027 (by decide) (by decide), e' 6027 (by decide) (by decide)]; exact f.2.2.2.1 24 (by decide)
  · rw [s.2.1]; exact f.2.2.2.2 6874 k (by decide) (by omega)
  · rw [s.2.1]; exact f.2.2.2.2 6938 k (by decide) (by omega)
def mDiffer (M : Mm) (W : Nat) (w : Int32) : Int32 := if isE w = true then (if w = 0 then nbp (nq (rhe (swm M) W) (rhe M W)) 64 else fsp (nq (rhe (swm M) W) (rhe M W)) 64) else -1
theorem uM_differ {w : Int32} {K : Int32 → Mm → Prop} (j : JW M W) (hh : HD M) (ho : HO M) (h : ∀ N, QF W M N → K (mDiffer M W w) N) : CI mM_differ [.ref 6027, .int w] M K := by
  refine call_of rfl (Nat.le_of_ble_eq_true rfl) rfl (vM_differ_0 (sM_inE (fun q => vM_differ_7 rfl ⟨fun q => absurd rfl q, fun _ => ?_⟩) (fun q => vM_differ_7 rfl ⟨fun _ => tM_findAll j hh (fun N f hf _ => ?_), fun q => absurd q (by decide)⟩)))
  · have := h M (qf_rf W M)
    rw [mDiffer, q, if_neg (by decide)] at this
    exact this
  have f1 : QF W M N := qf_af f
  refine vM_differ_16 rfl (kh_row (mr_w j.1 f1.1) ?_)
  have f2 := qf_tr f1 (qf_row (M := N) (n := 64) (g := gi N 7182))
  have o7 : ∀ c, c < 64 → gi (rwm N 7438 64 (gi N 7182)) 7438 c = hev (EO M W) W c := fun c hc => (if_pos ⟨rfl, hc⟩).trans (hf c hc).2.2.2
  generalize rwm N 7438 64 (gi N 7182) = O at f2 o7 ⊢
  refine vM_differ_20 rfl (sM_swap (mr_w j.1 f2.1) (fun P s => vM_differ_24 rfl ?_))
  have hP : HD P := by
    have : gi P 6543 4 = gi M 6607 4 := by rw [s.2.2.2.1, if_pos (by decide), f2.2.1 6607 (by decide)]
    unfold HD; rw [this]; exact ho
  have jP := jw_sp s (jw_sm (qf_sm f2) j)
  refine tM_findAll jP hP (fun R g hg _ => vM_differ_29 rfl ?_)
  refine sM_swap (mr_w j.1 ((g.2.1.trans s.1).trans f2.1)) (fun S t => vM_differ_33 rfl ?_)
  have f3 : QF W M S := qf_tr f2 (qf_sp s g t)
  refine sM_findChanged (mr_w j.1 f3.1) (fun N3 c1 c2 c3 c4 e35 e36 => vM_differ_38 rfl ?_)
  have H1 : ∀ c, c < 64 → gi S 7182 c = rhe (swm M) W c := fun c hc => by
    rw [t.2.2.1 7182 (by decide) (by decide), (hg c hc).2.2.2, hev_eo hP hc]
    exact rhe_sm (sm_swm f2 s) (jw_sp (sp_swm M) j) c
  have H2 : ∀ c, c < 64 → gi S 7438 c = rhe M W c := fun c hc => by
    rw [t.2.2.1 7438 (by decide) (by decide), g.1 7438 (by decide) (by decide) (by decide) (by decide), s.2.2.1 7438 (by decide) (by decide), o7 c hc, hev_eo hh hc]
  have := h N3 (qf_tr f3 (qf_ch c1 c2 c3 c4))
  have cg : ∀ c, c < 64 → nq (gi S 7182) (gi S 7438) c = nq (rhe (swm M) W) (rhe M W) c := fun c hc => nq_cg (H1 c hc) (H2 c hc)
  rw [mDiffer, yE q, if_pos (show true = true from rfl), ← nbp_cg 64 cg, ← fsp_cg 64 (Nat.le_refl _) cg, ← cnt_p, ← fst_p] at this
  rw [e35, e36]
  exact this
theorem pz_differ {w : Int32} {Z : Int32 → Int32 → Mm → Prop} (i0 : INY M) (h : ∀ r s N, INY N → r = s → Z r s N) : CI mC_differ [.ref 10, .int w] M (fun r N => CI mM_differ [.ref 6027, .int w] N (fun s O => Z r s O)) := by
  obtain ⟨L, P, R, S, U, D, W, t, i, ez⟩ := i0
  have c := i.1.1
  have hW : W ≤ 24 := i.2.1.2.1
  obtain ⟨G, ey⟩ := ez.2
  have hS : RA S := c.2.2.1.2.2.2.1
  have cB := cx_cq (cq_bgn M L R (gi M 10 9)) c
  have key : ∀ N r, CQ M N → r = mDiffer N W w → CI mM_differ [.ref 6027, .int w] N (fun s O => Z r s O) := fun N r f e => uM_differ (iv_cq f i).2.1.1 (iv_cq f i).2.1.2.2.1 (iv_cq f i).2.1.2.2.2.1 (fun O g => h _ _ O ⟨L, P, R, S, U, D, W, t, iv_qf g (iv_cq f i), ez_qf g (ez_cq f ez)⟩ e)
  refine call_of rfl (Nat.le_of_ble_eq_true rfl) rfl (vC_differ_0 (sC_isEither (fun q1 q2 => vC_differ_4 rfl ⟨fun q => absurd rfl q, fun _ => key M _ (cq_rf M) ?_⟩) (fun ew => vC_differ_4 rfl ⟨fun _ => lC_weighNow c (vC_differ_13 rfl (cx11 cB) (eWe_casesOf (cxw c _) (cxL c) (cxR c) (fun N qN => ?_))), fun q => absurd q (by decide)⟩)))
  · rw [mDiffer, nE q1 q2, if_neg (by decide)]
  have cN := cx_cq (cqb qN) c
  refine vC_differ_21 rfl (cx11 cN) (eWe_casesOf (wh_gr (cxw c _) qN.1) (cxL c) (cxR c) (fun O qO => ?_))
  have q2 := cqb (wq_tr qN qO)
  have cO := cx_cq q2 c
  refine vC_differ_30 rfl (cx11 cO) (cx4 cO) cO.2.1.2.2.2.1 (sWe_begin (cxlr cO) (cxL c) hS ?_)
  have q3 := cq_tr q2 (cq_bgn O L S (gi O 10 9))
  have w3 : WH (bgn O L S (gi O 10 9)) L S := wh_bgn _ (cxlr cO) (cxL c) hS (cxg cO (5192, 3, 5261) (by decide))
  refine vC_differ_51 rfl (cx11 (cx_cq q3 c)) (eWe_casesOf w3 (cxL c) hS (fun V qV => ?_))
  have q4 := cq_tr q3 (cq_wq qV)
  refine vC_differ_60 rfl (cx11 (cx_cq q4 c)) (eWe_casesOf (wh_gr w3 qV.1) (cxL c) hS (fun Q qQ => vC_differ_71 (eC_manyOrLeast (vC_differ_81 ?_))))
  have q5 := cq_tr q4 (cq_wq qQ)
  refine key Q _ q5 ?_
  have iQ := iv_cq q5 i
  have g : ∀ a, ¬ (a = 5192 ∨ a = 5261 ∨ a = 5392) → gi Q a = gi M a := q5.2.2
  have o9 : gi O 10 9 = gi M 10 9 := by rw [q2.2.2 10 (by decide)]
  have m1 := cmp_of i ez.1 ey q5
  have u := sp_swm Q
  have hdS : HD (swm Q) := by
    have : gi (swm Q) 6543 4 = gi Q 6607 4 := by rw [u.2.2.2.1, if_pos (by decide)]
    unfold HD; rw [this]; exact iQ.2.1.2.2.2.1
  have jS : JW (swm Q) W := jw_sp u iQ.2.1.1
  have m2 : CMP (bgn M L S (gi M 10 9)) (swm Q) L S W G := by
    refine cmp_gen i ez.1 ey hS (fun w _ k _ => ?_) (fun v _ => ?_) ?_ (fun k _ => ?_) (fun k hk => ?_) ?_ jS ?_
    · unfold wd; rw [u.2.2.1 6101 (by decide) (by decide), g 6101 (by decide)]
    · rw [u.2.1, q5.1]; exact ⟨rfl, rfl⟩
    · rw [u.2.2.1 6027 (by decide) (by decide), g 6027 (by decide)]
    · rw [u.2.2.1 6157 (by decide) (by decide), g 6157 (by decide)]
    · rw [u.2.2.2.1, if_pos hk, g 6607 (by decide)]; exact (ez.1.2.2.2.2.1 k hk).symm
    · rw [u.2.2.1 6027 (by decide) (by decide), g 6027 (by decide)]; exact ez.1.2.1.symm
    · rw [u.2.2.2.1, u.2.2.2.1, u.2.2.2.1, if_pos (by decide), if_pos (by decide), if_pos (by decide), g 6607 (by decide)]
      exact ey.2.2.2.2.2.2.2.2
  have e : ∀ k, k < 64 → lb ((csO (bgn M L R (gi M 10 9)) L R 0 64 ^^^ csO (bgn O L S (gi O 10 9)) L S 0 64) ||| (csO N L R 1 64 ^^^ csO V L S 1 64)) k = nq (rhe (swm Q) W) (rhe Q W) k := fun k hk => by
    rw [l_or, l_xor, l_xor, csO_y hk, csO_y hk, csO_n hk, csO_n hk, heC_wq qN (cxL c) (cxR c), heC_wq qV (cxL c) hS, o9, heC_bg (cxL c) hS q2, heC_e m1 hW hk, heC_e m2 hW hk]
    exact ulk (rhe_3 m1 hW iQ.2.1.2.2.1 hk) (rhe_3 m2 hW hdS hk)
  rw [mDiffer, yE ew, if_pos (show true = true from rfl), nbp_cg 64 e, fsp_cg 64 (Nat.le_refl _) e]
end EW5
end MG93
section MG94
/-! ===== a found word: what a doctor says then, on both sides ===== -/
def bet (W v : Nat) : Nat := if v < W then v else 24
section EX2
variable {A M N S : Mm} {L P R U D W t d m : Nat} {G : Nat → Nat → Int32} {a : Int32}
end EX2
end MG94
