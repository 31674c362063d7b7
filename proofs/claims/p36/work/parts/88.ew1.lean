/-! ===== bits of a long counted: the JDK's way and the reference's loop ===== -/
theorem hv2 {lo hi : Nat} (hl : lo < 2 ^ 32) : (lo + 4294967296 * hi) / 2 = (lo / 2 + 2147483648 * (hi % 2)) + 4294967296 * (hi / 2) ∧ lo / 2 + 2147483648 * (hi % 2) < 2 ^ 32 := by omega
theorem hsub {p q r s : Nat} (h1 : r ≤ p) (h2 : s ≤ q) : p + 4294967296 * q - (r + 4294967296 * s) = (p - r) + 4294967296 * (q - s) ∧ r + 4294967296 * s ≤ p + 4294967296 * q := by omega
theorem hlt {p q : Nat} (h1 : p < 2 ^ 32) (h2 : q < 2 ^ 32) : p + 4294967296 * q < 2 ^ 64 := by omega