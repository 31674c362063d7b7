/-! ===== bits counted: the JDK's way and the reference's loop ===== -/
def d4 (a b c d : Nat) : Nat := a + 256 * (b + 256 * (c + 256 * d))
/-- as numbers -/
def tN (x : Int32) : Nat := x.toBitVec.toNat