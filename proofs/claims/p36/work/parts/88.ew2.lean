/-! ===== the least bit of a long: the JDK's way and the reference's loop; sets of cases counted ===== -/
/-- the way down comes to the same -/
def nq (H W : Nat → Int32) (c : Nat) : Bool := decide (¬ H c = W c)