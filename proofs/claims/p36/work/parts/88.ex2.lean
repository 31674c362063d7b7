/-! ===== a found word: what a doctor says then, on both sides ===== -/
def bet (W v : Nat) : Nat := if v < W then v else 24
section EX2
variable {A M N S : Mm} {L P R U D W t d m : Nat} {G : Nat → Nat → Int32} {a : Int32}
end EX2
