/-! ===== what holds, of opinions alone; hangs ===== -/
/-- what is held, by a law, opinions, a head and silence -/
def hof (l : Int32) (o : Nat → Int32) (hd si : Int32) : Int32 := anb (byf l (ocn o 1 8) (ocn o 0 8) (hds hd o) si) l (ocn o 1 8) (ocn o 0 8) (hds hd o) si
section EW4
variable {A M N : Mm} {L P R S U D W t : Nat} {G : Nat → Nat → Int32}
end EW4
