/-! ===== the class's readers: a library, a rule ===== -/
theorem tc_gi {M N : Mm} {T : Nat → Int32} {t : Nat} (h1 : gr N = gr M) (h2 : gi N 70 = gi M 70) (h3 : gi N 145 = gi M 145) (h : TC M T t) : TC N T t := by
  unfold TC; rw [h1, h2, h3]; exact h
/-- a library that was told without a fault -/
def LD (M : Mm) (r D : Nat) : Prop := LR M r ∧ gi M r 1 = nI D ∧ D ≤ 24 ∧ ∀ w, w < D → WK D M (r + 776 + 64 * w)
/-- a rule's notes are told or not -/
def RN (M : Mm) (r : Nat) : Prop := gi M r 2 = 0 ∨ gi M r 2 = 1