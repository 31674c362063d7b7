/-! ===== pairs of calls that change what both stand on ===== -/
section PR2
variable {M : Mm}
theorem rn_of {L P R S U D : Nat} (c : CP M L P R S U D) {X : Nat} (h : RA X) : RN M X := by
  unfold RA at h
  rcases h with rfl | rfl | rfl
  · exact c.2.2.2.1
  · exact c.2.2.2.2.1
  · exact c.2.2.2.2.2
end PR2
