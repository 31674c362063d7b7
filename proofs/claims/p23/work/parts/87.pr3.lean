/-! ===== pairs of calls: library, rule, sheet, lay ===== -/
section PR3
variable {M : Mm}
theorem isS_e {k : Int32} {e : Nat} (he : e < 4) (ek : k = nI e) : isS k = true := by rw [ek]; exact decide_eq_true ⟨n0 e (by omega), nge rfl (by decide) he⟩
end PR3
