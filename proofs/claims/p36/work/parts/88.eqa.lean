/-! ===== the class's library exactly; library on both sides ===== -/
section EQA
variable {M N : Mm} {L P R S U : Nat}
theorem eC_afterText {v : Int32} {K : Int32 → Mm → Prop} (g0 : gr M 10 0 = some 70) (g1 : gr M 10 1 = some 199) (h : K (if v < 0 then (-10) - gi M 199 6 else v) (si (si M 70 1 0) 10 10 (gi M 199 5))) : CI mC_afterText [.ref 10, .int v] M K := by
  refine call_of rfl (Nat.le_of_ble_eq_true rfl) rfl (vC_afterText_0 rfl g0 g1 ?_)
  have e : gi (si M 70 1 0) 199 5 = gi M 199 5 := giR _ _ _ _ _ _ (by decide)
  have e6 : gi (si (si M 70 1 0) 10 10 (gi M 199 5)) 199 6 = gi M 199 6 := by rw [giR _ _ _ _ _ _ (by decide), giR _ _ _ _ _ _ (by decide)]
  rw [e, e6]; exact h
end EQA
section EQA2
variable {M : Mm}
end EQA2
