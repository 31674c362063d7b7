/-! ===== the reference: library ===== -/
/-- what the queries stand on, and the tape's and the sheets' state, is the same -/
def OS (M N : Mm) : Prop := gr N = gr M ∧ (∀ a, ¬ (a = 6027 ∨ a = 6423 ∨ a = 6229 ∨ a = 6285 ∨ a = 6360) → gi N a = gi M a) ∧ (∀ k, ¬ ((11 ≤ k ∧ k ≤ 17) ∨ k = 3 ∨ k = 8) → gi N 6027 k = gi M 6027 k) ∧ gl N = gl M
/-- words of another library -/
def NL (M N : Mm) : Prop := gr N = gr M ∧ (∀ a, ¬ (a = 6027 ∨ a = 6423 ∨ a = 6229 ∨ a = 6285 ∨ a = 6360 ∨ a = 6101 ∨ a = 6157 ∨ a = 6807) → gi N a = gi M a) ∧ (∀ k, ¬ ((11 ≤ k ∧ k ≤ 17) ∨ k = 3 ∨ k = 8 ∨ k = 0 ∨ k = 9 ∨ k = 23 ∨ k = 24) → gi N 6027 k = gi M 6027 k) ∧ ∀ a j, ¬ (a = 6874 ∨ a = 6938) → gl N a j = gl M a j