/-! ===== more that holds of both between calls: what was read is the same ===== -/
def EX (M : Mm) (L R S D W : Nat) : Prop := (LA L ∧ RA R ∧ RA S) ∧ gi M 10 9 = gi M 6027 9 ∧ gi M 10 10 = gi M 6027 16 ∧ (∀ i, i < 7 → gi M R i = gi M 6543 i) ∧ (∀ i, i < 7 → gi M S i = gi M 6607 i) ∧ (∀ b, b < 8 → gi M (L + 140) b = gi M 6157 b) ∧ (D = W ∧ D ≤ 24) ∧ ∀ w, w < D → ∀ i, i < 8 → gi M (L + 776 + 64 * w) (cf i) = gi M 6101 (10 * w + i)
def INX (M : Mm) : Prop := ∃ L P R S U D W t, IV M L P R S U D W t ∧ EX M L R S D W
section EQE
variable {M N : Mm} {L P R S U D W t : Nat}
theorem ex_eq (x : EX M L R S D W) (h : ∀ a, (a = 10 ∨ (385 ≤ a ∧ a < 4993) ∨ a = 4995 ∨ a = 5059 ∨ a = 5123 ∨ a = 6543 ∨ a = 6607 ∨ a = 6157) → gi N a = gi M a) (h1 : ∀ k, k < 10 * W → gi N 6101 k = gi M 6101 k) (h9 : gi N 6027 9 = gi M 6027 9) (h16 : gi N 6027 16 = gi M 6027 16) : EX N L R S D W := by
  obtain ⟨⟨a1, a2, a3⟩, x1, x2, x3, x4, x5, ⟨x6, x7⟩, x8⟩ := x
  have a1' := a1
  have a2' := a2
  have a3' := a3
  unfold LA at a1'
  unfold RA at a2' a3'
  refine ⟨⟨a1, a2, a3⟩, ?_, ?_, fun i hi => ?_, fun i hi => ?_, fun b hb => ?_, ⟨x6, x7⟩, fun w hw i hi => ?_⟩
  · rw [h 10 (by omega), h9]; exact x1
  · rw [h 10 (by omega), h16]; exact x2
  · rw [h R (by omega), h 6543 (by omega)]; exact x3 i hi
  · rw [h S (by omega), h 6607 (by omega)]; exact x4 i hi
  · rw [h (L + 140) (by omega), h 6157 (by omega)]; exact x5 b hb
  · rw [h (L + 776 + 64 * w) (by omega), h1 _ (by omega)]; exact x8 w hw i hi
theorem ex_cq (f : CQ M N) (x : EX M L R S D W) : EX N L R S D W := by
  have g : ∀ a, ¬ (a = 5192 ∨ a = 5261 ∨ a = 5392) → gi N a = gi M a := f.2.2
  exact ex_eq x (fun a ha => g a (by omega)) (fun k _ => by rw [g _ (by decide)]) (by rw [g _ (by decide)]) (by rw [g _ (by decide)])
theorem ex_qf (f : QF W M N) (x : EX M L R S D W) : EX N L R S D W := by
  have g : ∀ a, ¬ (a = 7310 ∨ a = 7374 ∨ a = 7246 ∨ a = 7182 ∨ a = 7438 ∨ a = 7502 ∨ a = 7582 ∨ a = 6101 ∨ a = 6027) → gi N a = gi M a := f.2.1
  exact ex_eq x (fun a ha => g a (by omega)) f.2.2.1 (f.2.2.2.1 9 (by decide)) (f.2.2.2.1 16 (by decide))
theorem ex_af (f : AF M N) (x : EX M L R S D W) : EX N L R S D W := ex_qf (qf_af f) x
end EQE
