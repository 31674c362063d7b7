/-! ===== and what was settled is the same ===== -/
def EY (M : Mm) (L W : Nat) (G : Nat → Nat → Int32) : Prop := (∀ w, w < W → ∀ i, i < 8 → gi M 6101 (10 * w + i) = G w i) ∧ (∀ w, w < W → RT (G w) ∧ RF G w ∧ RS6 G W w) ∧ SE M L G W ∧ gi M 6027 23 = ring G W ∧ gi M 6027 24 = unsd G W ∧ RYZ M W (said G W).2.1 (said G W).2.2 ∧ WL M L G W ∧ RV M
def EZ (M : Mm) (L R S D W : Nat) : Prop := EX M L R S D W ∧ ∃ G, EY M L W G
def INY (M : Mm) : Prop := ∃ L P R S U D W t, IV M L P R S U D W t ∧ EZ M L R S D W
section EQT
variable {M N : Mm} {L P R S U D W t : Nat}
theorem se_eq {r : Nat} {g : Nat → Nat → Int32} (h : ∀ a, (a = r ∨ a = r + 205 ∨ a = r + 269 ∨ a = r + 460 ∨ a = r + 524) → gi N a = gi M a) (s : SE M r g D) : SE N r g D := by
  obtain ⟨s1, s2, s3, s4⟩ := s
  refine ⟨sw_cg (fun a ha k _ _ => by rw [h a (by omega)]) (fun _ _ _ _ => rfl) s1, by rw [h r (by omega)]; exact s2, by rw [h r (by omega)]; exact s3, fun c hc v hv => ?_⟩
  rw [h (r + 205) (by omega), h (r + 269) (by omega)]; exact s4 c hc v hv
theorem ey_eq {G : Nat → Nat → Int32} (y : EY M L W G) (h : ∀ a, (L ≤ a ∧ a < L + 2304 ∧ a ≠ L + 140) → gi N a = gi M a) (h1 : ∀ k, k < 10 * W → gi N 6101 k = gi M 6101 k) (h23 : gi N 6027 23 = gi M 6027 23) (h24 : gi N 6027 24 = gi M 6027 24) (hl : ∀ k, k < W → gl N 6874 k = gl M 6874 k ∧ gl N 6938 k = gl M 6938 k) (hr : RV M → RV N) : EY N L W G := by
  obtain ⟨y1, y2, y3, y4, y5, y6, y7, y8⟩ := y
  refine ⟨fun w hw i hi => by rw [h1 _ (by omega)]; exact y1 w hw i hi, y2, se_eq (fun a ha => h a (by omega)) y3, h23.trans y4, h24.trans y5, fun v hv c hc => ?_, wl_eq h y7, hr y8⟩
  rw [(hl v hv).1, (hl v hv).2]; exact y6 v hv c hc
theorem ez2 (y : ∃ G, EY M L W G) (h : ∀ a, (L ≤ a ∧ a < L + 2304 ∧ a ≠ L + 140) → gi N a = gi M a) (h1 : ∀ k, k < 10 * W → gi N 6101 k = gi M 6101 k) (h23 : gi N 6027 23 = gi M 6027 23) (h24 : gi N 6027 24 = gi M 6027 24) (hl : ∀ k, k < W → gl N 6874 k = gl M 6874 k ∧ gl N 6938 k = gl M 6938 k) (hr : RV M → RV N) : ∃ G, EY N L W G := by
  obtain ⟨G, y⟩ := y
  exact ⟨G, ey_eq y h h1 h23 h24 hl hr⟩
theorem ez_eq (z : EZ M L R S D W) (h : ∀ a, (a = 10 ∨ (385 ≤ a ∧ a < 4993) ∨ a = 4995 ∨ a = 5059 ∨ a = 5123 ∨ a = 6543 ∨ a = 6607 ∨ a = 6157) → gi N a = gi M a) (h1 : ∀ k, k < 10 * W → gi N 6101 k = gi M 6101 k) (h6 : ∀ k, k = 9 ∨ k = 16 ∨ k = 23 ∨ k = 24 → gi N 6027 k = gi M 6027 k) (hl : ∀ k, k < W → gl N 6874 k = gl M 6874 k ∧ gl N 6938 k = gl M 6938 k) : EZ N L R S D W := by
  have a1 := z.1.1.1
  unfold LA at a1
  exact ⟨ex_eq z.1 h h1 (h6 9 (by decide)) (h6 16 (by decide)), ez2 z.2 (fun a ha => h a (by omega)) h1 (h6 23 (by decide)) (h6 24 (by decide)) hl (rv_eq (h 6543 (by omega)) (h 6607 (by omega)))⟩
theorem ez_cq (f : CQ M N) (x : EZ M L R S D W) : EZ N L R S D W := by
  have g : ∀ a, ¬ (a = 5192 ∨ a = 5261 ∨ a = 5392) → gi N a = gi M a := f.2.2
  exact ez_eq x (fun a ha => g a (by omega)) (fun k _ => by rw [g _ (by decide)]) (fun k _ => by rw [g _ (by decide)]) (fun k _ => by rw [f.1]; exact ⟨rfl, rfl⟩)
theorem ez_qf (f : QF W M N) (x : EZ M L R S D W) : EZ N L R S D W := by
  have g : ∀ a, ¬ (a = 7310 ∨ a = 7374 ∨ a = 7246 ∨ a = 7182 ∨ a = 7438 ∨ a = 7502 ∨ a = 7582 ∨ a = 6101 ∨ a = 6027) → gi N a = gi M a := f.2.1
  exact ez_eq x (fun a ha => g a (by omega)) f.2.2.1 (fun k hk => f.2.2.2.1 k (by omega)) (fun k hk => ⟨f.2.2.2.2 _ _ (by decide) (by omega), f.2.2.2.2 _ _ (by decide) (by omega)⟩)
theorem ez_af (f : AF M N) (x : EZ M L R S D W) : EZ N L R S D W := ez_qf (qf_af f) x
end EQT
