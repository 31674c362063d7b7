/-! ===== the class's settling: what it leaves ===== -/
section EQQ
variable {M : Mm} {r D : Nat}
/-- the words that are in a ring; that are unsound -/
def ring (g : Nat → Nat → Int32) (D : Nat) : Int32 := rg (wlr (fowg g) D) D
def unsd (g : Nat → Nat → Int32) (D : Nat) : Int32 := ug (wlr (fowg g) D) (ring g D) D
def said (g : Nat → Nat → Int32) (D : Nat) : SQ := spR g (unsd g D) sq0 D D
/-- a library, settled -/
def SE (N : Mm) (r : Nat) (g : Nat → Nat → Int32) (D : Nat) : Prop := SW N r g D ∧ gi N r 12 = ring g D ∧ gi N r 13 = unsd g D ∧ CY N r (said g D).2.1 (said g D).2.2
theorem sw_cg {N O : Mm} {g g' : Nat → Nat → Int32} (e : ∀ a, (a = r ∨ a = r + 460 ∨ a = r + 524) → ∀ k, k ≠ 12 → k ≠ 13 → gi O a k = gi N a k) (hg : ∀ w, w < D → ∀ i, i < 7 → g w i = g' w i) (h : SW N r g D) : SW O r g' D := by
  obtain ⟨h1, h2, h3, h4⟩ := h
  refine ⟨fun d hd v hv => ?_, fun b hb v hv => ?_, fun v hv => ?_, fun v hv => ?_⟩
  · rw [e _ (by omega) d (by omega) (by omega), h1 d hd v hv]
    exact ⟨fun z => ⟨z.1, by rw [← hg v z.1 1 (by decide)]; exact z.2⟩, fun z => ⟨z.1, by rw [hg v z.1 1 (by decide)]; exact z.2⟩⟩
  · rw [e _ (by omega) b (by omega) (by omega), h2 b hb v hv]
    exact ⟨fun z => ⟨z.1, by rw [← hg v z.1 2 (by decide)]; exact z.2⟩, fun z => ⟨z.1, by rw [hg v z.1 2 (by decide)]; exact z.2⟩⟩
  · rw [e r (by omega) 10 (by decide) (by decide), h3 v hv]
    exact ⟨fun z => ⟨z.1, by rw [← hg v z.1 0 (by decide)]; exact z.2⟩, fun z => ⟨z.1, by rw [hg v z.1 0 (by decide)]; exact z.2⟩⟩
  · rw [e r (by omega) 11 (by decide) (by decide), h4 v hv]
    exact ⟨fun z => ⟨z.1, by rw [← hg v z.1 0 (by decide)]; exact z.2⟩, fun z => ⟨z.1, by rw [hg v z.1 0 (by decide)]; exact z.2⟩⟩
end EQQ
