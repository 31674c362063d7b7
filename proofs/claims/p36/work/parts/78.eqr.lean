/-! ===== rings and sayings depend on the told rows alone; what the reference keeps ===== -/
theorem wlr_cg {R R' : Nat → Int32} {D : Nat} (h : ∀ w, w < D → R w = R' w) : ∀ k, k ≤ D → ∀ w, w < D → wlr R k w = wlr R' k w
  | 0, _, w, hw => h w hw
  | k + 1, hk, w, hw => by
    have ih := wlr_cg h k (by omega)
    rw [wlr, wlr]
    unfold wrf
    rw [ih w hw, ih k (by omega)]
theorem rg_cg {R R' : Nat → Int32} : ∀ n, (∀ w, w < n → R w = R' w) → rg R n = rg R' n
  | 0, _ => rfl
  | n + 1, h => by rw [rg, rg, rg_cg n (fun w hw => h w (by omega)), h n (by omega)]
theorem ug_cg {R R' : Nat → Int32} {x : Int32} : ∀ n, (∀ w, w < n → R w = R' w) → ug R x n = ug R' x n
  | 0, _ => rfl
  | n + 1, h => by rw [ug, ug, ug_cg n (fun w hw => h w (by omega)), h n (by omega)]
theorem ring_cg {R : Nat → Int32} {g : Nat → Nat → Int32} {D : Nat} (h : ∀ w, w < D → R w = fowg g w) : rg (wlr R D) D = ring g D ∧ ug (wlr R D) (rg (wlr R D) D) D = unsd g D := by
  have e := wlr_cg h D (Nat.le_refl D)
  have e1 : rg (wlr R D) D = ring g D := rg_cg D e
  refine ⟨e1, ?_⟩
  rw [e1]
  exact ug_cg D e
section EQR
variable {B : Mm} {W : Nat} {g : Nat → Nat → Int32}
/-- what the reference keeps: rings, unsound words, what words say -/
theorem kb_se (hW : W ≤ 24) (hr : ∀ w, w < W → ∀ i, i < 8 → gi B 6229 (10 * w + i) = g w i) (rs : ∀ w, w < W → RS6 g W w) (n4 : ∀ w, w < W → g w 0 = 4 → g w 4 = 0) : gi (kbM B W) 6027 23 = ring g W ∧ gi (kbM B W) 6027 24 = unsd g W ∧ RYZ (kbM B W) W (said g W).2.1 (said g W).2.2 := by
  have rows : ∀ w, w < W → ∀ i, i < 8 → wd (kb2 B) w i = g w i := fun w hw i hi => by
    unfold wd
    rw [kb2_t _ _ (by omega)]; exact hr w hw i hi
  have fo : ∀ w, w < W → fow (kb2 B) w = fowg g w := fun w hw => by
    rw [fowg_e]
    exact fowg_cg hw (fun u hu i hi => rows u hu i (by omega))
  obtain ⟨e1, e2⟩ := ring_cg (R := fow (kb2 B)) fo
  have eg : gi (kbM B W) = gi (ffM (kb2 B) W) := (fs_fsM _ W).2.1
  have f23 : gi (ffM (kb2 B) W) 6027 23 = ring g W := by
    unfold ffM
    rw [g6 _ _ _ _ (by decide), g6s]; exact e1
  have f24 : gi (ffM (kb2 B) W) 6027 24 = unsd g W := by
    unfold ffM
    rw [g6s]; exact e2
  refine ⟨by rw [eg]; exact f23, by rw [eg]; exact f24, ?_⟩
  have ew : ∀ v k, wd (ffM (kb2 B) W) v k = wd (kb2 B) v k := fun v k => by unfold wd; rw [ffM_ne _ _ _ (by decide) (by decide)]
  have ew' : wd (ffM (kb2 B) W) = wd (kb2 B) := by funext v k; exact ew v k
  unfold kbM
  refine fsM_b hW (fun w hw i hi => by rw [ew]; exact rows w hw i (by omega)) (fun w hw => ?_) f24 rs n4
  rw [← fo w hw, fowg_e, fowg_e, ew']
/-- told rows without wrong followers are as they must be -/
theorem rows_ok {σ : LSt} (ok : okS σ) (kt : okT σ) (nb : ∀ w, w < σ.2.1 → ¬ bdS σ w) : ∀ w, w < σ.2.1 → RF σ.2.2.1 w ∧ RS6 σ.2.2.1 σ.2.1 w ∧ (σ.2.2.1 w 0 = 4 → σ.2.2.1 w 4 = 0) := by
  intro w hw
  have hD := ok.1
  obtain ⟨-, k, hk, ek, h⟩ := ok.2.2 w hw
  obtain ⟨t1, t2, t3, t4, t5, t6⟩ := kt w hw
  have nw := nb w hw
  have kk : ∀ j, j < 6 → (σ.2.2.1 w 0 = nI j ↔ k = j) := fun j hj => by rw [ek, ninj (by omega) (by omega)]
  have k0 := kk 0 (by decide)
  have k4 := kk 4 (by decide)
  have k5 := kk 5 (by decide)
  have e0 : (nI 0 : Int32) = 0 := rfl
  have e4 : (nI 4 : Int32) = 4 := rfl
  have e5 : (nI 5 : Int32) = 5 := rfl
  rw [e0] at k0
  rw [e4] at k4
  rw [e5] at k5
  refine ⟨⟨?_, fun q => ?_⟩, ⟨?_, t3, t5⟩, fun q => t6 ?_⟩
  · rcases h with ⟨-, e⟩ | ⟨-, f, hf, e⟩
    · exact Or.inl e
    · exact Or.inr ⟨f, hf, e⟩
  · refine ⟨?_, t2 (fun z => ?_)⟩
    · rcases h with ⟨-, e⟩ | ⟨n, -⟩
      · exact e
      · exfalso
        have := k4.mp q
        omega
    · have a := k4.mp q
      have b := k5.mp z
      omega
  · rcases h with ⟨n, e⟩ | ⟨n, f, hf, e⟩
    · left
      refine ⟨?_, e⟩
      have : k = 0 ∨ k = 4 ∨ k = 5 := by omega
      rcases this with z | z | z
      · exact Or.inl (k0.mpr z)
      · exact Or.inr (Or.inl (k4.mpr z))
      · exact Or.inr (Or.inr (k5.mpr z))
    · right
      refine ⟨?_, f, ?_, ?_, e⟩
      · rintro (z | z | z)
        · have := k0.mp z; omega
        · have := k4.mp z; omega
        · have := k5.mp z; omega
      · by_cases lf : f < σ.2.1
        · exact lf
        · exfalso
          refine nw ⟨by rw [e]; exact nI4 (by omega), Or.inl ?_⟩
          rw [e, nle (by omega) (by omega)]; omega
      · intro z
        refine nw ⟨by rw [e]; exact nI4 (by omega), Or.inr (Or.inl ?_)⟩
        rw [e, z]
  · rintro (z | z)
    · have a := k0.mp z
      have b := k4.mp q
      omega
    · have a := k5.mp z
      have b := k4.mp q
      omega
end EQR
