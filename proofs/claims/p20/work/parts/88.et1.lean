/-! ===== steps, the same on both sides ===== -/
section ET1
variable {M : Mm} {W : Nat}
theorem chs_cg {g g' : Nat → Nat → Int32} {D : Nat} (h : ∀ w, w < D → g w 6 = g' w 6) (k : ∀ w, w < D → ∀ f, f < 24 → g w 6 = nI f → f < D) : ∀ n w, w < D → chs g n w → chs g' n w
  | 0, w, hw, q => by
    show g' w 6 = -4
    rw [← h w hw]; exact q
  | n + 1, w, hw, ⟨f, hf, e, q⟩ => ⟨f, hf, by rw [← h w hw]; exact e, chs_cg h k n f (k w hw f hf e) q⟩
theorem eM_steps {v : Int32} {K : Int32 → Mm → Prop} (j : JW M W) (h0 : (v < 0 ∨ nI W ≤ v) → K (-1) M) (h1 : ∀ w, w < W → v = nI w → uns M w → K (-4) M) (h2 : ∀ w, w < W → v = nI w → ¬ uns M w → ∃ n, chs (wd M) n w ∧ K (nI n) M) : CI mM_steps [.ref 6027, .int v] M K := by
  refine call_of rfl (Nat.le_of_ble_eq_true rfl) rfl (vM_steps_0 rfl (sM_isWord j.2.1 j.2.2.1 (fun q => vM_steps_5 rfl ⟨fun q => absurd rfl q, fun _ => h0 q⟩) (fun i hi e => vM_steps_5 rfl ⟨fun _ => ?_, fun q => absurd q (by decide)⟩)))
  subst e
  have hW := j.2.2.1
  refine sM_isUnsound (vM_steps_15 ⟨fun q => ?_, fun q => h1 i hi rfl ?_⟩)
  · have u : ¬ uns M i := fun u => by rw [if_pos u] at q; exact absurd q (by decide)
    obtain ⟨n, hc, hk⟩ := h2 i hi rfl u
    have key : ∀ n v x, v < 25 → chs (wd M) n v → K (nI (x + n)) M → X mM_steps 25 [(0, .ref 6027), (2, .int (nI x)), (3, .int (nI v))] [] M (mC mM_steps, mS mM_steps) (QI K) := by
      intro n
      induction n with
      | zero =>
        intro v x hv hc hk
        exact vM_steps_25 rfl (sM_of (k := 6) j.1 hv rfl (by decide) (vM_steps_32 rfl ⟨fun _ => hk, fun q => absurd hc q⟩))
      | succ n ih =>
        intro v x hv hc hk
        obtain ⟨f, hf, e, hc⟩ := hc
        refine vM_steps_25 rfl (sM_of (k := 6) j.1 hv rfl (by decide) (vM_steps_32 rfl ⟨fun q => ?_, fun q => sM_of (k := 6) j.1 hv rfl (by decide) (vM_steps_47 ?_)⟩))
        · exact absurd (e.symm.trans q) (nI4 (by omega))
        · have e' : wd M v 6 = nI f := e
          rw [e', nI_s]
          exact ih f (x + 1) (by omega) hc (by rw [show x + 1 + n = x + (n + 1) by omega]; exact hk)
    have := key n i 0 (by omega) hc (by rw [Nat.zero_add]; exact hk)
    exact this
  · by_cases u : uns M i
    · exact u
    · rw [if_neg u] at q; exact absurd rfl q
theorem pz_steps {v : Int32} {Z : Int32 → Int32 → Mm → Prop} (i0 : INY M) (h : ∀ r s N, INY N → r = s → Z r s N) : CI mC_steps [.ref 10, .int v] M (fun r N => CI mM_steps [.ref 6027, .int v] N (fun s O => Z r s O)) := by
  have i1 := i0
  obtain ⟨L, P, R, S, U, D, W, t, i, ez⟩ := i0
  have c := i.1.1
  have dw : D = W := ez.1.2.2.2.2.2.2.1.1
  have hW : W ≤ 24 := i.2.1.2.1
  obtain ⟨G, y1, y2, y3, y4, y5, ry, wl, -⟩ := ez.2
  have hD : gi M L 1 = nI W := by rw [i.1.2.1, dw]
  have g6 : ∀ w, w < W → G w 6 = wd M w 6 := fun w hw => (y1 w hw 6 (by decide)).symm
  have kk : ∀ w, w < W → ∀ f, f < 24 → G w 6 = nI f → f < W := fun w hw f hf e => by
    rcases (y2 w hw).2.2.1 with z | ⟨-, x, hx, -, ex⟩
    · exact absurd (e.symm.trans z.2) (nI4 (by omega))
    · have : f = x := (ninj (by omega) (by omega)).mp (e.symm.trans ex)
      omega
  have un : ∀ w, w < W → (uns M w ↔ bt (unsd G W) w = true) := fun w hw => by
    unfold uns
    rw [bit1 _ (by omega), y5]
  refine call_of rfl (Nat.le_of_ble_eq_true rfl) rfl (vC_steps_0 rfl (lC_isWord c hD hW (fun q => vC_steps_5 rfl (cx4 c) (lr0 (cxlr c)) ⟨fun _ => ?_, fun q => absurd rfl q⟩) (fun k hk ek => vC_steps_5 rfl (cx4 c) (lr0 (cxlr c)) ⟨fun q => absurd q (by decide), fun _ => ⟨by rw [ek]; exact vin (show k < 24 by omega) (by decide), L + 776 + 64 * k, by rw [ek]; exact gwd c (by omega), ?_⟩⟩)))
  · refine eM_steps i.2.1.1 (fun _ => h _ _ M i1 rfl) (fun w hw e => ?_) (fun w hw e => ?_)
    · exfalso
      rw [e] at q
      rcases q with q | q
      · exact n0 w (by omega) q
      · have := (nle (by omega) (by omega)).mp q
        omega
    · exfalso
      rw [e] at q
      rcases q with q | q
      · exact n0 w (by omega) q
      · have := (nle (by omega) (by omega)).mp q
        omega
  · have same : ∀ w, w < W → v = nI w → w = k := fun w hw e => (ninj (by omega) (by omega)).mp (e.symm.trans ek)
    refine eM_steps i.2.1.1 (fun q => ?_) (fun w hw e u => ?_) (fun w hw e u => ?_)
    · exfalso
      rw [ek] at q
      rcases q with q | q
      · exact n0 k (by omega) q
      · have := (nle (by omega) (by omega)).mp q
        omega
    · have := same w hw e
      subst this
      exact h _ _ M i1 ((wl.2.2.2 w hw).1 ((un w hw).mp u))
    · have := same w hw e
      subst this
      have uf : bt (unsd G W) w = false := by
        cases z : bt (unsd G W) w
        · rfl
        · exact absurd ((un w hw).mpr z) u
      obtain ⟨-, n, hn, hc, en⟩ := (wl.2.2.2 w hw).2 uf
      exact ⟨n, chs_cg g6 kk n w hw hc, h _ _ M i1 en⟩
end ET1
