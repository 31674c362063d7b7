/-! ===== the reference: words speak in the same order; sound words follow sound words ===== -/
section EQP
variable {N : Mm} {W : Nat} {g : Nat → Nat → Int32} {u : Int32}
theorem fs1_b {q : Int32 × Mm} {q' : SQ} {w : Nat} (hw : w < W) (hW : W ≤ 24) (e1 : q.1 = q'.1) (ry : RYZ q.2 W q'.2.1 q'.2.2) (hg : ∀ i, i < 7 → wd q.2 w i = g w i) (hf : fow q.2 w = fowg g w) (hu : gi q.2 6027 24 = u) (rs : RS6 g W w) (n4 : g w 0 = 4 → g w 4 = 0) : (fs1 q w).1 = (sp1 g u q' w).1 ∧ RYZ (fs1 q w).2 W (sp1 g u q' w).2.1 (sp1 g u q' w).2.2 := by
  have cond : (((q.1 >>> (nI w &&& 31)) &&& 1) = 0 ∧ ¬ uns q.2 w ∧ (fow q.2 w &&& (q.1 ^^^ (-1))) = 0) ↔ (bt q'.1 w = false ∧ bt u w = false ∧ (fowg g w &&& (q'.1 ^^^ (-1))) = 0) := by
    unfold uns
    rw [hf, hu, e1, bit0 _ (show w < 32 by omega), bit1 _ (show w < 32 by omega)]
    refine ⟨fun z => ⟨z.1, by simpa using z.2.1, z.2.2⟩, fun z => ⟨z.1, by rw [z.2.1]; decide, z.2.2⟩⟩
  by_cases c : bt q'.1 w = false ∧ bt u w = false ∧ (fowg g w &&& (q'.1 ^^^ (-1))) = 0
  · have a1 : fs1 q w = (q.1 ||| ((1 : Int32) <<< (nI w &&& 31)), sl (sl q.2 6874 w (swv q.2 w).1) 6938 w (swv q.2 w).2) := by unfold fs1; rw [if_pos (cond.mpr c)]
    have a2 : sp1 g u q' w = (q'.1 ||| ((1 : Int32) <<< (nI w &&& 31)), upb q'.2.1 w (sayY g q'.2.1 q'.2.2 w), upb q'.2.2 w (sayN g q'.2.1 q'.2.2 w)) := by unfold sp1; rw [if_pos c]
    rw [a1, a2]
    refine ⟨by rw [e1], fun v hv c' hc' => ?_⟩
    show lb (gl (sl (sl q.2 6874 w (swv q.2 w).1) 6938 w (swv q.2 w).2) 6874 v) c' = upb q'.2.1 w (sayY g q'.2.1 q'.2.2 w) v c' ∧ lb (gl (sl (sl q.2 6874 w (swv q.2 w).1) 6938 w (swv q.2 w).2) 6938 v) c' = upb q'.2.2 w (sayN g q'.2.1 q'.2.2 w) v c'
    have d1 : gl (sl (sl q.2 6874 w (swv q.2 w).1) 6938 w (swv q.2 w).2) 6874 v = if v = w then (swv q.2 w).1 else gl q.2 6874 v := by
      rw [gl_sl, if_neg (fun z => absurd z.1 (by decide)), gl_sl]
      by_cases e : v = w
      · rw [if_pos ⟨rfl, e⟩, if_pos e]
      · rw [if_neg (fun z => e z.2), if_neg e]
    have d2 : gl (sl (sl q.2 6874 w (swv q.2 w).1) 6938 w (swv q.2 w).2) 6938 v = if v = w then (swv q.2 w).2 else gl q.2 6938 v := by
      rw [gl_sl]
      by_cases e : v = w
      · rw [if_pos ⟨rfl, e⟩, if_pos e]
      · rw [if_neg (fun z => e z.2), if_neg e, gl_sl, if_neg (fun z => absurd z.1 (by decide))]
    rw [d1, d2]
    unfold upb
    by_cases e : v = w
    · rw [if_pos e, if_pos e, if_pos e, if_pos e]
      exact swv_b hg hf rs n4 ry hw hW hc'
    · rw [if_neg e, if_neg e, if_neg e, if_neg e]
      exact ry v hv c' hc'
  · have a1 : fs1 q w = q := by unfold fs1; rw [if_neg (fun z => c (cond.mp z))]
    have a2 : sp1 g u q' w = q' := by unfold sp1; rw [if_neg c]
    rw [a1, a2]
    exact ⟨e1, ry⟩
theorem fsr_b {q : Int32 × Mm} {q' : SQ} (hW : W ≤ 24) (e1 : q.1 = q'.1) (ry : RYZ q.2 W q'.2.1 q'.2.2) (hg : ∀ w, w < W → ∀ i, i < 7 → wd q.2 w i = g w i) (hf : ∀ w, w < W → fow q.2 w = fowg g w) (hu : gi q.2 6027 24 = u) (rs : ∀ w, w < W → RS6 g W w) (n4 : ∀ w, w < W → g w 0 = 4 → g w 4 = 0) : ∀ w, w ≤ W → (fsr q w).1 = (spr g u q' w).1 ∧ RYZ (fsr q w).2 W (spr g u q' w).2.1 (spr g u q' w).2.2
  | 0, _ => ⟨e1, ry⟩
  | w + 1, hw => by
    obtain ⟨i1, i2⟩ := fsr_b hW e1 ry hg hf hu rs n4 w (by omega)
    have fs := fs_fsr q w
    rw [fsr, spr]
    generalize fsr q w = p at i1 i2 fs
    generalize spr g u q' w = p' at i1 i2
    have gw : ∀ v k, wd p.2 v k = wd q.2 v k := fun v k => by unfold wd; rw [fs.2.1]
    refine fs1_b (by omega) hW i1 i2 (fun i hi => by rw [gw]; exact hg w (by omega) i hi) ?_ (by rw [fs.2.1]; exact hu) (rs w (by omega)) (n4 w (by omega))
    rw [← hf w (by omega), fowg_e, fowg_e]
    have e : wd p.2 = wd q.2 := by funext v k; exact gw v k
    rw [e]
theorem fsR_b {q : Int32 × Mm} {q' : SQ} (hW : W ≤ 24) (e1 : q.1 = q'.1) (ry : RYZ q.2 W q'.2.1 q'.2.2) (hg : ∀ w, w < W → ∀ i, i < 7 → wd q.2 w i = g w i) (hf : ∀ w, w < W → fow q.2 w = fowg g w) (hu : gi q.2 6027 24 = u) (rs : ∀ w, w < W → RS6 g W w) (n4 : ∀ w, w < W → g w 0 = 4 → g w 4 = 0) : ∀ n, (fsR q W n).1 = (spR g u q' W n).1 ∧ RYZ (fsR q W n).2 W (spR g u q' W n).2.1 (spR g u q' W n).2.2
  | 0 => ⟨e1, ry⟩
  | n + 1 => by
    obtain ⟨i1, i2⟩ := fsR_b hW e1 ry hg hf hu rs n4 n
    have fs := fs_fsR q W n
    rw [fsR, spR]
    generalize fsR q W n = p at i1 i2 fs
    generalize spR g u q' W n = p' at i1 i2
    have gw : ∀ v k, wd p.2 v k = wd q.2 v k := fun v k => by unfold wd; rw [fs.2.1]
    have e : wd p.2 = wd q.2 := by funext v k; exact gw v k
    refine fsr_b hW i1 i2 (fun w hw i hi => by rw [gw]; exact hg w hw i hi) (fun w hw => ?_) (by rw [fs.2.1]; exact hu) rs n4 W (Nat.le_refl W)
    rw [← hf w hw, fowg_e, fowg_e, e]
/-- what findSaid leaves is the pure table -/
theorem fsM_b (hW : W ≤ 24) (hg : ∀ w, w < W → ∀ i, i < 7 → wd N w i = g w i) (hf : ∀ w, w < W → fow N w = fowg g w) (hu : gi N 6027 24 = u) (rs : ∀ w, w < W → RS6 g W w) (n4 : ∀ w, w < W → g w 0 = 4 → g w 4 = 0) : RYZ (fsM N W) W (spR g u sq0 W W).2.1 (spR g u sq0 W W).2.2 := by
  unfold fsM
  refine (fsR_b (q := (0, zl N W)) (q' := sq0) hW rfl (fun v hv c hc => ?_) hg (fun w hw => by rw [← hf w hw, fowg_e, fowg_e]; rfl) hu rs n4 W).2
  show lb (gl (zl N W) 6874 v) c = false ∧ lb (gl (zl N W) 6938 v) c = false
  rw [gl_zl, if_pos ⟨Or.inl rfl, hv⟩, gl_zl, if_pos ⟨Or.inr rfl, hv⟩, l_0]
  exact ⟨rfl, rfl⟩
/-- sound words follow sound words -/
theorem us_of {R : Nat → Int32} {D w v : Nat} (hD : D ≤ 24) (hw : w < D) (hs : bt (ug (wlr R D) (rg (wlr R D) D) D) w = false) (hv : v < 32) (h : bt (R w) v = true) : bt (ug (wlr R D) (rg (wlr R D) D) D) v = false := by
  have h1 : bt (wlr R D w) v = true := wlr_0 R D (by omega) w v h
  have cl : ∀ x, x < 32 → bt (wlr R D w) x = true → bt (rg (wlr R D) D) x = true → False := by
    intro x hx a b
    have : bt (ug (wlr R D) (rg (wlr R D) D) D) w = true := (ug_b _ _ D (by omega) w (by omega)).mpr (Or.inr ⟨hw, nz_b.mpr ⟨x, hx, by rw [b_and, a, b]; rfl⟩⟩)
    rw [hs] at this
    exact absurd this (by decide)
  by_cases z : bt (ug (wlr R D) (rg (wlr R D) D) D) v = true
  · exfalso
    rcases (ug_b _ _ D (by omega) v hv).mp z with a | ⟨hvD, a⟩
    · exact cl v hv h1 a
    · obtain ⟨x, hx, e⟩ := nz_b.mp a
      rw [b_and, Bool.and_eq_true] at e
      exact cl x hx (wlr_t R D (by omega) v hvD w h1 x e.1) e.2
  · simpa using z
end EQP
