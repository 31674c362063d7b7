/-! ===== says, the same on both sides ===== -/
section EQW
variable {M : Mm}
/-- what a word says in a case, on both sides -/
theorem say_eq {L W w c : Nat} {G : Nat → Nat → Int32} (hw : w < W) (hW : W ≤ 24) (hc : c < 64) (cy : CY M L (said G W).2.1 (said G W).2.2) (ry : RYZ M W (said G W).2.1 (said G W).2.2) : sav M L (nI w) c = td (gl M 6874 w) (gl M 6938 w) (nI c) := by
  obtain ⟨a1, a2⟩ := cy c hc w (by omega)
  obtain ⟨b1, b2⟩ := ry w hw c hc
  unfold sav td
  have e1 : (((ushr (gi M (L + 205) c) (nI w)) &&& 1) = 1) ↔ (((gl M 6874 w >>> ((nI c).toInt64 &&& 63)) &&& 1) = 1) := by rw [bitu _ (by omega), lbit _ hc, a1, b1]
  have e2 : (((ushr (gi M (L + 269) c) (nI w)) &&& 1) = 1) ↔ (((gl M 6938 w >>> ((nI c).toInt64 &&& 63)) &&& 1) = 1) := by rw [bitu _ (by omega), lbit _ hc, a2, b2]
  by_cases p : ((ushr (gi M (L + 205) c) (nI w)) &&& 1) = 1
  · rw [if_pos p, if_pos (e1.mp p)]
  · rw [if_neg p, if_neg (fun z => p (e1.mpr z))]
    by_cases q : ((ushr (gi M (L + 269) c) (nI w)) &&& 1) = 1
    · rw [if_pos q, if_pos (e2.mp q)]
    · rw [if_neg q, if_neg (fun z => q (e2.mpr z))]
theorem pz_says {v w : Int32} {Z : Int32 → Int32 → Mm → Prop} (i0 : INY M) (h : ∀ r s N, INY N → r = s → Z r s N) : CI mC_says [.ref 10, .int v, .int w] M (fun r N => CI mM_says [.ref 6027, .int v, .int w] N (fun s O => Z r s O)) := by
  have i1 := i0
  obtain ⟨L, P, R, S, U, D, W, t, i, ez⟩ := i0
  have c := i.1.1
  have dw : D = W := ez.1.2.2.2.2.2.2.1.1
  have hW : W ≤ 24 := i.2.1.2.1
  obtain ⟨G, y1, y2, ⟨s1, s2, s3, cy⟩, y4, y5, ry, -⟩ := ez.2
  have hD : gi M L 1 = nI W := by rw [i.1.2.1, dw]
  have key : ∀ r, r = mSays M W v w → CI mM_says [.ref 6027, .int v, .int w] M (fun s O => Z r s O) := fun r e => tM_says i.2.1.1 (h _ _ M i1 e)
  refine call_of rfl (Nat.le_of_ble_eq_true rfl) rfl (vC_says_0 rfl (lC_isWord c hD hW (fun q => vC_says_5 ⟨fun _ => key _ ?_, fun q => absurd rfl q⟩) (fun k hk ek => vC_says_5 ⟨fun q => absurd q (by decide), fun _ => sC_isCase (fun q => vC_says_12 rfl (cx4 c) ⟨fun q => absurd rfl q, fun _ => key _ ?_⟩) (fun x hx ex => vC_says_12 rfl (cx4 c) ⟨fun _ => ?_, fun q => absurd q (by decide)⟩)⟩)))
  · rw [mSays, nW q, Bool.false_and, if_neg (by decide)]
  · rw [mSays, nC q, Bool.and_false, if_neg (by decide)]
  · subst ek ex
    refine sLi_saying (cxlr c) hx (vC_says_26 (key _ ?_))
    rw [mSays, yW (by omega) hk, yC hx, if_pos (by decide), ncl (by omega)]
    exact say_eq hk hW hx cy ry
end EQW
