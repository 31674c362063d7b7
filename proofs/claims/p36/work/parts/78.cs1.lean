/-! ===== a library of any words is settled: nothing but its own rows changes ===== -/
def ST (r : Nat) (M N : Mm) : Prop := gr N = gr M ∧ gl N = gl M ∧ gi N r 1 = gi M r 1 ∧ (∀ w, w < 24 → ∀ i, i < 9 → gi N (r + 776 + 64 * w) i = gi M (r + 776 + 64 * w) i) ∧ (∀ a, ¬ (r ≤ a ∧ a < r + 2304) → gi N a = gi M a) ∧ gi N (r + 140) = gi M (r + 140)
theorem st_tr {r : Nat} {M N O : Mm} (f : ST r M N) (g : ST r N O) : ST r M O := ⟨g.1.trans f.1, g.2.1.trans f.2.1, g.2.2.1.trans f.2.2.1, fun w hw i hi => (g.2.2.2.1 w hw i hi).trans (f.2.2.2.1 w hw i hi), fun a h => (g.2.2.2.2.1 a h).trans (f.2.2.2.2.1 a h), g.2.2.2.2.2.trans f.2.2.2.2.2⟩
/-- a row of the library's own -/
def ox (r x j : Nat) : Prop := (r ≤ x ∧ x < r + 2304) ∧ ¬ (x = r ∧ j = 1) ∧ x ≠ r + 140 ∧ (x < r + 776 ∨ 9 ≤ j)
theorem st_si {r x j : Nat} {M : Mm} {v : Int32} (h : ox r x j) : ST r M (si M x j v) := by
  obtain ⟨h1, h2, h3, h4⟩ := h
  refine ⟨rfl, rfl, ?_, fun w hw i hi => ?_, fun a ha => gi_ne (fun e => ha (by omega)), gi_ne (Ne.symm h3)⟩
  · rw [gi_si, if_neg (fun e => h2 (by omega))]
  · rw [gi_si, if_neg (fun e => by omega)]
theorem st_fl {r x n : Nat} {M : Mm} {v : Int32} (h : r < x ∧ x < r + 776) (h2 : x ≠ r + 140) : ST r M (fl M x n v) := by
  refine ⟨rfl, rfl, ?_, fun w hw i hi => ?_, fun a ha => ?_, ?_⟩
  · rw [flR _ _ _ _ _ _ (by omega)]
  · rw [flR _ _ _ _ _ _ (by omega)]
  · funext k; rw [flR _ _ _ _ _ _ (by omega)]
  · funext k; rw [flR _ _ _ _ _ _ (Ne.symm h2)]
theorem ld_st {r D : Nat} {M N : Mm} (f : ST r M N) (l : LD M r D) : LD N r D := by
  obtain ⟨k1, k2, k3, k4⟩ := l
  refine ⟨lr_gr k1 f.1, f.2.2.1.trans k2, k3, fun w hw => ?_⟩
  have e : ∀ i, i < 9 → gi N (r + 776 + 64 * w) i = gi M (r + 776 + 64 * w) i := f.2.2.2.1 w (by omega)
  unfold WK
  rw [e 1 (by decide), e 2 (by decide), e 3 (by decide), e 6 (by decide)]
  exact k4 w hw
section CS1
variable {M : Mm} {r D : Nat}
theorem ld_le (l : LD M r D) {i : Nat} (hi : i < D) : ¬ gi M r 1 ≤ nI i := by have := l.2.2.1; rw [l.2.1]; exact nge rfl (by omega) hi
theorem ld_se (l : LD M r D) : gi M r 1 ≤ nI D := by rw [l.2.1]; exact Int32.le_refl _
theorem ld_gw (l : LD M r D) {i : Nat} (hi : i < 24) : gr M (r + 81) (nI i).toNatClampNeg = some (r + 776 + 64 * i) := by rw [ncl (by omega)]; exact l.1.2.2 i hi
theorem ld_v (l : LD M r D) {i : Nat} (hi : i < D) : vp_in (nI i) 24 := by have := l.2.2.1; exact vin (by omega) (by decide)
theorem wkk (l : LD M r D) (w : Nat) : (r + 776 + 64 * w) % 64 = 9 := by have := l.1.1; omega
def sav (M : Mm) (r : Nat) (w : Int32) (c : Nat) : Int32 := if ((ushr (gi M (r + 205) c) w) &&& 1) = 1 then 1 else if ((ushr (gi M (r + 269) c) w) &&& 1) = 1 then 0 else -4
theorem sLi_saying {w : Int32} {c : Nat} {K : Int32 → Mm → Prop} (hl : LR M r) (hc : c < 64) (h : K (sav M r w c) M) : CI mLi_saying [.ref r, .int w, .int (nI c)] M K := by
  have cc : (nI c).toNatClampNeg = c := ncl (by omega)
  unfold sav at h
  refine call_of rfl (Nat.le_of_ble_eq_true rfl) rfl (vLi_saying_0 hl.1 (lr3 hl) (lr4 hl) ⟨vin hc (by decide), fun _ => vin hc (by decide), fun q => ?_, fun q => ?_, fun q => ?_⟩)
  · rw [cc] at q
    rw [if_neg q.1, if_neg q.2] at h; exact h
  · rw [cc] at q
    rw [if_neg q.1, if_pos q.2] at h; exact h
  · rw [cc] at q
    rw [if_pos q] at h; exact h
theorem lS_weightOf {w : Nat} {K : Int32 → Mm → Prop} (l : LD M r D) (hw : w < D) (h : ∀ v, K v M) : CI mLi_weightOf [.ref r, .int (nI w)] M K := by
  have hl := l.1
  have hD := l.2.2.1
  have b65 : ∀ v, v < D → X mLi_weightOf 65 [(0, .ref r), (2, .int (nI v))] [] M (mC mLi_weightOf, mS mLi_weightOf) (QI K) := by
    intro v hv
    exact vLi_weightOf_65 hl.1 (lr0 hl) ⟨ld_v l hv, r + 776 + 64 * v, ld_gw l (by omega), sJi_bitCount (fun x _ => vLi_weightOf_77 hl.1 (lr0 hl) ⟨ld_v l hv, r + 776 + 64 * v, ld_gw l (by omega), sJi_bitCount (fun y _ => vLi_weightOf_89 (h _))⟩)⟩
  have b25 : X mLi_weightOf 25 [(0, .ref r), (1, .int (nI w))] [] M (mC mLi_weightOf, mS mLi_weightOf) (QI K) := by
    refine vLi_weightOf_25 ?_
    refine lp D (P := fun i => ∀ v, v < D → X mLi_weightOf 29 [(0, .ref r), (2, .int (nI v)), (3, .int (nI i))] [] M (mC mLi_weightOf, mS mLi_weightOf) (QI K)) (fun i hi ih v hv => ?_) (fun v hv => ?_) w hw
    · obtain ⟨-, -, -, hf⟩ := l.2.2.2 v hv
      refine vLi_weightOf_29 hl.1 (lr0 hl) ⟨fun q => absurd q (ld_le l hi), fun _ => ⟨ld_v l hv, r + 776 + 64 * v, ld_gw l (by omega), fun _ => b65 v hv, fun q => ⟨ld_v l hv, r + 776 + 64 * v, ld_gw l (by omega), ?_⟩⟩⟩
      obtain ⟨f, hf, ef⟩ := hf.resolve_left q
      rw [ef, nI_s]
      exact ih f hf
    · exact vLi_weightOf_29 hl.1 (lr0 hl) ⟨fun _ => b65 v hv, fun q => absurd (ld_se l) q⟩
  exact call_of rfl (Nat.le_of_ble_eq_true rfl) rfl (vLi_weightOf_0 hl.1 (lr0 hl) ⟨ld_v l hw, r + 776 + 64 * w, ld_gw l (by omega), fun _ => b25, fun _ => sC_holds (vLi_weightOf_20 ⟨fun _ => b25, fun _ => h _⟩)⟩)
end CS1
