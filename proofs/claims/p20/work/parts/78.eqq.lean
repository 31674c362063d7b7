/-! ===== the class's settling: what it leaves ===== -/
def FX (r : Nat) (M N : Mm) : Prop := ST r M N ∧ ∀ a, (a = r ∨ a = r + 205 ∨ a = r + 269 ∨ a = r + 460 ∨ a = r + 524) → gi N a = gi M a
theorem fx_rf (r : Nat) (M : Mm) : FX r M M := ⟨st_rf r M, fun _ _ => rfl⟩
theorem fx_tr {r : Nat} {M N O : Mm} (f : FX r M N) (g : FX r N O) : FX r M O := ⟨st_tr f.1 g.1, fun a h => (g.2 a h).trans (f.2 a h)⟩
theorem fx_si {r x j : Nat} {M : Mm} {v : Int32} (h : ox r x j) (n : ¬ (x = r ∨ x = r + 205 ∨ x = r + 269 ∨ x = r + 460 ∨ x = r + 524)) : FX r M (si M x j v) := ⟨st_si h, fun a ha => gi_ne (fun e => n (e ▸ ha))⟩
theorem fx_fl {r x n : Nat} {M : Mm} {v : Int32} (h : r < x ∧ x < r + 776) (h2 : x ≠ r + 140) (h3 : ¬ (x = r ∨ x = r + 205 ∨ x = r + 269 ∨ x = r + 460 ∨ x = r + 524)) : FX r M (fl M x n v) := by
  refine ⟨st_fl h h2, fun a ha => ?_⟩
  funext k
  have ne : a ≠ x := fun e => h3 (by rw [← e]; exact ha)
  rw [flR _ _ _ _ _ _ ne]
section EQQ
variable {M : Mm} {r D : Nat}
theorem fS_weighAll {K : Mm → Prop} (l : LD M r D) (h : ∀ N, FX r M N → K N) : CV mLi_weighAll [.ref r] M K := by
  have hl := l.1
  have hD := l.2.2.1
  refine call_of rfl (Nat.le_of_ble_eq_true rfl) rfl (vLi_weighAll_0 hl.1 (lr9 hl) (sJr_fill (lrk hl 590 15 rfl (by decide)) ak_15 (by decide) (vLi_weighAll_8 ?_)))
  refine lp D (P := fun i => ∀ N, FX r M N → X mLi_weighAll 10 [(0, .ref r), (1, .int (nI i))] [] N (mC mLi_weighAll, mS mLi_weighAll) (QV K)) (fun i hi ih N sN => ?_) (fun N sN => ?_) _ (fx_fl (by omega) (by omega) (by omega))
  · have lN := ld_st sN.1 l
    refine vLi_weighAll_10 hl.1 ⟨fun q => absurd q (ld_le lN hi), fun _ => lS_weightOf lN hi (fun v => vLi_weighAll_23 hl.1 (lr0 lN.1) (lr9 lN.1) ⟨ld_v lN hi, r + 776 + 64 * i, ld_gw lN (by omega), fun q => ?_, fun q => ?_, fun q => ⟨?_, ?_⟩⟩)⟩
    · obtain ⟨k, hk, ek⟩ := rng (c := 7) (n := 7) rfl (by decide) q.1 q.2
      rw [ek]; exact vin hk (by decide)
    · rw [nI_s]; exact ih _ (fx_tr sN (fx_si ⟨by omega, by omega, by omega, by omega⟩ (by omega)))
    · obtain ⟨k, hk, ek⟩ := rng (c := 7) (n := 7) rfl (by decide) q.1 q.2
      rw [ek]; exact vin hk (by decide)
    · rw [nI_s]; exact ih _ (fx_tr sN (fx_tr (fx_si ⟨by omega, by omega, by omega, by omega⟩ (by omega)) (fx_si ⟨by omega, by omega, by omega, by omega⟩ (by omega))))
  · have lN := ld_st sN.1 l
    exact vLi_weighAll_10 hl.1 ⟨fun _ => h N sN, fun q => absurd (ld_se lN) q⟩
theorem fS_askLaws {K : Mm → Prop} (l : LD M r D) (h : ∀ N, FX r M N → K N) : CV mLi_askLaws [.ref r] M K := by
  have hl := l.1
  refine call_of rfl (Nat.le_of_ble_eq_true rfl) rfl (vLi_askLaws_0 ?_)
  refine lp 64 (P := fun c => ∀ N, FX r M N → X mLi_askLaws 2 [(0, .ref r), (1, .int (nI c))] [] N (mC mLi_askLaws, mS mLi_askLaws) (QV K)) (fun c hc ih N sN => ?_) (fun N sN => ?_) _ (fx_rf r M)
  · have lN := ld_st sN.1 l
    refine vLi_askLaws_2 hl.1 (lr5 lN.1) ⟨fun q => absurd q (nge rfl (by decide) hc), fun _ => lS_lawSaying lN hc (fun v => vLi_askLaws_19 (lrk hl 333 14 rfl (by decide)) hl.1 (lr6 lN.1) ⟨vin hc (by decide), ?_⟩)⟩
    have s1 : FX r M (si N (r + 333) (nI c).toNatClampNeg v) := fx_tr sN (fx_si ⟨by omega, by omega, by omega, by omega⟩ (by omega))
    refine lS_lawSaying (ld_st s1.1 l) hc (fun v2 => vLi_askLaws_31 (lrk hl 397 14 rfl (by decide)) ⟨vin hc (by decide), ?_⟩)
    rw [nI_s]
    exact ih _ (fx_tr s1 (fx_si ⟨by omega, by omega, by omega, by omega⟩ (by omega)))
  · exact vLi_askLaws_2 hl.1 (lr5 (ld_st sN.1 l).1) ⟨fun _ => h N sN, fun q => absurd (nself rfl) q⟩
/-- the words that are in a ring; that are unsound -/
def ring (g : Nat → Nat → Int32) (D : Nat) : Int32 := rg (wlr (fowg g) D) D
def unsd (g : Nat → Nat → Int32) (D : Nat) : Int32 := ug (wlr (fowg g) D) (ring g D) D
def said (g : Nat → Nat → Int32) (D : Nat) : SQ := spR g (unsd g D) sq0 D D
/-- a library, settled -/
def SE (N : Mm) (r : Nat) (g : Nat → Nat → Int32) (D : Nat) : Prop := SW N r g D ∧ gi N r 12 = ring g D ∧ gi N r 13 = unsd g D ∧ CY N r (said g D).2.1 (said g D).2.2
theorem sw_cg {N O : Mm} {g g' : Nat → Nat → Int32} (e : ∀ a, (a = r ∨ a = r + 460 ∨ a = r + 524) → ∀ k, k ≠ 12 → k ≠ 13 → gi O a k = gi N a k) (hg : ∀ w, w < D → ∀ i, i < 7 → g w i = g' w i) (h : SW N r g D) : SW O r g' D := by
  obtain ⟨h1, h2, h3, h4⟩ := h
  refine ⟨fun d hd v hv => ?_, fun b hb v hv => ?_, fun v hv => ?_, fun v hv => ?_⟩
  · rw [e _ (by omega) d (by omega) (by omega), h1 d hd v hv]
    exact ⟨fun z => ⟨z.1, by rw [← hg v z.1 1 (by decide)]; exact z.2⟩, fun z => ⟨z.1, by rw [hg v z.1 1 (by decide)]; exact z.2⟩⟩
  · rw [e _ (by omega) b (by omega) (by omega), h2 b hb v hv]
    exact ⟨fun z => ⟨z.1, by rw [← hg v z.1 2 (by decide)]; exact z.2⟩, fun z => ⟨z.1, by rw [hg v z.1 2 (by decide)]; exact z.2⟩⟩
  · rw [e r (by omega) 10 (by decide) (by decide), h3 v hv]
    exact ⟨fun z => ⟨z.1, by rw [← hg v z.1 0 (by decide)]; exact z.2⟩, fun z => ⟨z.1, by rw [hg v z.1 0 (by decide)]; exact z.2⟩⟩
  · rw [e r (by omega) 11 (by decide) (by decide), h4 v hv]
    exact ⟨fun z => ⟨z.1, by rw [← hg v z.1 0 (by decide)]; exact z.2⟩, fun z => ⟨z.1, by rw [hg v z.1 0 (by decide)]; exact z.2⟩⟩
end EQQ
