/-! ===== the class's settling: all that it leaves ===== -/
/-- weights, laws, steps of a library that is settled -/
def WL (N : Mm) (r : Nat) (g : Nat → Nat → Int32) (D : Nat) : Prop := D ≤ 24 ∧ WT N r g (unsd g D) D ∧ (∀ c, c < 64 → gi N (r + 333) c = lsV g (said g D).2.1 (said g D).2.2 true c D ∧ gi N (r + 397) c = lsV g (said g D).2.1 (said g D).2.2 false c D) ∧ ∀ w, w < D → (bt (unsd g D) w = true → gi N (r + 776 + 64 * w) 10 = -4) ∧ (bt (unsd g D) w = false → (∃ k, k < 7 ∧ wgv g w = nI k) ∧ ∃ n, n < D ∧ chs g n w ∧ gi N (r + 776 + 64 * w) 10 = nI n)
theorem said_x (g : Nat → Nat → Int32) {D : Nat} (hD : D ≤ 24) (v c : Nat) : ¬ ((said g D).2.1 v c = true ∧ (said g D).2.2 v c = true) := (si_spR (g := g) (u := unsd g D) (W := D) (by omega) si_0 D).2 v c
theorem wl_eq {M N : Mm} {r D : Nat} {g : Nat → Nat → Int32} (h : ∀ a, (r ≤ a ∧ a < r + 2304 ∧ a ≠ r + 140) → gi N a = gi M a) (w : WL M r g D) : WL N r g D := by
  obtain ⟨w0, w1, w2, w3⟩ := w
  refine ⟨w0, fun k hk v hv => ?_, fun c hc => ?_, fun x hx => ?_⟩
  · rw [h (r + 590) (by omega)]; exact w1 k hk v hv
  · rw [h (r + 333) (by omega), h (r + 397) (by omega)]; exact w2 c hc
  · rw [h (r + 776 + 64 * x) (by omega)]; exact w3 x hx
section ES5
variable {M : Mm} {r D : Nat}
theorem eS_settle {K : Mm → Prop} {g : Nat → Nat → Int32} (l : LD M r D) (eg : ∀ w, w < D → ∀ i, i < 7 → gi M (r + 776 + 64 * w) i = g w i) (ed : ∀ w, w < D → gi M (r + 776 + 64 * w) 8 = g w 7) (z10 : ∀ w, w < D → gi M (r + 776 + 64 * w) 10 = 0) (rf : ∀ w, w < D → RF g w) (rs : ∀ w, w < D → RS6 g D w) (md : ∀ w, w < D → MD g w) (h : ∀ N, ST r M N → SE N r g D → WL N r g D → K N) : CV mLi_settle [.ref r] M K := by
  have hl := l.1
  have hD := l.2.2.1
  have egN : ∀ {N}, ST r M N → ∀ w, w < D → ∀ i, i < 7 → gi N (r + 776 + 64 * w) i = g w i := fun s w hw i hi => by rw [s.2.2.2.1 w (by omega) i (by omega)]; exact eg w hw i hi
  have edN : ∀ {N}, ST r M N → ∀ w, w < D → gi N (r + 776 + 64 * w) 8 = g w 7 := fun s w hw => by rw [s.2.2.2.1 w (by omega) 8 (by omega)]; exact ed w hw
  have r6 : ∀ w, w < D → g w 6 = -4 ∨ ∃ f, f < D ∧ g w 6 = nI f := fun w hw => by
    rcases (rs w hw).1 with z | ⟨-, f, hf, -, e⟩
    · exact Or.inl z.2
    · exact Or.inr ⟨f, hf, e⟩
  refine call_of rfl (Nat.le_of_ble_eq_true rfl) rfl (vLi_settle_0 hl.1 (eS_sortWords l (fun N1 s1 w1 z1 => vLi_settle_4 hl.1 ?_)))
  have w1' : SW N1 r g D := sw_cg (fun a _ k _ _ => rfl) (fun w hw i hi => eg w hw i hi) w1
  refine eS_findFollowed (ld_st s1 l) w1' (egN s1) rf (fun N2 f2 w2 => vLi_settle_8 hl.1 ?_)
  have s2 := st_tr s1 (f2_st f2)
  have w2' : SW N2 r g D := sw_cg (fun a ha k _ _ => by rw [f2.2.2 a (by omega) (by omega)]) (fun _ _ _ _ => rfl) w1'
  refine eS_findRings (R := fowg g) (ld_st s2 l) (fun w hw => (w2 w hw).2) (fun N3 f3 _ e12 e13 => vLi_settle_12 hl.1 ?_)
  have s3 := st_tr s2 (f3_st f3)
  have w3' : SW N3 r g D := sw_cg (fun a ha k k1 k2 => by
    by_cases e : a = r
    · rw [e]; exact f3.2.2.2 k k1 k2
    · rw [f3.2.2.1 a e (by omega)]) (fun _ _ _ _ => rfl) w2'
  have z3 : ∀ w, w < D → gi N3 (r + 776 + 64 * w) 10 = 0 := fun w hw => by
    rw [f3.2.2.1 _ (by omega) (by omega), f2.2.2 _ (by omega) (by omega), z1 w (by omega)]; exact z10 w hw
  refine eS_speakInOrder (g := g) (u := unsd g D) (ld_st s3 l) e13 (fun w hw => by rw [f3.2.2.1 _ (by omega) (by omega)]; exact (w2 w hw).1) (egN s3) rs (fun w hw z v hv e => us_of hD hw z hv e) z3 (fun N4 f4 c4 t4 => vLi_settle_16 hl.1 ?_)
  have s4 := st_tr s3 (f5_st f4)
  have e4 : ∀ a, (a = r ∨ a = r + 460 ∨ a = r + 524) → gi N4 a = gi N3 a := fun a ha => f4.2.2.1 a (by omega) (by omega) (fun w hw => by omega)
  have u4 : gi N4 r 13 = unsd g D := by rw [e4 r (by omega)]; exact e13
  refine eS_weighAll (g := g) (u := unsd g D) (ld_st s4 l) (egN s4) u4 (fun w hw z => chs_ex hD rs hw z) (fun w hw z => ?_) (fun N5 f5 t5 => vLi_settle_20 hl.1 ?_)
  · exact md_w (md _ (eng_cg hD (fun _ _ => rfl) r6 25 w hw).2)
  have s5 := st_tr s4 (f6_st f5)
  have g5 : ∀ a, (a = r ∨ a = r + 205 ∨ a = r + 269 ∨ a = r + 460 ∨ a = r + 524) → gi N5 a = gi N4 a := fun a ha => f5.2.2.1 a (by omega) (fun w hw => by omega)
  have c5 : CY N5 r (said g D).2.1 (said g D).2.2 := fun c hc v hv => by
    rw [g5 (r + 205) (by omega), g5 (r + 269) (by omega)]; exact c4 c hc v hv
  have w5 : SW N5 r g D := sw_cg (fun a ha k _ _ => by rw [g5 a (by omega), e4 a ha]) (fun _ _ _ _ => rfl) w3'
  refine eS_askLaws (g := g) (ld_st s5 l) (fun w hw _ => edN s5 w hw) w5.2.2.1 c5 (said_x g hD) (fun N6 f6 q6 => vLi_settle_24 (h N6 (st_tr s5 (f7_st f6)) ⟨?_, ?_, ?_, ?_⟩ ⟨hD, ?_, q6, fun w hw => ?_⟩))
  · exact sw_cg (fun a ha k _ _ => by rw [f6.2.2 a (by omega) (by omega)]) (fun _ _ _ _ => rfl) w5
  · rw [f6.2.2 r (by omega) (by omega), g5 r (by omega), e4 r (by omega)]; exact e12
  · rw [f6.2.2 r (by omega) (by omega), g5 r (by omega)]; exact u4
  · intro c hc v hv
    rw [f6.2.2 (r + 205) (by omega) (by omega), f6.2.2 (r + 269) (by omega) (by omega)]
    exact c5 c hc v hv
  · intro k hk v hv
    rw [f6.2.2 (r + 590) (by omega) (by omega)]; exact t5 k hk v hv
  · have e : gi N6 (r + 776 + 64 * w) 10 = gi N4 (r + 776 + 64 * w) 10 := by
      rw [f6.2.2 _ (by omega) (by omega), f5.2.2.2 w (by omega) 10 (by decide)]
    rw [e]
    refine ⟨(t4 w hw).1, fun z => ?_⟩
    obtain ⟨n, a, b⟩ := (t4 w hw).2 z (said_all hD rs hw z)
    obtain ⟨m, hm, c⟩ := chs_ex hD rs hw z
    have : n = m := chs_u n m w a c
    exact ⟨md_w (md _ (eng_cg hD (fun _ _ => rfl) r6 25 w hw).2), n, by omega, a, b⟩
end ES5
