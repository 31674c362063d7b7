/-! ===== pairs of calls that change what both stand on ===== -/
section PR2
variable {M : Mm}
theorem pr_fault {Z : Int32 → Int32 → Mm → Prop} (i0 : INV M) (h : ∀ r s N, INV N → Z r s N) : CI mC_fault [.ref 10] M (fun r N => CI mM_fault [.ref 6027] N (fun s O => Z r s O)) :=
  lC_fault (tM_fault (h _ _ M i0))
theorem pr_bring {b : Int32} {Z : Int32 → Int32 → Mm → Prop} (i0 : INV M) (h : ∀ r s N, INV N → Z r s N) : CI mC_bring [.ref 10, .int b] M (fun r N => CI mM_bring [.ref 6027, .int b] N (fun s O => Z r s O)) := by
  obtain ⟨L, P, R, S, U, D, W, t, i⟩ := i0
  have key : ∀ N r, IV N L P R S U D W t → CI mM_bring [.ref 6027, .int b] N (fun s O => Z r s O) := by
    intro N r iN
    refine tM_bring (h r _ _ ⟨L, P, R, S, U, D, W, t, ?_⟩)
    by_cases q : ¬ b < 0 ∧ ¬ 255 < b
    · rw [if_pos q]
      obtain ⟨i1, i2, i3, i4⟩ := iN
      have g : ∀ a, a ≠ 6027 → gi (si N 6027 9 b) a = gi N a := fun a n => gi_ne n
      exact ⟨cp_eq i1 (fun _ _ _ _ => rfl) (fun a ha => g a (by omega)), mp_eq i2 (fun _ => rfl) (g _ (by decide)) (g6 _ _ _ _ (by decide)) (g6 _ _ _ _ (by decide)) (by rw [g _ (by decide)]) (by rw [g _ (by decide)]), ja_eq i3 (g _ (by decide)) (g _ (by decide)) (g6 _ _ _ _ (by decide)) (g _ (by decide)), js_eq i4 (fun e he => g _ (by unfold sa; omega)) (fun e he => g _ (by omega)) (g _ (by decide)) (g _ (by decide)) (g _ (by decide))⟩
    · rw [if_neg q]; exact iN
  refine lC_bring (key M _ i) (key _ _ ?_)
  obtain ⟨i1, i2, i3, i4⟩ := i
  have g : ∀ a, a ≠ 10 → gi (si M 10 9 b) a = gi M a := fun a n => gi_ne n
  exact ⟨cp_eq i1 (fun _ _ _ _ => rfl) (fun a ha => g a (by omega)), mp_eq i2 (fun _ => rfl) (g _ (by decide)) (by rw [g _ (by decide)]) (by rw [g _ (by decide)]) (by rw [g _ (by decide)]) (by rw [g _ (by decide)]), ja_eq i3 (g _ (by decide)) (g _ (by decide)) (by rw [g _ (by decide)]) (g _ (by decide)), js_eq i4 (fun e he => g _ (by unfold sa; omega)) (fun e he => g _ (by omega)) (g _ (by decide)) (g _ (by decide)) (g _ (by decide))⟩
theorem pr_copies {b n : Int32} {Z : Int32 → Int32 → Mm → Prop} (i0 : INV M) (h : ∀ r s N, INV N → Z r s N) : CI mC_copies [.ref 10, .int b, .int n] M (fun r N => CI mM_copies [.ref 6027, .int b, .int n] N (fun s O => Z r s O)) := by
  obtain ⟨L, P, R, S, U, D, W, t, i⟩ := i0
  have key : ∀ N r, IV N L P R S U D W t → CI mM_copies [.ref 6027, .int b, .int n] N (fun s O => Z r s O) := by
    intro N r iN
    refine tM_copies iN.2.1.1.1 (fun _ => h r _ N ⟨L, P, R, S, U, D, W, t, iN⟩) (fun k hk _ _ _ => h r _ _ ⟨L, P, R, S, U, D, W, t, ?_⟩)
    obtain ⟨i1, i2, i3, i4⟩ := iN
    have g : ∀ a, a ≠ 6157 → gi (si N 6157 k n) a = gi N a := fun a n => gi_ne n
    exact ⟨cp_eq i1 (fun _ _ _ _ => rfl) (fun a ha => g a (by omega)), mp_eq i2 (fun _ => rfl) (g _ (by decide)) (by rw [g _ (by decide)]) (by rw [g _ (by decide)]) (by rw [g _ (by decide)]) (by rw [g _ (by decide)]), ja_eq i3 (g _ (by decide)) (g _ (by decide)) (by rw [g _ (by decide)]) (g _ (by decide)), js_eq i4 (fun e he => g _ (by unfold sa; omega)) (fun e he => g _ (by omega)) (g _ (by decide)) (g _ (by decide)) (g _ (by decide))⟩
  refine lC_copies i.1.1 (key M _ i) (fun r k hk _ => key _ _ ?_)
  have hL := cxL i.1.1
  obtain ⟨i1, i2, i3, i4⟩ := i
  have g : ∀ a, a ≠ L + 140 → gi (si M (L + 140) k n) a = gi M a := fun a n => gi_ne n
  unfold LA at hL
  exact ⟨cp_eq i1 (fun _ _ _ _ => rfl) (fun a ha => g a (by omega)), mp_eq i2 (fun _ => rfl) (g _ (by omega)) (by rw [g _ (by omega)]) (by rw [g _ (by omega)]) (by rw [g _ (by omega)]) (by rw [g _ (by omega)]), ja_eq i3 (g _ (by omega)) (g _ (by omega)) (by rw [g _ (by omega)]) (g _ (by omega)), js_eq i4 (fun e he => g _ (by unfold sa; omega)) (fun e he => g _ (by omega)) (g _ (by omega)) (g _ (by omega)) (g _ (by omega))⟩
theorem rn_of {L P R S U D : Nat} (c : CP M L P R S U D) {X : Nat} (h : RA X) : RN M X := by
  unfold RA at h
  rcases h with rfl | rfl | rfl
  · exact c.2.2.2.1
  · exact c.2.2.2.2.1
  · exact c.2.2.2.2.2
theorem pr_keep {Z : Int32 → Int32 → Mm → Prop} (i0 : INV M) (h : ∀ r s N, INV N → r = s → Z r s N) : CI mC_keep [.ref 10] M (fun r N => CI mM_keep [.ref 6027] N (fun s O => Z r s O)) := by
  obtain ⟨L, P, R, S, U, D, W, t, i⟩ := i0
  refine lC_keep i.1.1 (rn_of i.1 (cxR i.1.1)) (fun N pN rN eN => ?_)
  have hS : RA S := i.1.1.2.2.1.2.2.2.1
  have g : ∀ a, a ≠ 199 → a ≠ S → gi N a = gi M a := pN.2.2
  have hL := cxL i.1.1
  have iN : IV N L P R S U D W t := by
    obtain ⟨i1, i2, i3, i4⟩ := i
    have hS' := hS
    unfold RA at hS'
    unfold LA at hL
    refine ⟨?_, mp_eq i2 (fun _ => by rw [pN.1]) (g _ (by decide) (by omega)) (by rw [g _ (by decide) (by omega)]) (by rw [g _ (by decide) (by omega)]) (by rw [g _ (by decide) (by omega)]) (by rw [g _ (by decide) (by omega)]), ja_eq i3 (g _ (by decide) (by omega)) (g _ (by decide) (by omega)) (by rw [g _ (by decide) (by omega)]) (g _ (by decide) (by omega)), js_eq i4 (fun e he => g _ (by unfold sa; omega) (by unfold sa; omega)) (fun e he => g _ (by omega) (by omega)) (g _ (by decide) (by omega)) (g _ (by decide) (by omega)) (g _ (by decide) (by omega))⟩
    have rr : ∀ X, RA X → RN N X := by
      intro X hX
      by_cases e : X = S
      · rw [e]; exact rN
      · unfold RN
        rw [g X (by unfold RA at hX; omega) e]
        exact rn_of i1 hX
    obtain ⟨c1, c2, c3, -⟩ := i1
    refine ⟨cx_gr c1 (fun a j _ => by rw [pN.1]), ?_, c3, rr _ (Or.inl rfl), rr _ (Or.inr (Or.inl rfl)), rr _ (Or.inr (Or.inr rfl))⟩
    rw [g L (by omega) (by omega)]; exact c2
  refine tM_keep iN.2.1.1.1 (fun O kO => h _ _ O ⟨L, P, R, S, U, D, W, t, ?_⟩ rfl)
  obtain ⟨i1, i2, i3, i4⟩ := iN
  have g2 : ∀ a, a ≠ 6607 → gi O a = gi N a := kO.2.2.1
  refine ⟨cp_eq i1 (fun _ _ _ _ => by rw [kO.1]) (fun a ha => g2 a (by omega)), ⟨jw_eq i2.1 (fun _ => by rw [kO.1]) (g2 _ (by decide)) (by rw [g2 _ (by decide)]) (by rw [g2 _ (by decide)]), i2.2.1, ?_, ?_, ?_⟩, ja_eq i3 (g2 _ (by decide)) (g2 _ (by decide)) (by rw [g2 _ (by decide)]) (g2 _ (by decide)), js_eq i4 (fun e he => g2 _ (by unfold sa; omega)) (fun e he => g2 _ (by omega)) (g2 _ (by decide)) (g2 _ (by decide)) (g2 _ (by decide))⟩
  · unfold HD; rw [g2 _ (by decide)]; exact i2.2.2.1
  · unfold HO; rw [kO.2.2.2 4, if_pos (by decide)]; exact i2.2.2.1
  · unfold UM; rw [g2 _ (by decide)]; exact i2.2.2.2.2
theorem pr_swap {Z : Int32 → Int32 → Mm → Prop} (i0 : INV M) (h : ∀ r s N, INV N → r = s → Z r s N) : CI mC_swap [.ref 10] M (fun r N => CI mM_swap [.ref 6027] N (fun s O => Z r s O)) := by
  obtain ⟨L, P, R, S, U, D, W, t, i⟩ := i0
  refine lC_swap i.1.1 ?_
  have iN : IV (sr (sr M 10 6 (some S)) 10 7 (some R)) L P S R U D W t := by
    obtain ⟨i1, i2, i3, i4⟩ := i
    have gr' : ∀ a j, gr (sr (sr M 10 6 (some S)) 10 7 (some R)) a j = if a = 10 ∧ j = 7 then some R else if a = 10 ∧ j = 6 then some S else gr M a j := fun a j => by rw [gr_sr, gr_sr]
    have gn : ∀ a j, a ≠ 10 → gr (sr (sr M 10 6 (some S)) 10 7 (some R)) a j = gr M a j := fun a j n => by rw [gr', if_neg (fun e => n e.1), if_neg (fun e => n e.1)]
    obtain ⟨⟨x1, ⟨x2, x3, x4, x5, x6⟩, ⟨y1, y2, y3, y4, y5⟩, ⟨x8, x9⟩, ⟨z1, z2, z3, z4⟩⟩, c2⟩ := i1
    have lr : ∀ {L}, LA L → LR M L → LR (sr (sr M 10 6 (some S)) 10 7 (some R)) L := fun {L} hL h => by
      refine ⟨h.1, fun q hq => ?_, fun w hw => ?_⟩
      · rw [gn L q.1 (by unfold LA at hL; omega)]; exact h.2.1 q hq
      · rw [gn (L + 81) w (by omega)]; exact h.2.2 w hw
    have nq : ∀ q ∈ cgt, ¬ (q.1 = 10 ∧ q.2.1 = 7) ∧ ¬ (q.1 = 10 ∧ q.2.1 = 6) := by decide
    refine ⟨⟨⟨fun q hq => ?_, ⟨?_, ?_, ?_, ?_, ?_⟩, ⟨y1, y2, y4, y3, y5⟩, ⟨lr y1 x8, lr y2 x9⟩, ⟨z1, Ne.symm z2, z4, z3⟩⟩, c2⟩, mp_eq i2 (fun k => gn _ _ (by decide)) rfl rfl rfl rfl rfl, i3, i4⟩
    · rw [gr', if_neg (nq q hq).1, if_neg (nq q hq).2]; exact x1 q hq
    · rw [gr', if_neg (by decide), if_neg (by decide)]; exact x2
    · rw [gr', if_neg (by decide), if_neg (by decide)]; exact x3
    · rw [gr', if_neg (by decide), if_pos (by decide)]
    · rw [gr', if_pos (by decide)]
    · rw [gr', if_neg (by decide), if_neg (by decide)]; exact x6
  refine sM_swap iN.2.1.1.1 (fun O kO => h _ _ O ⟨L, P, S, R, U, D, W, t, ?_⟩ rfl)
  obtain ⟨i1, i2, i3, i4⟩ := iN
  have g2 := kO.2.2.1
  refine ⟨cp_eq i1 (fun _ _ _ _ => by rw [kO.1]) (fun a ha => g2 a (by omega) (by omega)), ⟨jw_eq i2.1 (fun _ => by rw [kO.1]) (g2 _ (by decide) (by decide)) (by rw [g2 _ (by decide) (by decide)]) (by rw [g2 _ (by decide) (by decide)]), i2.2.1, ?_, ?_, ?_⟩, ja_eq i3 (g2 _ (by decide) (by decide)) (g2 _ (by decide) (by decide)) (by rw [g2 _ (by decide) (by decide)]) (g2 _ (by decide) (by decide)), js_eq i4 (fun e he => g2 _ (by unfold sa; omega) (by unfold sa; omega)) (fun e he => g2 _ (by omega) (by omega)) (g2 _ (by decide) (by decide)) (g2 _ (by decide) (by decide)) (g2 _ (by decide) (by decide))⟩
  · unfold HD; rw [kO.2.2.2.1 4, if_pos (by decide)]; exact i2.2.2.2.1
  · unfold HO; rw [kO.2.2.2.2 4, if_pos (by decide)]; exact i2.2.2.1
  · unfold UM; rw [g2 _ (by decide) (by decide)]; exact i2.2.2.2.2
theorem pr_feed {v : Int64} {Z : Int32 → Int32 → Mm → Prop} (i0 : INV M) (h : ∀ r s N, INV N → r = s → Z r s N) : CI mC_feed [.ref 10, .long v] M (fun r N => CI mM_feed [.ref 6027, .long v] N (fun s O => Z r s O)) := by
  obtain ⟨L, P, R, S, U, D, W, t, i⟩ := i0
  have i' := i
  obtain ⟨i1, i2, i3, i4⟩ := i
  refine sC_feed i1.1 i3.1 i3.2.1 (fun l => ?_) (fun l N fN => ?_)
  · exact tM_feed i2.1.1 i3.2.2.1 i3.2.1 (fun _ => h _ _ M ⟨L, P, R, S, U, D, W, t, i'⟩ rfl) (fun l2 => absurd l2 (by omega))
  · have g : ∀ a, a ≠ 145 → a ≠ 70 → gi (si N 70 1 (nI (t + 8))) a = gi M a := fun a n1 n2 => by rw [gi_ne n2]; exact fN.2.2.1 a n1
    have gR : gr (si N 70 1 (nI (t + 8))) = gr M := fN.1
    have hL := cxL i1.1
    have c1 : CP (si N 70 1 (nI (t + 8))) L P R S U D := cp_eq i1 (fun _ _ _ _ => by rw [gR]) (fun a ha => g a (by omega) (by omega))
    have m1 : MP (si N 70 1 (nI (t + 8))) W := mp_eq i2 (fun _ => by rw [gR]) (g _ (by decide) (by decide)) (by rw [g _ (by decide) (by decide)]) (by rw [g _ (by decide) (by decide)]) (by rw [g _ (by decide) (by decide)]) (by rw [g _ (by decide) (by decide)])
    have s1 : JS (si N 70 1 (nI (t + 8))) := js_eq i4 (fun e he => g _ (by unfold sa; omega) (by unfold sa; omega)) (fun e he => g _ (by omega) (by omega)) (g _ (by decide) (by decide)) (g _ (by decide) (by decide)) (g _ (by decide) (by decide))
    refine tM_feed m1.1.1 (by rw [g _ (by decide) (by decide)]; exact i3.2.2.1) i3.2.1 (fun l2 => absurd l2 (by omega)) (fun _ O fO => h _ _ O ⟨L, P, R, S, U, D, W, t + 8, ?_⟩ rfl)
    have g2 : ∀ a, a ≠ 6486 → a ≠ 6027 → gi O a = gi (si N 70 1 (nI (t + 8))) a := fO.2.2.1
    have f2 : ∀ k, k ≠ 11 → gi O 6027 k = gi (si N 70 1 (nI (t + 8))) 6027 k := fun k n => by rw [fO.2.2.2.1 k, if_neg n]
    refine ⟨cp_eq c1 (fun _ _ _ _ => by rw [fO.1]) (fun a ha => g2 a (by omega) (by omega)), mp_eq m1 (fun _ => by rw [fO.1]) (g2 _ (by decide) (by decide)) (f2 _ (by decide)) (f2 _ (by decide)) (by rw [g2 _ (by decide) (by decide)]) (by rw [g2 _ (by decide) (by decide)]), ⟨?_, by omega, ?_, fun k hk => ?_⟩, js_eq s1 (fun e he => g2 _ (by unfold sa; omega) (by unfold sa; omega)) (fun e he => g2 _ (by omega) (by omega)) (g2 _ (by decide) (by decide)) (g2 _ (by decide) (by decide)) (g2 _ (by decide) (by decide))⟩
    · rw [g2 _ (by decide) (by decide), gi_si, if_pos ⟨rfl, rfl⟩]
    · rw [fO.2.2.2.1 11, if_pos rfl]
    · rw [g2 145 (by decide) (by decide), gi_ne (show (145 : Nat) ≠ 70 by decide), fN.2.2.2 k, fO.2.2.2.2 k, g 6486 (by decide) (by decide)]
      by_cases q : t ≤ k ∧ k < t + 8
      · rw [if_pos q, if_pos q]; exact by_feed v (by omega)
      · rw [if_neg q, if_neg q]; exact i3.2.2.2 k hk
theorem pr_end {n : Int32} {Z : Int32 → Int32 → Mm → Prop} (i0 : INV M) (h : ∀ r s N, INV N → r = s → Z r s N) : CI mC_end [.ref 10, .int n] M (fun r N => CI mM_end [.ref 6027, .int n] N (fun s O => Z r s O)) := by
  obtain ⟨L, P, R, S, U, D, W, t, i⟩ := i0
  have i' := i
  obtain ⟨i1, i2, i3, i4⟩ := i
  have ht := i3.2.1
  refine sC_end i1.1 (fun q => tM_end (fun _ => h _ _ M ⟨L, P, R, S, U, D, W, t, i'⟩ rfl) (fun q1 q2 => ?_)) (fun q1 q2 => ?_)
  · rw [i3.1] at q
    rw [i3.2.2.1] at q2
    rcases q with q | q
    · exact absurd q q1
    · exact absurd (Int32.not_lt.mp q2) q
  · rw [i3.1] at q2
    obtain ⟨m, hm, rfl⟩ := nI_of q1
    rw [nle (by omega) hm] at q2
    have g : ∀ a, a ≠ 70 → gi (si M 70 1 (nI m)) a = gi M a := fun a n2 => gi_ne n2
    have e11 : gi (si M 70 1 (nI m)) 6027 11 = nI t := by rw [g _ (by decide)]; exact i3.2.2.1
    refine tM_end (fun q => ?_) (fun _ _ => h _ _ _ ⟨L, P, R, S, U, D, W, m, ?_⟩ (by rw [i3.1, e11]))
    · exfalso
      rw [e11] at q
      rcases q with q | q
      · exact q1 q
      · rw [nlt (by omega) (by omega)] at q; omega
    · have g2 : ∀ a, a ≠ 70 → a ≠ 6027 → gi (si (si M 70 1 (nI m)) 6027 11 (nI m)) a = gi M a := fun a n1 n2 => by rw [gi_ne n2, gi_ne n1]
      have f2 : ∀ k, k ≠ 11 → gi (si (si M 70 1 (nI m)) 6027 11 (nI m)) 6027 k = gi M 6027 k := fun k n => by rw [g6 _ _ _ _ n, g _ (by decide)]
      refine ⟨cp_eq i1 (fun _ _ _ _ => rfl) (fun a ha => g2 a (by omega) (by omega)), mp_eq i2 (fun _ => rfl) (g2 _ (by decide) (by decide)) (f2 _ (by decide)) (f2 _ (by decide)) (by rw [g2 _ (by decide) (by decide)]) (by rw [g2 _ (by decide) (by decide)]), ⟨?_, by omega, g6s _ _ _, fun k hk => ?_⟩, js_eq i4 (fun e he => g2 _ (by unfold sa; omega) (by unfold sa; omega)) (fun e he => g2 _ (by omega) (by omega)) (g2 _ (by decide) (by decide)) (g2 _ (by decide) (by decide)) (g2 _ (by decide) (by decide))⟩
      · rw [gi_ne (by decide), gi_si, if_pos ⟨rfl, rfl⟩]
      · rw [g2 145 (by decide) (by decide), g2 6486 (by decide) (by decide)]; exact i3.2.2.2 k hk
end PR2
