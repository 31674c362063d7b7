/-! ===== pairs of calls that change what both stand on, with what was read the same ===== -/
section EQG
variable {M : Mm}
theorem px_fault {Z : Int32 → Int32 → Mm → Prop} (i0 : INX M) (h : ∀ r s N, INX N → r = s → Z r s N) : CI mC_fault [.ref 10] M (fun r N => CI mM_fault [.ref 6027] N (fun s O => Z r s O)) := by
  refine lC_fault (tM_fault (h _ _ M i0 ?_))
  obtain ⟨L, P, R, S, U, D, W, t, i, ex⟩ := i0
  exact ex.2.2.1
theorem px_weighs {v : Int32} {Z : Int32 → Int32 → Mm → Prop} (i0 : INX M) (h : ∀ r s N, INX N → r = s → Z r s N) : CI mC_weighs [.ref 10, .int v] M (fun r N => CI mM_weighs [.ref 6027, .int v] N (fun s O => Z r s O)) := by
  have i1 := i0
  obtain ⟨L, P, R, S, U, D, W, t, i, ex⟩ := i0
  have c := i.1.1
  have hm := i.2.1.1.1
  have rn := rn_of i.1 (cxR c)
  have e := ex.2.2.2.1
  have key : ∀ r, (∀ j, j < 7 → v = nI j → r = gi M 6543 j) → ((v < 0 ∨ 6 < v) → r = -1) → CI mM_weighs [.ref 6027, .int v] M (fun s O => Z r s O) := by
    intro r h1 h2
    refine call_of rfl (Nat.le_of_ble_eq_true rfl) rfl (vM_weighs_0 (sM_in (l := 0) (m := 6) rfl rfl (fun q => vM_weighs_9 rfl (mr18 hm) ⟨fun q => absurd rfl q, ?_⟩) (fun q1 q2 => ?_)))
    · rw [if_pos rfl]; exact h _ _ M i1 (h2 q)
    · obtain ⟨j, hj, ej⟩ := rngL (c := 6) (n := 6) rfl (by decide) q1 q2
      refine vM_weighs_9 rfl (mr18 hm) ⟨fun _ => by rw [ej]; exact vin hj (by decide), ?_⟩
      rw [if_neg (by decide)]
      refine h _ _ M i1 ?_
      rw [ej, ncl (by omega)]; exact h1 j hj ej
  have k7 : ∀ j, j < 7 → v = nI j → ∀ r, r = gi M 6543 j → CI mM_weighs [.ref 6027, .int v] M (fun s O => Z r s O) := by
    intro j hj ej r er
    refine key r (fun j' hj' ej' => ?_) (fun q => ?_)
    · have : j' = j := (ninj (by omega) (by omega)).mp (ej'.symm.trans ej)
      rw [this]; exact er
    · exfalso
      rw [ej] at q
      rcases q with q | q
      · exact n0 j (by omega) q
      · rw [show (6 : Int32) = nI 6 from rfl, nlt (by omega) (by omega)] at q; omega
  refine call_of rfl (Nat.le_of_ble_eq_true rfl) rfl (vC_weighs_0 rfl (cx6 c) ⟨fun q => k7 0 (by decide) q _ (e 0 (by decide)), fun q => k7 1 (by decide) q _ (e 1 (by decide)), fun q => k7 2 (by decide) q _ ?_, fun q => k7 3 (by decide) q _ (e 3 (by decide)), fun q => k7 4 (by decide) q _ (e 4 (by decide)), fun q => k7 5 (by decide) q _ (e 5 (by decide)), fun q => k7 6 (by decide) q _ (e 6 (by decide)), fun q => key _ (fun j hj ej => ?_) (fun _ => rfl)⟩)
  · rw [← e 2 (by decide)]
    rcases rn with z | z <;> rw [z] <;> decide
  · exfalso
    obtain ⟨q0, q1, q2, q3, q4, q5, q6⟩ := q
    match j, hj, ej with
    | 0, _, ej => exact q0 ej
    | 1, _, ej => exact q1 ej
    | 2, _, ej => exact q2 ej
    | 3, _, ej => exact q3 ej
    | 4, _, ej => exact q4 ej
    | 5, _, ej => exact q5 ej
    | 6, _, ej => exact q6 ej
theorem px_bring {b : Int32} {Z : Int32 → Int32 → Mm → Prop} (i0 : INX M) (h : ∀ r s N, INX N → r = s → Z r s N) : CI mC_bring [.ref 10, .int b] M (fun r N => CI mM_bring [.ref 6027, .int b] N (fun s O => Z r s O)) := by
  obtain ⟨L, P, R, S, U, D, W, t, i, ex⟩ := i0
  refine call_of rfl (Nat.le_of_ble_eq_true rfl) rfl (vC_bring_0 rfl ⟨fun q => ?_, fun q => ?_⟩)
  · have nq : ¬ (¬ b < 0 ∧ ¬ 255 < b) := fun p => by
      rcases q with q | q
      · exact p.1 q
      · exact q.2 (Int32.not_lt.mp p.2)
    refine tM_bring ?_
    rw [mBring, if_neg nq, if_neg nq]
    exact h _ _ M ⟨L, P, R, S, U, D, W, t, i, ex⟩ rfl
  · have pq : ¬ b < 0 ∧ ¬ 255 < b := ⟨q.1, Int32.not_lt.mpr q.2⟩
    refine tM_bring ?_
    rw [mBring, if_pos pq, if_pos pq]
    have g : ∀ a, a ≠ 10 → a ≠ 6027 → gi (si (si M 10 9 b) 6027 9 b) a = gi M a := fun a n1 n2 => by rw [gi_ne n2, gi_ne n1]
    have g1 : ∀ k, k ≠ 9 → gi (si (si M 10 9 b) 6027 9 b) 6027 k = gi M 6027 k := fun k n => by rw [g6 _ _ _ _ n, gi_ne (by decide)]
    refine h _ _ _ ⟨L, P, R, S, U, D, W, t, ?_, ?_⟩ (by rw [gi_ne (by decide)]; exact ex.2.1)
    · obtain ⟨i1, i2, i3, i4⟩ := i
      exact ⟨cp_eq i1 (fun _ _ _ _ => rfl) (fun a ha => g a (by omega) (by omega)), mp_eq i2 (fun _ => rfl) (g _ (by decide) (by decide)) (g1 _ (by decide)) (g1 _ (by decide)) (by rw [g _ (by decide) (by decide)]) (by rw [g _ (by decide) (by decide)]), ja_eq i3 (g _ (by decide) (by decide)) (g _ (by decide) (by decide)) (g1 _ (by decide)) (g _ (by decide) (by decide)), js_eq i4 (fun e he => g _ (by unfold sa; omega) (by unfold sa; omega)) (fun e he => g _ (by omega) (by omega)) (g _ (by decide) (by decide)) (g _ (by decide) (by decide)) (g _ (by decide) (by decide))⟩
    · obtain ⟨⟨a1, a2, a3⟩, x1, x2, x3, x4, x5, ⟨x6, x7⟩, x8⟩ := ex
      have a1' := a1
      have a2' := a2
      have a3' := a3
      unfold LA at a1'
      unfold RA at a2' a3'
      refine ⟨⟨a1, a2, a3⟩, ?_, ?_, fun i hi => ?_, fun i hi => ?_, fun b hb => ?_, ⟨x6, x7⟩, fun w hw i hi => ?_⟩
      · rw [g6s, gi_ne (by decide), gi_si, if_pos ⟨rfl, rfl⟩]
      · rw [g1 16 (by decide), gi_ne (by decide), gi_si, if_neg (by decide)]; exact x2
      · rw [g R (by omega) (by omega), g 6543 (by decide) (by decide)]; exact x3 i hi
      · rw [g S (by omega) (by omega), g 6607 (by decide) (by decide)]; exact x4 i hi
      · rw [g _ (by omega) (by omega), g 6157 (by decide) (by decide)]; exact x5 b hb
      · rw [g _ (by omega) (by omega), g 6101 (by decide) (by decide)]; exact x8 w hw i hi
theorem px_copies {b n : Int32} {Z : Int32 → Int32 → Mm → Prop} (i0 : INX M) (h : ∀ r s N, INX N → r = s → Z r s N) : CI mC_copies [.ref 10, .int b, .int n] M (fun r N => CI mM_copies [.ref 6027, .int b, .int n] N (fun s O => Z r s O)) := by
  obtain ⟨L, P, R, S, U, D, W, t, i, ex⟩ := i0
  have c := i.1.1
  have hm := i.2.1.1.1
  have hL := cxL c
  unfold LA at hL
  refine call_of rfl (Nat.le_of_ble_eq_true rfl) rfl (vC_copies_0 rfl (cx4 c) (lr2 (cxlr c)) ⟨fun q => ?_, fun q => ?_, fun q => ?_⟩)
  · obtain ⟨i, hi, e⟩ := rng (c := 8) (n := 8) rfl (by decide) q.1 q.2.1
    rw [e]; exact vin hi (by decide)
  · refine tM_copies hm (fun _ => h _ _ M ⟨L, P, R, S, U, D, W, t, i, ex⟩ rfl) (fun k hk ek p1 p2 => ?_)
    exfalso
    have n8 : ¬ (8 : Int32) ≤ b := by rw [ek]; exact nge rfl (by decide) hk
    have n0' : ¬ b < 0 := by rw [ek]; exact n0 k (by omega)
    rcases q with q | q | q | q
    · exact n0' q
    · exact n8 q.2
    · exact p1 q.2.2
    · exact q.2.2.2 (Int32.not_lt.mp p2)
  · obtain ⟨k, hk, ek⟩ := rng (c := 8) (n := 8) rfl (by decide) q.1 q.2.1
    have ec : b.toNatClampNeg = k := by rw [ek]; exact ncl (by omega)
    rw [ec]
    refine ⟨by rw [ek]; exact vin hk (by decide), ?_⟩
    have g0 : ∀ a, a ≠ L + 140 → gi (si M (L + 140) k n) a = gi M a := fun a n1 => gi_ne n1
    refine tM_copies (mr_w hm rfl) (fun p => ?_) (fun k' hk' ek' _ _ => ?_)
    · exfalso
      rcases p with p | p | p | p
      · exact q.1 p
      · rw [ek, show (7 : Int32) = nI 7 from rfl, nlt (by omega) (by omega)] at p; omega
      · exact q.2.2.1 p
      · exact absurd q.2.2.2 (Int32.not_le.mpr p)
    · have kk : k' = k := (ninj (by omega) (by omega)).mp (ek'.symm.trans ek)
      subst kk
      have g : ∀ a, a ≠ L + 140 → a ≠ 6157 → gi (si (si M (L + 140) k' n) 6157 k' n) a = gi M a := fun a n1 n2 => by rw [gi_ne n2, gi_ne n1]
      have hx := ex.2.2.2.2.2.1 k' hk'
      refine h _ _ _ ⟨L, P, R, S, U, D, W, t, ?_, ?_⟩ (by rw [g0 _ (by omega)]; exact hx)
      · obtain ⟨i1, i2, i3, i4⟩ := i
        exact ⟨cp_eq i1 (fun _ _ _ _ => rfl) (fun a ha => g a (by omega) (by omega)), mp_eq i2 (fun _ => rfl) (g _ (by omega) (by omega)) (by rw [g _ (by omega) (by omega)]) (by rw [g _ (by omega) (by omega)]) (by rw [g _ (by omega) (by omega)]) (by rw [g _ (by omega) (by omega)]), ja_eq i3 (g _ (by omega) (by omega)) (g _ (by omega) (by omega)) (by rw [g _ (by omega) (by omega)]) (g _ (by omega) (by omega)), js_eq i4 (fun e he => g _ (by unfold sa; omega) (by unfold sa; omega)) (fun e he => g _ (by omega) (by omega)) (g _ (by omega) (by omega)) (g _ (by omega) (by omega)) (g _ (by omega) (by omega))⟩
      · obtain ⟨⟨a1, a2, a3⟩, x1, x2, x3, x4, x5, ⟨x6, x7⟩, x8⟩ := ex
        have a2' := a2
        have a3' := a3
        unfold RA at a2' a3'
        refine ⟨⟨a1, a2, a3⟩, ?_, ?_, fun i hi => ?_, fun i hi => ?_, fun b hb => ?_, ⟨x6, x7⟩, fun w hw i hi => ?_⟩
        · rw [g 10 (by omega) (by omega), g 6027 (by omega) (by omega)]; exact x1
        · rw [g 10 (by omega) (by omega), g 6027 (by omega) (by omega)]; exact x2
        · rw [g R (by omega) (by omega), g 6543 (by omega) (by omega)]; exact x3 i hi
        · rw [g S (by omega) (by omega), g 6607 (by omega) (by omega)]; exact x4 i hi
        · rw [gi_ne (show L + 140 ≠ 6157 by omega), gxs, gxs, g0 6157 (by omega)]
          by_cases z : b = k'
          · rw [if_pos z, if_pos z]
          · rw [if_neg z, if_neg z]; exact x5 b hb
        · rw [g _ (by omega) (by omega), g 6101 (by omega) (by omega)]; exact x8 w hw i hi
theorem px_keep {Z : Int32 → Int32 → Mm → Prop} (i0 : INX M) (h : ∀ r s N, INX N → r = s → Z r s N) : CI mC_keep [.ref 10] M (fun r N => CI mM_keep [.ref 6027] N (fun s O => Z r s O)) := by
  obtain ⟨L, P, R, S, U, D, W, t, i, ex⟩ := i0
  refine lC_keep i.1.1 (rn_of i.1 (cxR i.1.1)) (fun N pN rN eN => ?_)
  have hS : RA S := i.1.1.2.2.1.2.2.2.1
  have g : ∀ a, a ≠ 199 → a ≠ S → gi N a = gi M a := pN.2.2
  have hL := cxL i.1.1
  have iN : IV N L P R S U D W t := by
    obtain ⟨i1, i2, i3, i4⟩ := i
    have hS' := hS
    unfold RA at hS'
    unfold LA at hL
    refine ⟨?_, mp_eq i2 (fun _ => by rw [pN.1]) (g _ (by decide) (by omega)) (by rw [g _ (by decide) (by omega)]) (by rw [g _ (by decide) (by omega)]) (by rw [g _ (by decide) (by omega)]) (by rw [g _ (by decide) (by omega)]), ja_eq i3 (g _ (by decide) (by omega)) (g _ (by decide) (by omega)) (by rw [g _ (by decide) (by omega)]) (g _ (by decide) (by omega)), js_eq i4 (fun e he => g _ (by unfold sa; omega) (by unfold sa; omega)) (fun e he => g _ (by omega) (by omega)) (g _ (by decide) (by omega)) (g _ (by decide) (by omega)) (g _ (by decide) (by omega))⟩
    have rr : ∀ X, RA X → RN N X := by
      intro X hX
      by_cases e : X = S
      · rw [e]; exact rN
      · unfold RN
        rw [g X (by unfold RA at hX; omega) e]
        exact rn_of i1 hX
    obtain ⟨c1, c2, c3, -⟩ := i1
    refine ⟨cx_gr c1 (fun a j _ => by rw [pN.1]), ?_, c3, rr _ (Or.inl rfl), rr _ (Or.inr (Or.inl rfl)), rr _ (Or.inr (Or.inr rfl))⟩
    rw [g L (by omega) (by omega)]; exact c2
  refine tM_keep iN.2.1.1.1 (fun O kO => h _ _ O ⟨L, P, R, S, U, D, W, t, ?_, ?_⟩ rfl)
  · obtain ⟨i1, i2, i3, i4⟩ := iN
    have g2 : ∀ a, a ≠ 6607 → gi O a = gi N a := kO.2.2.1
    refine ⟨cp_eq i1 (fun _ _ _ _ => by rw [kO.1]) (fun a ha => g2 a (by omega)), ⟨jw_eq i2.1 (fun _ => by rw [kO.1]) (g2 _ (by decide)) (by rw [g2 _ (by decide)]) (by rw [g2 _ (by decide)]), i2.2.1, ?_, ?_, ?_⟩, ja_eq i3 (g2 _ (by decide)) (g2 _ (by decide)) (by rw [g2 _ (by decide)]) (g2 _ (by decide)), js_eq i4 (fun e he => g2 _ (by unfold sa; omega)) (fun e he => g2 _ (by omega)) (g2 _ (by decide)) (g2 _ (by decide)) (g2 _ (by decide))⟩
    · unfold HD; rw [g2 _ (by decide)]; exact i2.2.2.1
    · unfold HO; rw [kO.2.2.2 4, if_pos (by decide)]; exact i2.2.2.1
    · unfold UM; rw [g2 _ (by decide)]; exact i2.2.2.2.2
  · obtain ⟨⟨a1, a2, a3⟩, x1, x2, x3, x4, x5, ⟨x6, x7⟩, x8⟩ := ex
    have a1' := a1
    have a2' := a2
    have a3' := a3
    unfold LA at a1'
    unfold RA at a2' a3'
    have ne : R ≠ S := i.1.1.2.2.2.2.2.1
    have gg : ∀ a, a ≠ 6607 → a ≠ 199 → a ≠ S → gi O a = gi M a := fun a n1 n2 n3 => by
      have := kO.2.2.1 a n1
      rw [this]; exact g a n2 n3
    refine ⟨⟨a1, a2, a3⟩, ?_, ?_, fun i hi => ?_, fun i hi => ?_, fun b hb => ?_, ⟨x6, x7⟩, fun w hw i hi => ?_⟩
    · rw [gg 10 (by decide) (by decide) (by omega), gg 6027 (by decide) (by decide) (by omega)]; exact x1
    · rw [gg 10 (by decide) (by decide) (by omega), gg 6027 (by decide) (by decide) (by omega)]; exact x2
    · rw [gg R (by omega) (by omega) ne, gg 6543 (by decide) (by decide) (by omega)]; exact x3 i hi
    · rw [kO.2.2.2 i, if_pos hi, kO.2.2.1 S (by omega), eN i hi, g 6543 (by decide) (by omega)]; exact x3 i hi
    · rw [gg _ (by omega) (by omega) (by omega), gg 6157 (by decide) (by decide) (by omega)]; exact x5 b hb
    · rw [gg _ (by omega) (by omega) (by omega), gg 6101 (by decide) (by decide) (by omega)]; exact x8 w hw i hi
theorem px_swap {Z : Int32 → Int32 → Mm → Prop} (i0 : INX M) (h : ∀ r s N, INX N → r = s → Z r s N) : CI mC_swap [.ref 10] M (fun r N => CI mM_swap [.ref 6027] N (fun s O => Z r s O)) := by
  obtain ⟨L, P, R, S, U, D, W, t, i, ex⟩ := i0
  refine lC_swap i.1.1 ?_
  have iN : IV (sr (sr M 10 6 (some S)) 10 7 (some R)) L P S R U D W t := by
    obtain ⟨i1, i2, i3, i4⟩ := i
    have gr' : ∀ a j, gr (sr (sr M 10 6 (some S)) 10 7 (some R)) a j = if a = 10 ∧ j = 7 then some R else if a = 10 ∧ j = 6 then some S else gr M a j := fun a j => by rw [gr_sr, gr_sr]
    have gn : ∀ a j, a ≠ 10 → gr (sr (sr M 10 6 (some S)) 10 7 (some R)) a j = gr M a j := fun a j n => by rw [gr', if_neg (fun e => n e.1), if_neg (fun e => n e.1)]
    obtain ⟨⟨x1, ⟨x2, x3, x4, x5, x6⟩, ⟨y1, y2, y3, y4, y5⟩, ⟨x8, x9⟩, ⟨z1, z2, z3, z4⟩⟩, c2⟩ := i1
    have lr : ∀ {L}, LA L → LR M L → LR (sr (sr M 10 6 (some S)) 10 7 (some R)) L := fun {L} hL h => by
      refine ⟨h.1, fun q hq => ?_, fun w hw => ?_⟩
      · rw [gn L q.1 (by unfold LA at hL; omega)]; exact h.2.1 q hq
      · rw [gn (L + 81) w (by omega)]; exact h.2.2 w hw
    have nq : ∀ q ∈ cgt, ¬ (q.1 = 10 ∧ q.2.1 = 7) ∧ ¬ (q.1 = 10 ∧ q.2.1 = 6) := by decide
    refine ⟨⟨⟨fun q hq => ?_, ⟨?_, ?_, ?_, ?_, ?_⟩, ⟨y1, y2, y4, y3, y5⟩, ⟨lr y1 x8, lr y2 x9⟩, ⟨z1, Ne.symm z2, z4, z3⟩⟩, c2⟩, mp_eq i2 (fun k => gn _ _ (by decide)) rfl rfl rfl rfl rfl, i3, i4⟩
    · rw [gr', if_neg (nq q hq).1, if_neg (nq q hq).2]; exact x1 q hq
    · rw [gr', if_neg (by decide), if_neg (by decide)]; exact x2
    · rw [gr', if_neg (by decide), if_neg (by decide)]; exact x3
    · rw [gr', if_neg (by decide), if_pos (by decide)]
    · rw [gr', if_pos (by decide)]
    · rw [gr', if_neg (by decide), if_neg (by decide)]; exact x6
  refine sM_swap iN.2.1.1.1 (fun O kO => h _ _ O ⟨L, P, S, R, U, D, W, t, ?_, ?_⟩ rfl)
  · obtain ⟨i1, i2, i3, i4⟩ := iN
    have g2 := kO.2.2.1
    refine ⟨cp_eq i1 (fun _ _ _ _ => by rw [kO.1]) (fun a ha => g2 a (by omega) (by omega)), ⟨jw_eq i2.1 (fun _ => by rw [kO.1]) (g2 _ (by decide) (by decide)) (by rw [g2 _ (by decide) (by decide)]) (by rw [g2 _ (by decide) (by decide)]), i2.2.1, ?_, ?_, ?_⟩, ja_eq i3 (g2 _ (by decide) (by decide)) (g2 _ (by decide) (by decide)) (by rw [g2 _ (by decide) (by decide)]) (g2 _ (by decide) (by decide)), js_eq i4 (fun e he => g2 _ (by unfold sa; omega) (by unfold sa; omega)) (fun e he => g2 _ (by omega) (by omega)) (g2 _ (by decide) (by decide)) (g2 _ (by decide) (by decide)) (g2 _ (by decide) (by decide))⟩
    · unfold HD; rw [kO.2.2.2.1 4, if_pos (by decide)]; exact i2.2.2.2.1
    · unfold HO; rw [kO.2.2.2.2 4, if_pos (by decide)]; exact i2.2.2.1
    · unfold UM; rw [g2 _ (by decide) (by decide)]; exact i2.2.2.2.2
  · obtain ⟨⟨a1, a2, a3⟩, x1, x2, x3, x4, x5, ⟨x6, x7⟩, x8⟩ := ex
    have a1' := a1
    have a2' := a2
    have a3' := a3
    unfold LA at a1'
    unfold RA at a2' a3'
    have gg : ∀ a, a ≠ 6543 → a ≠ 6607 → gi O a = gi M a := fun a n1 n2 => by
      have := kO.2.2.1 a n1 n2
      rw [this]; rfl
    refine ⟨⟨a1, a3, a2⟩, ?_, ?_, fun i hi => ?_, fun i hi => ?_, fun b hb => ?_, ⟨x6, x7⟩, fun w hw i hi => ?_⟩
    · rw [gg 10 (by decide) (by decide), gg 6027 (by decide) (by decide)]; exact x1
    · rw [gg 10 (by decide) (by decide), gg 6027 (by decide) (by decide)]; exact x2
    · rw [gg S (by omega) (by omega), kO.2.2.2.1 i, if_pos hi]; exact x4 i hi
    · rw [gg R (by omega) (by omega), kO.2.2.2.2 i, if_pos hi]; exact x3 i hi
    · rw [gg _ (by omega) (by omega), gg 6157 (by decide) (by decide)]; exact x5 b hb
    · rw [gg _ (by omega) (by omega), gg 6101 (by decide) (by decide)]; exact x8 w hw i hi
theorem px_feed {v : Int64} {Z : Int32 → Int32 → Mm → Prop} (i0 : INX M) (h : ∀ r s N, INX N → r = s → Z r s N) : CI mC_feed [.ref 10, .long v] M (fun r N => CI mM_feed [.ref 6027, .long v] N (fun s O => Z r s O)) := by
  obtain ⟨L, P, R, S, U, D, W, t, i, ex⟩ := i0
  have i' := i
  obtain ⟨i1, i2, i3, i4⟩ := i
  refine sC_feed i1.1 i3.1 i3.2.1 (fun l => ?_) (fun l N fN => ?_)
  · exact tM_feed i2.1.1 i3.2.2.1 i3.2.1 (fun _ => h _ _ M ⟨L, P, R, S, U, D, W, t, i', ex⟩ rfl) (fun l2 => absurd l2 (by omega))
  · have g : ∀ a, a ≠ 145 → a ≠ 70 → gi (si N 70 1 (nI (t + 8))) a = gi M a := fun a n1 n2 => by rw [gi_ne n2]; exact fN.2.2.1 a n1
    have gR : gr (si N 70 1 (nI (t + 8))) = gr M := fN.1
    have hL := cxL i1.1
    have c1 : CP (si N 70 1 (nI (t + 8))) L P R S U D := cp_eq i1 (fun _ _ _ _ => by rw [gR]) (fun a ha => g a (by omega) (by omega))
    have m1 : MP (si N 70 1 (nI (t + 8))) W := mp_eq i2 (fun _ => by rw [gR]) (g _ (by decide) (by decide)) (by rw [g _ (by decide) (by decide)]) (by rw [g _ (by decide) (by decide)]) (by rw [g _ (by decide) (by decide)]) (by rw [g _ (by decide) (by decide)])
    have s1 : JS (si N 70 1 (nI (t + 8))) := js_eq i4 (fun e he => g _ (by unfold sa; omega) (by unfold sa; omega)) (fun e he => g _ (by omega) (by omega)) (g _ (by decide) (by decide)) (g _ (by decide) (by decide)) (g _ (by decide) (by decide))
    refine tM_feed m1.1.1 (by rw [g _ (by decide) (by decide)]; exact i3.2.2.1) i3.2.1 (fun l2 => absurd l2 (by omega)) (fun _ O fO => h _ _ O ⟨L, P, R, S, U, D, W, t + 8, ?_, ?_⟩ rfl)
    rotate_left
    · have g2 : ∀ a, a ≠ 6486 → a ≠ 6027 → gi O a = gi (si N 70 1 (nI (t + 8))) a := fO.2.2.1
      have f2 : ∀ k, k ≠ 11 → gi O 6027 k = gi (si N 70 1 (nI (t + 8))) 6027 k := fun k n => by rw [fO.2.2.2.1 k, if_neg n]
      exact ex_eq ex (fun a ha => by rw [g2 a (by omega) (by omega), g a (by omega) (by omega)]) (fun k _ => by rw [g2 6101 (by decide) (by decide), g 6101 (by decide) (by decide)]) (by rw [f2 9 (by decide), g 6027 (by decide) (by decide)]) (by rw [f2 16 (by decide), g 6027 (by decide) (by decide)])
    have g2 : ∀ a, a ≠ 6486 → a ≠ 6027 → gi O a = gi (si N 70 1 (nI (t + 8))) a := fO.2.2.1
    have f2 : ∀ k, k ≠ 11 → gi O 6027 k = gi (si N 70 1 (nI (t + 8))) 6027 k := fun k n => by rw [fO.2.2.2.1 k, if_neg n]
    refine ⟨cp_eq c1 (fun _ _ _ _ => by rw [fO.1]) (fun a ha => g2 a (by omega) (by omega)), mp_eq m1 (fun _ => by rw [fO.1]) (g2 _ (by decide) (by decide)) (f2 _ (by decide)) (f2 _ (by decide)) (by rw [g2 _ (by decide) (by decide)]) (by rw [g2 _ (by decide) (by decide)]), ⟨?_, by omega, ?_, fun k hk => ?_⟩, js_eq s1 (fun e he => g2 _ (by unfold sa; omega) (by unfold sa; omega)) (fun e he => g2 _ (by omega) (by omega)) (g2 _ (by decide) (by decide)) (g2 _ (by decide) (by decide)) (g2 _ (by decide) (by decide))⟩
    · rw [g2 _ (by decide) (by decide), gi_si, if_pos ⟨rfl, rfl⟩]
    · rw [fO.2.2.2.1 11, if_pos rfl]
    · rw [g2 145 (by decide) (by decide), gi_ne (show (145 : Nat) ≠ 70 by decide), fN.2.2.2 k, fO.2.2.2.2 k, g 6486 (by decide) (by decide)]
      by_cases q : t ≤ k ∧ k < t + 8
      · rw [if_pos q, if_pos q]; exact by_feed v (by omega)
      · rw [if_neg q, if_neg q]; exact i3.2.2.2 k hk
theorem px_end {n : Int32} {Z : Int32 → Int32 → Mm → Prop} (i0 : INX M) (h : ∀ r s N, INX N → r = s → Z r s N) : CI mC_end [.ref 10, .int n] M (fun r N => CI mM_end [.ref 6027, .int n] N (fun s O => Z r s O)) := by
  obtain ⟨L, P, R, S, U, D, W, t, i, ex⟩ := i0
  have i' := i
  obtain ⟨i1, i2, i3, i4⟩ := i
  have ht := i3.2.1
  refine sC_end i1.1 (fun q => tM_end (fun _ => h _ _ M ⟨L, P, R, S, U, D, W, t, i', ex⟩ rfl) (fun q1 q2 => ?_)) (fun q1 q2 => ?_)
  · rw [i3.1] at q
    rw [i3.2.2.1] at q2
    rcases q with q | q
    · exact absurd q q1
    · exact absurd (Int32.not_lt.mp q2) q
  · rw [i3.1] at q2
    obtain ⟨m, hm, rfl⟩ := nI_of q1
    rw [nle (by omega) hm] at q2
    have g : ∀ a, a ≠ 70 → gi (si M 70 1 (nI m)) a = gi M a := fun a n2 => gi_ne n2
    have e11 : gi (si M 70 1 (nI m)) 6027 11 = nI t := by rw [g _ (by decide)]; exact i3.2.2.1
    refine tM_end (fun q => ?_) (fun _ _ => h _ _ _ ⟨L, P, R, S, U, D, W, m, ?_, ex_eq ex (fun a ha => by rw [gi_ne (by omega), gi_ne (by omega)]) (fun k _ => by rw [gi_ne (by decide), gi_ne (by decide)]) (by rw [g6 _ _ _ _ (by decide), gi_ne (by decide)]) (by rw [g6 _ _ _ _ (by decide), gi_ne (by decide)])⟩ (by rw [i3.1, e11]))
    · exfalso
      rw [e11] at q
      rcases q with q | q
      · exact q1 q
      · rw [nlt (by omega) (by omega)] at q; omega
    · have g2 : ∀ a, a ≠ 70 → a ≠ 6027 → gi (si (si M 70 1 (nI m)) 6027 11 (nI m)) a = gi M a := fun a n1 n2 => by rw [gi_ne n2, gi_ne n1]
      have f2 : ∀ k, k ≠ 11 → gi (si (si M 70 1 (nI m)) 6027 11 (nI m)) 6027 k = gi M 6027 k := fun k n => by rw [g6 _ _ _ _ n, g _ (by decide)]
      refine ⟨cp_eq i1 (fun _ _ _ _ => rfl) (fun a ha => g2 a (by omega) (by omega)), mp_eq i2 (fun _ => rfl) (g2 _ (by decide) (by decide)) (f2 _ (by decide)) (f2 _ (by decide)) (by rw [g2 _ (by decide) (by decide)]) (by rw [g2 _ (by decide) (by decide)]), ⟨?_, by omega, g6s _ _ _, fun k hk => ?_⟩, js_eq i4 (fun e he => g2 _ (by unfold sa; omega) (by unfold sa; omega)) (fun e he => g2 _ (by omega) (by omega)) (g2 _ (by decide) (by decide)) (g2 _ (by decide) (by decide)) (g2 _ (by decide) (by decide))⟩
      · rw [gi_ne (by decide), gi_si, if_pos ⟨rfl, rfl⟩]
      · rw [g2 145 (by decide) (by decide), g2 6486 (by decide) (by decide)]; exact i3.2.2.2 k hk
theorem px_sheet {k l n : Int32} {Z : Int32 → Int32 → Mm → Prop} (i0 : INX M) (h : ∀ r s N, INX N → r = s → Z r s N) : CI mC_sheet [.ref 10, .int k, .int l, .int n] M (fun r N => CI mM_sheet [.ref 6027, .int k, .int l, .int n] N (fun s O => Z r s O)) := by
  obtain ⟨L, P, R, S, U, D, W, t, i, ex⟩ := i0
  have i' := i
  obtain ⟨i1, i2, i3, i4⟩ := i
  have hL := cxL i1.1
  refine lC_sheet i1.1 (fun q => ?_) (fun q1 q2 q3 => ?_) (fun e he ek il q2 q3 => ?_)
  · refine tM_sheet i2.1.1 (fun _ => h _ _ M ⟨L, P, R, S, U, D, W, t, i', ex⟩ rfl) (fun p1 p2 p3 => ?_) (fun e he ek il p2 p3 => ?_)
    · exfalso
      rcases q with q | q
      · rw [p1] at q; exact absurd q (by decide)
      · exact q p2
    · exfalso
      rcases q with q | q
      · rw [isS_e he ek, il] at q; exact absurd q (by decide)
      · exact q p2
  · refine tM_sheet i2.1.1 (fun p => ?_) (fun _ _ _ => h _ _ M ⟨L, P, R, S, U, D, W, t, i', ex⟩ rfl) (fun e he ek il p2 p3 => absurd p3 q3)
    exfalso
    rcases p with p | p
    · rw [q1] at p; exact absurd p (by decide)
    · exact p q2
  · generalize eA : fl (si (si M (sa e) 1 l) (sa e) 2 n) (5588 + 128 * e) 40 0 = A
    have sae : ∀ x, x < 4 → sa x = 5509 + 128 * x := fun x _ => rfl
    have g : ∀ a, a ≠ sa e → a ≠ 5588 + 128 * e → gi A a = gi M a := fun a n1 n2 => by
      rw [← eA]; funext j; rw [flR _ _ _ _ _ _ n2, giR _ _ _ _ _ _ n1, giR _ _ _ _ _ _ n1]
    have gR : gr A = gr M := by rw [← eA]; rfl
    have a1 : gi A (sa e) 1 = l := by rw [← eA, flR _ _ _ _ _ _ (by rw [sae e he]; omega), gi_si, if_neg (by omega), gi_si, if_pos ⟨rfl, rfl⟩]
    have a2 : gi A (sa e) 2 = n := by rw [← eA, flR _ _ _ _ _ _ (by rw [sae e he]; omega), gi_si, if_pos ⟨rfl, rfl⟩]
    have a3 : ∀ j, j < 40 → gi A (5588 + 128 * e) j = 0 := fun j hj => by rw [← eA, gi_fl, if_pos ⟨rfl, hj⟩]
    have sa' := sae e he
    have c1 : CP A L P R S U D := cp_eq i1 (fun _ _ _ _ => by rw [gR]) (fun a ha => g a (by omega) (by omega))
    have m1 : MP A W := mp_eq i2 (fun _ => by rw [gR]) (g _ (by omega) (by omega)) (by rw [g _ (by omega) (by omega)]) (by rw [g _ (by omega) (by omega)]) (by rw [g _ (by omega) (by omega)]) (by rw [g _ (by omega) (by omega)])
    have j1 : JA A t := ja_eq i3 (g _ (by omega) (by omega)) (g _ (by omega) (by omega)) (by rw [g _ (by omega) (by omega)]) (g _ (by omega) (by omega))
    refine tM_sheet m1.1.1 (fun p => ?_) (fun _ _ p => absurd q3 p) (fun e' he' ek' _ _ _ O fO => ?_)
    · exfalso
      rcases p with p | p
      · rw [isS_e he ek, il] at p; exact absurd p (by decide)
      · exact p q2
    · have ee : e' = e := (ninj (by omega) (by omega)).mp (ek'.symm.trans ek)
      subst ee
      have g2 : ∀ a, a ≠ 7644 → a ≠ 7708 → a ≠ 7773 → gi O a = gi A a := fO.2.2.1
      refine h _ _ O ⟨L, P, R, S, U, D, W, t, ⟨cp_eq c1 (fun _ _ _ _ => by rw [fO.1]) (fun a ha => g2 a (by omega) (by omega) (by omega)), mp_eq m1 (fun _ => by rw [fO.1]) (g2 _ (by decide) (by decide) (by decide)) (by rw [g2 _ (by decide) (by decide) (by decide)]) (by rw [g2 _ (by decide) (by decide) (by decide)]) (by rw [g2 _ (by decide) (by decide) (by decide)]) (by rw [g2 _ (by decide) (by decide) (by decide)]), ja_eq j1 (g2 _ (by decide) (by decide) (by decide)) (g2 _ (by decide) (by decide) (by decide)) (by rw [g2 _ (by decide) (by decide) (by decide)]) (g2 _ (by decide) (by decide) (by decide)), fun x hx => ?_⟩, ex_eq ex (fun a ha => by rw [g2 a (by omega) (by omega) (by omega), g a (by omega) (by omega)]) (fun k _ => by rw [g2 6101 (by decide) (by decide) (by decide), g 6101 (by omega) (by omega)]) (by rw [g2 6027 (by decide) (by decide) (by decide), g 6027 (by omega) (by omega)]) (by rw [g2 6027 (by decide) (by decide) (by decide), g 6027 (by omega) (by omega)])⟩ rfl
      have sx := sae x hx
      by_cases z : x = e'
      · subst z
        have q3' : ¬ n < 0 := Int32.not_lt.mpr q3
        obtain ⟨m, hm, em⟩ := rngL (c := 40) (n := 40) rfl (by decide) q3' (Int32.not_lt.mpr q2)
        refine ⟨⟨m, by omega, ?_, ?_⟩, ?_, fun j hj => ?_⟩
        · rw [g2 _ (by omega) (by omega) (by omega), a2]; exact em
        · rw [fO.2.2.2.2.1 x, if_pos rfl]; exact em
        · rw [g2 _ (by omega) (by omega) (by omega), a1, fO.2.2.2.1 x, if_pos rfl]
        · rw [g2 _ (by omega) (by omega) (by omega), a3 j hj, fO.2.2.2.2.2, if_pos (by omega)]
      · obtain ⟨⟨m, b1, b2, b3⟩, b4, b5⟩ := i4 x hx
        refine ⟨⟨m, b1, ?_, ?_⟩, ?_, fun j hj => ?_⟩
        · rw [g2 _ (by omega) (by omega) (by omega), g _ (by omega) (by omega)]; exact b2
        · rw [fO.2.2.2.2.1 x, if_neg z, g _ (by omega) (by omega)]; exact b3
        · rw [g2 _ (by omega) (by omega) (by omega), g _ (by omega) (by omega), fO.2.2.2.1 x, if_neg z, g _ (by omega) (by omega)]; exact b4
        · rw [g2 _ (by omega) (by omega) (by omega), g _ (by omega) (by omega), fO.2.2.2.2.2, if_neg (by omega), g _ (by omega) (by omega)]; exact b5 j hj
theorem px_lay {k j v : Int32} {Z : Int32 → Int32 → Mm → Prop} (i0 : INX M) (h : ∀ r s N, INX N → r = s → Z r s N) : CI mC_lay [.ref 10, .int k, .int j, .int v] M (fun r N => CI mM_lay [.ref 6027, .int k, .int j, .int v] N (fun s O => Z r s O)) := by
  obtain ⟨L, P, R, S, U, D, W, t, i, ex⟩ := i0
  have i' := i
  obtain ⟨i1, i2, i3, i4⟩ := i
  have hI : INX M := ⟨L, P, R, S, U, D, W, t, i', ex⟩
  have hm := js_m i4
  have uq : ∀ {e e' : Nat}, e < 4 → e' < 4 → k = nI e → k = nI e' → e' = e := fun h1 h2 a b => (ninj (by omega) (by omega)).mp (b.symm.trans a)
  refine lC_lay i1.1 (js_n i4) (fun q => ?_) (fun e he ek q => ?_) (fun e he ek q1 q2 => ?_) (fun e c n he ek ec hn en hc q => ?_)
  · refine tM_lay i2.1.1 hm (fun _ => h _ _ M hI rfl) (fun e he ek _ => ?_) (fun e he ek _ _ => ?_) (fun e c n he ek _ _ _ _ _ => ?_)
    all_goals exact absurd (isS_e he ek) (by rw [q]; decide)
  · have b4 := (i4 e he).2.1
    refine tM_lay i2.1.1 hm (fun p => absurd (isS_e he ek) (by rw [p]; decide)) (fun e' _ _ _ => h _ _ M hI rfl) (fun e' he' ek' p _ => ?_) (fun e' c n he' ek' _ _ _ _ p => ?_)
    all_goals
      have := uq he he' ek ek'
      subst this
      exact absurd (b4.symm.trans q) p
  · obtain ⟨⟨m, b1, b2, b3⟩, b4, -⟩ := i4 e he
    refine tM_lay i2.1.1 hm (fun p => absurd (isS_e he ek) (by rw [p]; decide)) (fun e' he' ek' p => ?_) (fun e' _ _ _ _ => h _ _ M hI rfl) (fun e' c n he' ek' ec hn en hc p => ?_)
    · have := uq he he' ek ek'
      subst this
      exact absurd (b4.trans p) q1
    · have := uq he he' ek ek'
      subst this
      exfalso
      have mn : m = n := (ninj (by omega) (by omega)).mp (b3.symm.trans en)
      rw [b2, ec] at q2
      rcases q2 with q2 | q2
      · exact n0 c (by omega) q2
      · rw [nle (by omega) (by omega)] at q2; omega
  · obtain ⟨⟨m, b1, b2, b3⟩, b4, b5⟩ := i4 e he
    have mn : m = n := (ninj (by omega) (by omega)).mp (b2.symm.trans en)
    subst mn
    have sae : ∀ x, sa x = 5509 + 128 * x := fun x => rfl
    generalize ew : layv (gi M (sa e) 1) v = w
    have g : ∀ a, a ≠ 5588 + 128 * e → gi (si M (5588 + 128 * e) c w) a = gi M a := fun a n1 => gi_ne n1
    have se := sae e
    have c1 : CP (si M (5588 + 128 * e) c w) L P R S U D := cp_eq i1 (fun _ _ _ _ => rfl) (fun a ha => g a (by omega))
    have m1 : MP (si M (5588 + 128 * e) c w) W := mp_eq i2 (fun _ => rfl) (g _ (by omega)) (by rw [g _ (by omega)]) (by rw [g _ (by omega)]) (by rw [g _ (by omega)]) (by rw [g _ (by omega)])
    have j1 : JA (si M (5588 + 128 * e) c w) t := ja_eq i3 (g _ (by omega)) (g _ (by omega)) (by rw [g _ (by omega)]) (g _ (by omega))
    have h7708 : gi (si M (5588 + 128 * e) c w) 7708 = gi M 7708 := g _ (by omega)
    have h7644 : gi (si M (5588 + 128 * e) c w) 7644 = gi M 7644 := g _ (by omega)
    refine tM_lay m1.1.1 (fun x hx => by rw [h7708]; exact hm x hx) (fun p => absurd (isS_e he ek) (by rw [p]; decide)) (fun e' he' ek' p => ?_) (fun e' he' ek' p1 p2 => ?_) (fun e' c' n' he' ek' ec' hn' en' hc' p => ?_)
    · have := uq he he' ek ek'
      subst this
      rw [h7644] at p
      exact absurd (b4.trans p) q
    · have := uq he he' ek ek'
      subst this
      exfalso
      rw [h7708, b3, ec] at p2
      rcases p2 with p2 | p2
      · exact n0 c (by omega) p2
      · rw [nle (by omega) (by omega)] at p2; omega
    · have := uq he he' ek ek'
      subst this
      have cc : c' = c := (ninj (by omega) (by omega)).mp (ec'.symm.trans ec)
      subst cc
      rw [h7644, ← b4, ew]
      have g2 : ∀ a, a ≠ 7773 → gi (si (si M (5588 + 128 * e') c' w) 7773 (40 * e' + c') w) a = gi (si M (5588 + 128 * e') c' w) a := fun a n1 => gi_ne n1
      refine h _ _ _ ⟨L, P, R, S, U, D, W, t, ⟨cp_eq c1 (fun _ _ _ _ => rfl) (fun a ha => g2 a (by omega)), mp_eq m1 (fun _ => rfl) (g2 _ (by omega)) (by rw [g2 _ (by omega)]) (by rw [g2 _ (by omega)]) (by rw [g2 _ (by omega)]) (by rw [g2 _ (by omega)]), ja_eq j1 (g2 _ (by omega)) (g2 _ (by omega)) (by rw [g2 _ (by omega)]) (g2 _ (by omega)), fun x hx => ?_⟩, ex_eq ex (fun a ha => by rw [g2 a (by omega), g a (by omega)]) (fun k _ => by rw [g2 6101 (by omega), g 6101 (by omega)]) (by rw [g2 6027 (by omega), g 6027 (by omega)]) (by rw [g2 6027 (by omega), g 6027 (by omega)])⟩ rfl
      have sx := sae x
      obtain ⟨⟨m2, d1, d2, d3⟩, d4, d5⟩ := i4 x hx
      refine ⟨⟨m2, d1, ?_, ?_⟩, ?_, fun a ha => ?_⟩
      · rw [g2 _ (by omega), g _ (by omega)]; exact d2
      · rw [g2 _ (by omega), h7708]; exact d3
      · rw [g2 _ (by omega), g _ (by omega), g2 _ (by omega), h7644]; exact d4
      · rw [g2 _ (by omega), gi_si, gi_si, g 7773 (by omega), d5 a ha]
        by_cases z : x = e' ∧ a = c'
        · rw [if_pos (by omega), if_pos (by omega)]
        · rw [if_neg (by omega), if_neg (by omega)]
end EQG
