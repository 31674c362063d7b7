/-! ===== the reference's reader: copies ===== -/
theorem wts_ok {g c : Int32} {s : Rst} (hc : ¬ c = 0) (h : (wts g c s).2.2.2.2.1 = 0) : ¬ g = 0 ∧ s.2.2.2.2.1 = 0 ∧ wts g c s = s := by
  unfold wts at h ⊢
  by_cases q : g = 0 ∧ s.2.2.2.2.1 = 0
  · rw [if_pos q] at h; exact absurd h hc
  · rw [if_neg q] at h ⊢
    exact ⟨fun z => q ⟨z, h⟩, h, rfl⟩
theorem nxs_ok {T : Nat → Int32} {t : Nat} {s : Rst} (h : (nxs T t s).2.2.2.2.1 = 0) : s.2.2.2.2.1 = 0 := by
  by_cases q : s.2.2.2.2.1 = 0
  · exact q
  · unfold nxs at h
    rw [if_neg q] at h; exact h
theorem isn_ok {lo hi : Int32} {s : Rst} (h : (isn lo hi s).2.2.2.2.1 = 0) : ¬ s.2.2.2.1 < lo ∧ ¬ hi < s.2.2.2.1 ∧ s.2.2.1 = 2 ∧ s.2.2.2.2.1 = 0 ∧ isn lo hi s = s := by
  unfold isn at h ⊢
  obtain ⟨a1, a2, a3⟩ := wts_ok (by decide) h
  obtain ⟨b1, b2, b3⟩ := wts_ok (by decide) a2
  have c1 : ¬ s.2.2.2.1 < lo ∧ ¬ hi < s.2.2.2.1 := by
    by_cases q : ¬ s.2.2.2.1 < lo ∧ ¬ hi < s.2.2.2.1
    · exact q
    · rw [if_neg q] at a1; exact absurd rfl a1
  have c2 : s.2.2.1 = 2 := by
    by_cases q : s.2.2.1 = 2
    · exact q
    · rw [if_neg q] at b1; exact absurd rfl b1
  exact ⟨c1.1, c1.2, c2, b2, a3.trans b3⟩
theorem isn_v (lo hi : Int32) (s : Rst) : (isn lo hi s).2.2.2.1 = s.2.2.2.1 := by unfold isn; rw [wts_v, wts_v]
def rc2 (c : Int32) (s : Rst) : Rst := wts (if c = 0 then 1 else 0) 4 (isn 0 7 s)
def rc3 (T : Nat → Int32) (t : Nat) (c : Int32) (s : Rst) : Rst := nxs T t (rc2 c s)
def rcs (T : Nat → Int32) (t : Nat) (c : Int32) (s : Rst) : Rst := nxs T t (isn 0 9 (rc3 T t c s))
theorem nM_readCopies {M : Mm} {T : Nat → Int32} {t : Nat} {s : Rst} {K : Mm → Prop} (rd : RD M T t s) (h0 : ∀ N, PF M N → RD N T t (rcs T t (gi M 6360 s.2.2.2.1.toNatClampNeg) s) → ¬ (rcs T t (gi M 6360 s.2.2.2.1.toNatClampNeg) s).2.2.2.2.1 = 0 → K N) (h1 : ∀ N i, PF M N → RD N T t (rcs T t (gi M 6360 s.2.2.2.1.toNatClampNeg) s) → (rcs T t (gi M 6360 s.2.2.2.1.toNatClampNeg) s).2.2.2.2.1 = 0 → i < 8 → s.2.2.2.1 = nI i → K (si (si N 6360 i 1) 6285 i (rc3 T t (gi M 6360 s.2.2.2.1.toNatClampNeg) s).2.2.2.1)) : CV mM_readCopies [.ref 6027] M K := by
  refine call_of rfl (Nat.le_of_ble_eq_true rfl) rfl (vM_readCopies_0 rfl (nM_isNumber rd (fun N pf rN => ?_)))
  have n16 := rN.2.2.2.2.2.1
  have n15 := rN.2.2.2.2.1
  rw [isn_v] at n15
  have g6360 : gi N 6360 = gi M 6360 := pf.2.2.1 6360 (by decide)
  have b38 : ∀ O, PF M O → RD O T t (rc2 (gi M 6360 s.2.2.2.1.toNatClampNeg) s) → X mM_readCopies 38 [(0, .ref 6027), (1, .int s.2.2.2.1)] [] O (mC mM_readCopies, mS mM_readCopies) (QV K) := by
    intro O pfO rO
    generalize gi M 6360 s.2.2.2.1.toNatClampNeg = c at h0 h1 rO ⊢
    refine vM_readCopies_38 rfl (nM_next rO (fun P pfP rP => ?_))
    have rP' : RD P T t (rc3 T t c s) := by unfold rc3; exact rP
    refine vM_readCopies_42 rfl (nM_readNumber rP' (fun R pfR rR => ?_))
    have pfa := pf_tr (pf_tr pfO pfP) pfR
    have rR' : RD R T t (rcs T t c s) := by unfold rcs; exact rR
    have hm := rR'.1.1
    have e16 := rR'.2.2.2.2.2.1
    have h0' := h0 R pfa rR'
    have h1' := fun i => h1 R i pfa rR'
    have q0 : (rcs T t c s).2.2.2.2.1 = 0 → (isn 0 7 s).2.2.2.2.1 = 0 := by
      intro q
      unfold rcs at q
      have q1 := (isn_ok (nxs_ok q)).2.2.2.1
      unfold rc3 at q1
      have q2 := nxs_ok q1
      unfold rc2 at q2
      exact (wts_ok (by decide) q2).2.1
    generalize (rc3 T t c s).2.2.2.1 = n at h1' ⊢
    generalize (rcs T t c s).2.2.2.2.1 = z at e16 h0' h1' q0
    refine vM_readCopies_49 rfl (mr6 hm) (mr5 hm) ⟨fun q => h0' (by rw [e16] at q; exact q), fun q => ?_⟩
    rw [e16] at q
    obtain ⟨y1, y2, -, -, -⟩ := isn_ok (q0 q)
    obtain ⟨i, hi, e⟩ := rngL (c := 7) (n := 7) rfl (by decide) y1 y2
    have := h1' i q hi e
    rw [e]
    refine ⟨vin hi (by decide), vin hi (by decide), ?_⟩
    rw [ncl (by omega)]
    exact this
  refine vM_readCopies_7 rfl (mr6 rN.1.1) ⟨fun q => ?_, fun q => ?_, fun q => ?_, fun q => ?_⟩
  · rw [n16] at q
    obtain ⟨y1, y2, -, -, -⟩ := isn_ok q
    obtain ⟨i, hi, e⟩ := rngL (c := 7) (n := 7) rfl (by decide) y1 y2
    rw [n15, e]; exact vin hi (by decide)
  · rw [n16] at q
    rw [n15]
    refine b38 N pf ?_
    rw [rc2, wts_f q]; exact rN
  · rw [n15, g6360] at q
    rw [n15]
    refine vM_readCopies_34 rfl (nM_wants rN (by decide) (fun O pfO rO => b38 O (pf_tr pf pfO) ?_))
    rw [rc2, if_neg q.2]; exact rO
  · rw [n15, g6360] at q
    rw [n15]
    refine vM_readCopies_34 rfl (nM_wants rN (by decide) (fun O pfO rO => b38 O (pf_tr pf pfO) ?_))
    rw [rc2, if_pos q.2]; exact rO
