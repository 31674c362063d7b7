theorem mainE : ∀ d, d < 8 → ((((31 >>> (nI d &&& 31)) &&& 1 : Int32) = 0) ↔ ¬ ((ushr 31 (nI d)) &&& 1) = 1) ∧ ((((31 >>> (nI d &&& 31)) &&& 1 : Int32) = 1) ↔ ((ushr 31 (nI d)) &&& 1) = 1) := by decide +kernel
theorem ct64 : ∀ j, j < 64 → ctC (nI j) 64 ≤ 64 := by decide +kernel
theorem ct0 : ctC (nI 0) 64 = 64 := by decide +kernel
theorem k64 : ∀ k, k < 128 → (nI k / 64 = 0 ∨ nI k / 64 = 1) ∧ nI k - nI k / 64 * 64 = nI (k % 64) := by decide +kernel
theorem ty_kh {N : Mm} (d : Nat) (hh : HH N) : TY (rwm N 7438 64 (gi N 7182)) d := by
  have z := xm_kh hh.1 (gi N 7182)
  refine ⟨z.1, (x_w z).2.1, xf z (by decide +kernel), fun e _ _ => ⟨z.2.2 _ _, z.2.2 _ _⟩, fun c hc => ?_⟩
  rw [gi_rwm, if_pos ⟨rfl, hc⟩]; exact (hh.2 c hc).1
section MOD7
variable {M : Mm}
theorem yM_turns {d a m : Int32} {K : Int32 → Mm → Prop} (y : YM M) (h : ∀ N, K (fTurns d a m) N) : CI mM_turns [.ref 6027, .int d, .int a, .int m] M K := by
  have r0 : gi M 6543 0 = 31 := yf y (by decide +kernel)
  refine call_of rfl (Nat.le_of_ble_eq_true rfl) rfl (vM_turns_0 (sM_isDoctor (fun q => vM_turns_4 ⟨fun _ => ?_, fun q => absurd rfl q⟩) (fun i hi e => vM_turns_4 ⟨fun q => absurd q (by decide), fun _ => sM_inE (fun q => vM_turns_14 ⟨fun _ => ?_, fun q => absurd rfl q⟩) (fun qa => vM_turns_14 ⟨fun q => absurd q (by decide), fun _ => sM_isCase (fun q => vM_turns_21 rfl (mr18 y.1) ⟨fun q => absurd rfl q.1, fun q => absurd rfl q.1, fun _ => ?_⟩) (fun j hj e2 => vM_turns_21 rfl (mr18 y.1) ⟨fun q => xM_findAll (y_x y) (fun N f hh => ?_), fun q => ?_, fun q => absurd q (by decide)⟩)⟩)⟩)))
  · have hh := h M; rwa [fTurns, q, Bool.false_and, if_neg (by decide)] at hh
  · have hh := h M; rwa [fTurns, q, Bool.false_and, Bool.and_false, if_neg (by decide)] at hh
  · have hh := h M; rwa [fTurns, q, Bool.and_false, Bool.and_false, if_neg (by decide)] at hh
  · subst e e2
    rw [r0] at q
    have mn : ((ushr 31 (nI i)) &&& 1) = 1 := by
      by_cases l : ((ushr 31 (nI i)) &&& 1) = 1
      · exact l
      · exact absurd ((mainE i hi).1.mpr l) q.2
    rw [fTurns, yD hi, yE qa, yC hj, if_pos (by decide), if_pos mn] at h
    refine vM_turns_46 rfl (kh_row hh.1.1 (vM_turns_50 rfl ?_))
    exact tM_turnsBy (ty_kh i hh) hi ((mainE i hi).2.mpr mn) qa hj (fun N _ => vM_turns_57 (h N))
  · subst e e2
    rw [r0] at q
    rw [fTurns, yD hi, yE qa, yC hj, if_pos (by decide), if_neg ((mainE i hi).1.mp q.2)] at h
    exact h M
/-- the state between two doctors -/
def TQ (M : Mm) : Prop := MR M ∧ (∀ j, j < 7 → gi M 6543 j = dv j) ∧ gi M 6027 0 = 0 ∧ (∀ e, e < 8 → gl M 7003 e = 0 ∧ gl M 7067 e = 0) ∧ ∀ c, c < 64 → gi M 7438 c = -4
theorem tq_fo {d : Nat} (t : TY M d) (hd : d < 8) : TQ (fo0 M d) := by
  obtain ⟨hm, hr, hz, hg, hw⟩ := t
  refine ⟨mr_w hm (gr_fo0 M d), hr, hz, fun e he => ?_, hw⟩
  unfold fo0
  by_cases q : e = d
  · subst q
    exact ⟨by rw [gl_sl, if_neg (by simp), gl_sl, if_pos ⟨rfl, rfl⟩], by rw [gl_sl, if_pos ⟨rfl, rfl⟩]⟩
  · exact ⟨by rw [gl_sl, if_neg (by simp), gl_sl, if_neg (fun r => q r.2), gl_sl, if_neg (by simp)]; exact (hg e he q).1, by rw [gl_sl, if_neg (fun r => q r.2), gl_sl, if_neg (by simp), gl_sl, if_neg (by simp)]; exact (hg e he q).2⟩
theorem yM_turn {w : Int32} {K : Int32 → Mm → Prop} (y : YM M) (h : ∀ N, K (fTurn w) N) : CI mM_turn [.ref 6027, .int w] M K := by
  refine call_of rfl (Nat.le_of_ble_eq_true rfl) rfl (vM_turn_0 (sM_in (l := 0) (m := 3) rfl rfl (fun q => vM_turn_9 rfl ⟨fun q => absurd rfl q, fun _ => ?_⟩) (fun q1 q2 => vM_turn_9 rfl ⟨fun _ => xM_findAll (y_x y) (fun N f hh => vM_turn_18 rfl (kh_row hh.1.1 (vM_turn_22 ?_))), fun q => absurd q (by decide)⟩)))
  · have hh := h M
    rwa [fTurn, if_neg (fun p => q.elim p.1 (fun q => absurd p.2 (Int32.not_le.mpr q)))] at hh
  · rw [fTurn, if_pos ⟨q1, Int32.not_lt.mp q2⟩] at h
    have t0 := ty_kh 0 hh
    generalize rwm N 7438 64 (gi N 7182) = N1 at t0
    -- the doctors behind the first
    have rest : ∀ N, TQ N → X mM_turn 39 [(0, .ref 6027), (1, .int w), (2, .int 64), (3, .int 0), (4, .int 0), (5, .int 0), (6, .int (nI 1))] [] N (mC mM_turn, mS mM_turn) (QI K) := by
      have key := lp 7 (P := fun x => ∀ N, TQ N → X mM_turn 39 [(0, .ref 6027), (1, .int w), (2, .int 64), (3, .int 0), (4, .int 0), (5, .int 0), (6, .int (nI (x + 1)))] [] N (mC mM_turn, mS mM_turn) (QI K)) (fun x hx ih N t => ?_) (fun N t => ?_)
      · exact key
      · have nq := nge (c := 8) (i := x + 1) (n := 8) rfl (by decide) (by omega)
        have hd : x + 1 < 8 := by omega
        refine vM_turn_39 ⟨fun q => absurd q.1 nq, fun q => absurd q.1 nq, fun q => absurd q.1 nq, fun q => absurd q.1 nq, fun _ => ?_⟩
        have key2 := lp 128 (P := fun k => ∀ N, TY N (x + 1) → X mM_turn 49 [(0, .ref 6027), (1, .int w), (2, .int 64), (3, .int 0), (4, .int 0), (5, .int 0), (6, .int (nI (x + 1))), (7, .int (nI k))] [] N (mC mM_turn, mS mM_turn) (QI K)) (fun k hk ih2 N t => ?_) (fun N t => ?_)
        · exact key2 N ⟨t.1, t.2.1, t.2.2.1, fun e he _ => t.2.2.2.1 e he, t.2.2.2.2⟩
        · have r0 : gi N 6543 0 = 31 := by rw [t.2.1 0 (by decide)]; rfl
          have nk := nge (c := 128) (i := k) (n := 128) rfl (by decide) hk
          refine vM_turn_49 rfl (mr18 t.1) ⟨fun _ => sM_findOne0 t.1 (by rw [t.2.2.1]; decide) hd (vM_turn_173 ?_), fun q => ?_⟩
          · rw [nI_s]; exact ih _ (tq_fo t hd)
          · rw [r0] at q
            obtain ⟨a1, a2⟩ := k64 k hk
            rw [a2]
            refine tM_turnsBy t hd q.2 a1 (Nat.mod_lt k (by decide)) (fun N t => vM_turn_88 ?_)
            rw [if_pos (ct64 _ (Nat.mod_lt k (by decide))), if_pos rfl, if_pos rfl, if_pos rfl, if_pos rfl, nI_s]
            exact ih2 N t
        · refine vM_turn_49 rfl (mr18 t.1) ⟨fun _ => sM_findOne0 t.1 (by rw [t.2.2.1]; decide) hd (vM_turn_173 ?_), fun q => absurd (nself rfl) q.1⟩
          rw [nI_s]; exact ih _ (tq_fo t hd)
      · have h2 := h N
        refine vM_turn_39 ⟨fun q => ?_, fun q => ?_, fun q => ?_, fun q => ?_, fun q => absurd (nself (n := 8) rfl) q⟩
        · rwa [if_neg q.2.1] at h2
        · rwa [if_neg q.2.1] at h2
        · rwa [if_neg q.2.1] at h2
        · rwa [if_pos q.2] at h2
    have first : ∀ N, TY N 0 → X mM_turn 49 [(0, .ref 6027), (1, .int w), (2, .int 64), (3, .int 0), (4, .int 0), (5, .int 0), (6, .int 0), (7, .int (nI 1))] [] N (mC mM_turn, mS mM_turn) (QI K) := by
      have key2 := lp 127 (P := fun k => ∀ N, TY N 0 → X mM_turn 49 [(0, .ref 6027), (1, .int w), (2, .int 64), (3, .int 0), (4, .int 0), (5, .int 0), (6, .int 0), (7, .int (nI (k + 1)))] [] N (mC mM_turn, mS mM_turn) (QI K)) (fun k hk ih2 N t => ?_) (fun N t => ?_)
      · exact key2
      · have r0 : gi N 6543 0 = 31 := by rw [t.2.1 0 (by decide)]; rfl
        have nk := nge (c := 128) (i := k + 1) (n := 128) rfl (by decide) (by omega)
        refine vM_turn_49 rfl (mr18 t.1) ⟨fun q => ?_, fun q => ?_⟩
        · rw [r0] at q
          rcases q with q | q
          · exact absurd q nk
          · exact absurd (by decide) q.2
        · obtain ⟨a1, a2⟩ := k64 (k + 1) (by omega)
          rw [a2]
          refine tM_turnsBy (d := 0) t (by decide) (by decide) a1 (Nat.mod_lt (k + 1) (by decide)) (fun N t => vM_turn_88 ?_)
          rw [if_pos (ct64 _ (Nat.mod_lt (k + 1) (by decide))), if_pos rfl, if_pos rfl, if_pos rfl, if_pos rfl, nI_s]
          exact ih2 N t
      · refine vM_turn_49 rfl (mr18 t.1) ⟨fun _ => sM_findOne0 (d := 0) t.1 (by rw [t.2.2.1]; decide) (by decide) (vM_turn_173 ?_), fun q => absurd (nself (n := 128) rfl) q.1⟩
        exact rest _ (tq_fo t (by decide))
    refine vM_turn_39 ⟨fun q => absurd q.1 (by decide), fun q => absurd q.1 (by decide), fun q => absurd q.1 (by decide), fun q => absurd q.1 (by decide), fun _ => ?_⟩
    have r0 : gi N1 6543 0 = 31 := by rw [t0.2.1 0 (by decide)]; rfl
    refine vM_turn_49 rfl (mr18 t0.1) ⟨fun q => ?_, fun q => ?_⟩
    · rw [r0] at q
      rcases q with q | q
      · exact absurd q (by decide)
      · exact absurd (by decide) q.2
    · refine tM_turnsBy (d := 0) (j := 0) t0 (by decide) (by decide) (Or.inl (by decide)) (by decide) (fun N t => vM_turn_88 ?_)
      rw [ct0, if_neg (by decide), if_neg (by decide), if_neg (by decide), if_neg (by decide)]
      exact first N t
end MOD7
