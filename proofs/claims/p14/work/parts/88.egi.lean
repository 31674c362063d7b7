section MG83
/-! ===== pairs of calls: queries, with what was settled the same ===== -/
section EQV1
variable {M : Mm}
theorem py_word {v w : Int32} {Z : Int32 → Int32 → Mm → Prop} (i0 : INY M) (h : ∀ r s N, INY N → Z r s N) : CI mC_word [.ref 10, .int v, .int w] M (fun r N => CI mM_word [.ref 6027, .int v, .int w] N (fun s O => Z r s O)) := by
  obtain ⟨L, P, R, S, U, D, W, t, i, ex⟩ := i0
  have c := i.1.1
  have i0 : INY M := ⟨L, P, R, S, U, D, W, t, i, ex⟩
  refine lC_word c i.1.2.1 i.1.2.2.1 (fun r => ?_)
  exact tM_word i.2.1.1 (fun s => h r s M i0)
theorem py_says {v w : Int32} {Z : Int32 → Int32 → Mm → Prop} (i0 : INY M) (h : ∀ r s N, INY N → Z r s N) : CI mC_says [.ref 10, .int v, .int w] M (fun r N => CI mM_says [.ref 6027, .int v, .int w] N (fun s O => Z r s O)) := by
  obtain ⟨L, P, R, S, U, D, W, t, i, ex⟩ := i0
  have c := i.1.1
  have i0 : INY M := ⟨L, P, R, S, U, D, W, t, i, ex⟩
  refine lC_says c i.1.2.1 i.1.2.2.1 (fun r => ?_)
  exact tM_says i.2.1.1 (h r _ M i0)
theorem py_words {v : Int32} {Z : Int32 → Int32 → Mm → Prop} (i0 : INY M) (h : ∀ r s N, INY N → Z r s N) : CI mC_words [.ref 10, .int v] M (fun r N => CI mM_words [.ref 6027, .int v] N (fun s O => Z r s O)) := by
  obtain ⟨L, P, R, S, U, D, W, t, i, ex⟩ := i0
  have c := i.1.1
  have i0 : INY M := ⟨L, P, R, S, U, D, W, t, i, ex⟩
  refine lC_words c (fun r => ?_)
  exact tM_words i.2.1.1 (h r _ M i0)
theorem py_meets {v w : Int32} {Z : Int32 → Int32 → Mm → Prop} (i0 : INY M) (h : ∀ r s N, INY N → Z r s N) : CI mC_meets [.ref 10, .int v, .int w] M (fun r N => CI mM_meets [.ref 6027, .int v, .int w] N (fun s O => Z r s O)) := by
  obtain ⟨L, P, R, S, U, D, W, t, i, ex⟩ := i0
  have c := i.1.1
  have i0 : INY M := ⟨L, P, R, S, U, D, W, t, i, ex⟩
  refine lC_meets c (fun r => ?_)
  exact tM_meets i.2.1.1 (fun s => h r s M i0)
theorem py_steps {v : Int32} {Z : Int32 → Int32 → Mm → Prop} (i0 : INY M) (h : ∀ r s N, INY N → Z r s N) : CI mC_steps [.ref 10, .int v] M (fun r N => CI mM_steps [.ref 6027, .int v] N (fun s O => Z r s O)) := by
  obtain ⟨L, P, R, S, U, D, W, t, i, ex⟩ := i0
  have c := i.1.1
  have i0 : INY M := ⟨L, P, R, S, U, D, W, t, i, ex⟩
  refine lC_steps c i.1.2.1 i.1.2.2.1 (fun r => ?_)
  exact tM_steps i.2.1.1 (fun s => h r s M i0)
theorem py_count {v : Int32} {Z : Int32 → Int32 → Mm → Prop} (i0 : INY M) (h : ∀ r s N, INY N → Z r s N) : CI mC_count [.ref 10, .int v] M (fun r N => CI mM_count [.ref 6027, .int v] N (fun s O => Z r s O)) := by
  obtain ⟨L, P, R, S, U, D, W, t, i, ex⟩ := i0
  have c := i.1.1
  have i0 : INY M := ⟨L, P, R, S, U, D, W, t, i, ex⟩
  refine lC_count c (fun r => ?_)
  exact tM_count i.2.1.1 (fun s => h r s M i0)
theorem py_each {v w : Int32} {Z : Int32 → Int32 → Mm → Prop} (i0 : INY M) (h : ∀ r s N, INY N → Z r s N) : CI mC_each [.ref 10, .int v, .int w] M (fun r N => CI mM_each [.ref 6027, .int v, .int w] N (fun s O => Z r s O)) := by
  obtain ⟨L, P, R, S, U, D, W, t, i, ex⟩ := i0
  have c := i.1.1
  refine lC_each c (fun r N f => ?_)
  have iN := iv_cq f i
  have xN := ez_cq f ex
  have jN := iN.2.1
  exact tM_each jN.1 (fun O g => h r _ O ⟨L, P, R, S, U, D, W, t, iv_af g iN, ez_af g xN⟩)
theorem py_sides {v w x : Int32} {Z : Int32 → Int32 → Mm → Prop} (i0 : INY M) (h : ∀ r s N, INY N → Z r s N) : CI mC_sides [.ref 10, .int v, .int w, .int x] M (fun r N => CI mM_sides [.ref 6027, .int v, .int w, .int x] N (fun s O => Z r s O)) := by
  obtain ⟨L, P, R, S, U, D, W, t, i, ex⟩ := i0
  have c := i.1.1
  refine lC_sides c (fun r N f => ?_)
  have iN := iv_cq f i
  have xN := ez_cq f ex
  have jN := iN.2.1
  exact tM_sides jN.1 (fun O g => h r _ O ⟨L, P, R, S, U, D, W, t, iv_af g iN, ez_af g xN⟩)
theorem py_hangs {v w : Int32} {Z : Int32 → Int32 → Mm → Prop} (i0 : INY M) (h : ∀ r s N, INY N → Z r s N) : CI mC_hangs [.ref 10, .int v, .int w] M (fun r N => CI mM_hangs [.ref 6027, .int v, .int w] N (fun s O => Z r s O)) := by
  obtain ⟨L, P, R, S, U, D, W, t, i, ex⟩ := i0
  have c := i.1.1
  refine lC_hangs c (fun r N f => ?_)
  have iN := iv_cq f i
  have xN := ez_cq f ex
  have jN := iN.2.1
  exact tM_hangs jN.1 jN.2.2.1 (fun s O g => h r s O ⟨L, P, R, S, U, D, W, t, iv_qf g iN, ez_qf g xN⟩)
theorem py_held {v w : Int32} {Z : Int32 → Int32 → Mm → Prop} (i0 : INY M) (h : ∀ r s N, INY N → Z r s N) : CI mC_held [.ref 10, .int v, .int w] M (fun r N => CI mM_held [.ref 6027, .int v, .int w] N (fun s O => Z r s O)) := by
  obtain ⟨L, P, R, S, U, D, W, t, i, ex⟩ := i0
  have c := i.1.1
  refine lC_held c (fun r N f => ?_)
  have iN := iv_cq f i
  have xN := ez_cq f ex
  have jN := iN.2.1
  exact tM_held jN.1 jN.2.2.1 (fun O g => h r _ O ⟨L, P, R, S, U, D, W, t, iv_af g iN, ez_af g xN⟩)
theorem py_cases {v : Int32} {Z : Int64 → Int64 → Mm → Prop} (i0 : INY M) (h : ∀ r s N, INY N → Z r s N) : CJ mC_cases [.ref 10, .int v] M (fun r N => CJ mM_cases [.ref 6027, .int v] N (fun s O => Z r s O)) := by
  obtain ⟨L, P, R, S, U, D, W, t, i, ex⟩ := i0
  have c := i.1.1
  refine lC_cases c (fun r N f => ?_)
  have iN := iv_cq f i
  have xN := ez_cq f ex
  have jN := iN.2.1
  exact tM_cases jN.1 jN.2.2.1 (fun O g => h r _ O ⟨L, P, R, S, U, D, W, t, iv_af g iN, ez_af g xN⟩)
theorem py_many {v : Int32} {Z : Int32 → Int32 → Mm → Prop} (i0 : INY M) (h : ∀ r s N, INY N → Z r s N) : CI mC_many [.ref 10, .int v] M (fun r N => CI mM_many [.ref 6027, .int v] N (fun s O => Z r s O)) := by
  obtain ⟨L, P, R, S, U, D, W, t, i, ex⟩ := i0
  have c := i.1.1
  refine lC_many c (fun r N f => ?_)
  have iN := iv_cq f i
  have xN := ez_cq f ex
  have jN := iN.2.1
  exact tM_many jN.1 jN.2.2.1 (fun O g => h r _ O ⟨L, P, R, S, U, D, W, t, iv_af g iN, ez_af g xN⟩)
theorem py_reckon {v w x y z : Int32} {Z : Int32 → Int32 → Mm → Prop} (i0 : INY M) (h : ∀ r s N, INY N → Z r s N) : CI mC_reckon [.ref 10, .int v, .int w, .int x, .int y, .int z] M (fun r N => CI mM_reckon [.ref 6027, .int v, .int w, .int x, .int y, .int z] N (fun s O => Z r s O)) := by
  obtain ⟨L, P, R, S, U, D, W, t, i, ex⟩ := i0
  have c := i.1.1
  refine lC_reckon c (fun r N f => ?_)
  have iN := iv_cq f i
  have xN := ez_cq f ex
  have jN := iN.2.1
  exact tM_reckon jN.1 jN.2.2.1 (fun O g => h r _ O ⟨L, P, R, S, U, D, W, t, iv_af g iN, ez_af g xN⟩)
theorem py_widest {v : Int32} {Z : Int32 → Int32 → Mm → Prop} (i0 : INY M) (h : ∀ r s N, INY N → Z r s N) : CI mC_widest [.ref 10, .int v] M (fun r N => CI mM_widest [.ref 6027, .int v] N (fun s O => Z r s O)) := by
  obtain ⟨L, P, R, S, U, D, W, t, i, ex⟩ := i0
  have c := i.1.1
  refine lC_widest c (fun r N f => ?_)
  have iN := iv_cq f i
  have xN := ez_cq f ex
  have jN := iN.2.1
  exact tM_widest jN.1 jN.2.2.1 (fun O g => h r _ O ⟨L, P, R, S, U, D, W, t, iv_af g iN, ez_af g xN⟩)
theorem py_near {v w x : Int32} {Z : Int32 → Int32 → Mm → Prop} (i0 : INY M) (h : ∀ r s N, INY N → Z r s N) : CI mC_near [.ref 10, .int v, .int w, .int x] M (fun r N => CI mM_near [.ref 6027, .int v, .int w, .int x] N (fun s O => Z r s O)) := by
  obtain ⟨L, P, R, S, U, D, W, t, i, ex⟩ := i0
  have c := i.1.1
  refine lC_near c (fun r N f => ?_)
  have iN := iv_cq f i
  have xN := ez_cq f ex
  have jN := iN.2.1
  exact tM_near jN.1 jN.2.2.1 (fun O g => h r _ O ⟨L, P, R, S, U, D, W, t, iv_af g iN, ez_af g xN⟩)
theorem py_argue {v w x : Int32} {Z : Int32 → Int32 → Mm → Prop} (i0 : INY M) (h : ∀ r s N, INY N → Z r s N) : CI mC_argue [.ref 10, .int v, .int w, .int x] M (fun r N => CI mM_argue [.ref 6027, .int v, .int w, .int x] N (fun s O => Z r s O)) := by
  obtain ⟨L, P, R, S, U, D, W, t, i, ex⟩ := i0
  have c := i.1.1
  refine lC_argue c (fun r N f => ?_)
  have iN := iv_cq f i
  have xN := ez_cq f ex
  have jN := iN.2.1
  exact tM_argue jN.1 jN.2.2.1 (fun s O g => h r s O ⟨L, P, R, S, U, D, W, t, iv_qf g iN, ez_qf g xN⟩)
theorem py_game {v w x : Int32} {Z : Int32 → Int32 → Mm → Prop} (i0 : INY M) (h : ∀ r s N, INY N → Z r s N) : CI mC_game [.ref 10, .int v, .int w, .int x] M (fun r N => CI mM_game [.ref 6027, .int v, .int w, .int x] N (fun s O => Z r s O)) := by
  obtain ⟨L, P, R, S, U, D, W, t, i, ex⟩ := i0
  have c := i.1.1
  refine lC_game c (fun r N f => ?_)
  have iN := iv_cq f i
  have xN := ez_cq f ex
  have jN := iN.2.1
  exact tM_game jN.1 jN.2.2.1 (fun s O g => h r s O ⟨L, P, R, S, U, D, W, t, iv_qf g iN, ez_qf g xN⟩)
theorem py_turn {v : Int32} {Z : Int32 → Int32 → Mm → Prop} (i0 : INY M) (h : ∀ r s N, INY N → Z r s N) : CI mC_turn [.ref 10, .int v] M (fun r N => CI mM_turn [.ref 6027, .int v] N (fun s O => Z r s O)) := by
  obtain ⟨L, P, R, S, U, D, W, t, i, ex⟩ := i0
  have c := i.1.1
  refine lC_turn c (fun r N f => ?_)
  have iN := iv_cq f i
  have xN := ez_cq f ex
  have jN := iN.2.1
  exact tM_turn jN.1 jN.2.1 jN.2.2.1 jN.2.2.2.2 (fun s O g => h r s O ⟨L, P, R, S, U, D, W, t, iv_qf g iN, ez_qf g xN⟩)
theorem py_turns {v w x : Int32} {Z : Int32 → Int32 → Mm → Prop} (i0 : INY M) (h : ∀ r s N, INY N → Z r s N) : CI mC_turns [.ref 10, .int v, .int w, .int x] M (fun r N => CI mM_turns [.ref 6027, .int v, .int w, .int x] N (fun s O => Z r s O)) := by
  obtain ⟨L, P, R, S, U, D, W, t, i, ex⟩ := i0
  have c := i.1.1
  refine lC_turns c (fun r N f => ?_)
  have iN := iv_cq f i
  have xN := ez_cq f ex
  have jN := iN.2.1
  exact tM_turns jN.1 jN.2.1 jN.2.2.1 jN.2.2.2.2 (fun s O g => h r s O ⟨L, P, R, S, U, D, W, t, iv_qf g iN, ez_qf g xN⟩)
theorem py_differ {v : Int32} {Z : Int32 → Int32 → Mm → Prop} (i0 : INY M) (h : ∀ r s N, INY N → Z r s N) : CI mC_differ [.ref 10, .int v] M (fun r N => CI mM_differ [.ref 6027, .int v] N (fun s O => Z r s O)) := by
  obtain ⟨L, P, R, S, U, D, W, t, i, ex⟩ := i0
  have c := i.1.1
  refine lC_differ c (fun r N f => ?_)
  have iN := iv_cq f i
  have xN := ez_cq f ex
  have jN := iN.2.1
  exact tM_differ jN.1 jN.2.2.1 jN.2.2.2.1 (fun s O g => h r s O ⟨L, P, R, S, U, D, W, t, iv_qf g iN, ez_qf g xN⟩)
theorem py_brief {v : Int32} {Z : Int32 → Int32 → Mm → Prop} (i0 : INY M) (h : ∀ r s N, INY N → Z r s N) : CI mC_brief [.ref 10, .int v] M (fun r N => CI mM_brief [.ref 6027, .int v] N (fun s O => Z r s O)) := by
  obtain ⟨L, P, R, S, U, D, W, t, i, ex⟩ := i0
  have c := i.1.1
  refine lC_brief c (fun r N f => ?_)
  have iN := iv_cq f i
  have xN := ez_cq f ex
  have jN := iN.2.1
  exact tM_brief jN.1 jN.2.2.1 (fun s O g => h r s O ⟨L, P, R, S, U, D, W, t, iv_qf g iN, ez_qf g xN⟩)
theorem py_read {v w x y z : Int32} {Z : Int32 → Int32 → Mm → Prop} (i0 : INY M) (h : ∀ r s N, INY N → Z r s N) : CI mC_read [.ref 10, .int v, .int w, .int x, .int y, .int z] M (fun r N => CI mM_read [.ref 6027, .int v, .int w, .int x, .int y, .int z] N (fun s O => Z r s O)) := by
  obtain ⟨L, P, R, S, U, D, W, t, i, ex⟩ := i0
  have c := i.1.1
  refine lC_read c (js_n i.2.2.2) (fun r N f => ?_)
  have iN := iv_cq f i
  have xN := ez_cq f ex
  have jN := iN.2.1
  exact tM_read jN.1 jN.2.2.1 (js_m iN.2.2.2) (fun s O g => h r s O ⟨L, P, R, S, U, D, W, t, iv_qf g iN, ez_qf g xN⟩)
end EQV1
/-! ===== pairs of calls that change what both stand on, with what was read the same ===== -/
section EQV2
variable {M : Mm}
theorem py_fault {Z : Int32 → Int32 → Mm → Prop} (i0 : INY M) (h : ∀ r s N, INY N → r = s → Z r s N) : CI mC_fault [.ref 10] M (fun r N => CI mM_fault [.ref 6027] N (fun s O => Z r s O)) := by
  refine lC_fault (tM_fault (h _ _ M i0 ?_))
  obtain ⟨L, P, R, S, U, D, W, t, i, ex⟩ := i0
  exact ex.1.2.2.1
theorem py_weighs {v : Int32} {Z : Int32 → Int32 → Mm → Prop} (i0 : INY M) (h : ∀ r s N, INY N → r = s → Z r s N) : CI mC_weighs [.ref 10, .int v] M (fun r N => CI mM_weighs [.ref 6027, .int v] N (fun s O => Z r s O)) := by
  have i1 := i0
  obtain ⟨L, P, R, S, U, D, W, t, i, ex⟩ := i0
  have c := i.1.1
  have hm := i.2.1.1.1
  have rn := rn_of i.1 (cxR c)
  have e := ex.1.2.2.2.1
  have key : ∀ r, (∀ j, j < 7 → v = nI j → r = gi M 6543 j) → ((v < 0 ∨ 6 < v) → r = -1) → CI mM_weighs [.ref 6027, .int v] M (fun s O => Z r s O) := by
    intro r h1 h2
    refine call_of rfl (Nat.le_of_ble_eq_true rfl) rfl (vM_weighs_0 (sM_in (l := 0) (m := 6) rfl rfl (fun q => vM_weighs_9 rfl (mr18 hm) ⟨fun q => absurd rfl q, ?_⟩) (fun q1 q2 => ?_)))
    · rw [if_pos rfl]; exact h _ _ M i1 (h2 q)
    · obtain ⟨j, hj, ej⟩ := rngL (c := 6) (n := 6) rfl (by decide) q1 q2
      refine vM_weighs_9 rfl (mr18 hm) ⟨fun _ => by rw [ej]; exact vin hj (by decide), ?_⟩
      rw [if_neg (by decide)]
      refine h _ _ M i1 ?_
      rw [ej, ncl (by omega)]; exact h1 j hj ej
  have k7 : ∀ j, j < 7 → v = nI j → ∀ r, r = gi M 6543 j → CI mM_weighs [.ref 6027, .int v] M (fun s O => Z r s O) := by
    intro j hj ej r er
    refine key r (fun j' hj' ej' => ?_) (fun q => ?_)
    · have : j' = j := (ninj (by omega) (by omega)).mp (ej'.symm.trans ej)
      rw [this]; exact er
    · exfalso
      rw [ej] at q
      rcases q with q | q
      · exact n0 j (by omega) q
      · rw [show (6 : Int32) = nI 6 from rfl, nlt (by omega) (by omega)] at q; omega
  refine call_of rfl (Nat.le_of_ble_eq_true rfl) rfl (vC_weighs_0 rfl (cx6 c) ⟨fun q => k7 0 (by decide) q _ (e 0 (by decide)), fun q => k7 1 (by decide) q _ (e 1 (by decide)), fun q => k7 2 (by decide) q _ ?_, fun q => k7 3 (by decide) q _ (e 3 (by decide)), fun q => k7 4 (by decide) q _ (e 4 (by decide)), fun q => k7 5 (by decide) q _ (e 5 (by decide)), fun q => k7 6 (by decide) q _ (e 6 (by decide)), fun q => key _ (fun j hj ej => ?_) (fun _ => rfl)⟩)
  · rw [← e 2 (by decide)]
    rcases rn with z | z <;> rw [z] <;> decide
  · exfalso
    obtain ⟨q0, q1, q2, q3, q4, q5, q6⟩ := q
    match j, hj, ej with
    | 0, _, ej => exact q0 ej
    | 1, _, ej => exact q1 ej
    | 2, _, ej => exact q2 ej
    | 3, _, ej => exact q3 ej
    | 4, _, ej => exact q4 ej
    | 5, _, ej => exact q5 ej
    | 6, _, ej => exact q6 ej
theorem py_bring {b : Int32} {Z : Int32 → Int32 → Mm → Prop} (i0 : INY M) (h : ∀ r s N, INY N → r = s → Z r s N) : CI mC_bring [.ref 10, .int b] M (fun r N => CI mM_bring [.ref 6027, .int b] N (fun s O => Z r s O)) := by
  obtain ⟨L, P, R, S, U, D, W, t, i, ex⟩ := i0
  refine call_of rfl (Nat.le_of_ble_eq_true rfl) rfl (vC_bring_0 rfl ⟨fun q => ?_, fun q => ?_⟩)
  · have nq : ¬ (¬ b < 0 ∧ ¬ 255 < b) := fun p => by
      rcases q with q | q
      · exact p.1 q
      · exact q.2 (Int32.not_lt.mp p.2)
    refine tM_bring ?_
    rw [mBring, if_neg nq, if_neg nq]
    exact h _ _ M ⟨L, P, R, S, U, D, W, t, i, ex⟩ rfl
  · have pq : ¬ b < 0 ∧ ¬ 255 < b := ⟨q.1, Int32.not_lt.mpr q.2⟩
    refine tM_bring ?_
    rw [mBring, if_pos pq, if_pos pq]
    have g : ∀ a, a ≠ 10 → a ≠ 6027 → gi (si (si M 10 9 b) 6027 9 b) a = gi M a := fun a n1 n2 => by rw [gi_ne n2, gi_ne n1]
    have g1 : ∀ k, k ≠ 9 → gi (si (si M 10 9 b) 6027 9 b) 6027 k = gi M 6027 k := fun k n => by rw [g6 _ _ _ _ n, gi_ne (by decide)]
    refine h _ _ _ ⟨L, P, R, S, U, D, W, t, ?_, ?_⟩ (by rw [gi_ne (by decide)]; exact ex.1.2.1)
    · obtain ⟨i1, i2, i3, i4⟩ := i
      exact ⟨cp_eq i1 (fun _ _ _ _ => rfl) (fun a ha => g a (by omega) (by omega)), mp_eq i2 (fun _ => rfl) (g _ (by decide) (by decide)) (g1 _ (by decide)) (g1 _ (by decide)) (by rw [g _ (by decide) (by decide)]) (by rw [g _ (by decide) (by decide)]), ja_eq i3 (g _ (by decide) (by decide)) (g _ (by decide) (by decide)) (g1 _ (by decide)) (g _ (by decide) (by decide)), js_eq i4 (fun e he => g _ (by unfold sa; omega) (by unfold sa; omega)) (fun e he => g _ (by omega) (by omega)) (g _ (by decide) (by decide)) (g _ (by decide) (by decide)) (g _ (by decide) (by decide))⟩
    · obtain ⟨⟨a1, a2, a3⟩, x1, x2, x3, x4, x5, ⟨x6, x7⟩, x8⟩ := ex.1
      have a1' := a1
      have a2' := a2
      have a3' := a3
      unfold LA at a1'
      unfold RA at a2' a3'
      refine ⟨⟨⟨a1, a2, a3⟩, ?_, ?_, fun i hi => ?_, fun i hi => ?_, fun b hb => ?_, ⟨x6, x7⟩, fun w hw i hi => ?_⟩, ez2 ex.2 (fun a ha => g a (by omega) (by omega)) (fun k _ => by rw [g 6101 (by decide) (by decide)]) (g1 23 (by decide)) (g1 24 (by decide)) (fun k _ => ⟨rfl, rfl⟩) (rv_eq (g 6543 (by decide) (by decide)) (g 6607 (by decide) (by decide)))⟩
      · rw [g6s, gi_ne (by decide), gi_si, if_pos ⟨rfl, rfl⟩]
      · rw [g1 16 (by decide), gi_ne (by decide), gi_si, if_neg (by decide)]; exact x2
      · rw [g R (by omega) (by omega), g 6543 (by decide) (by decide)]; exact x3 i hi
      · rw [g S (by omega) (by omega), g 6607 (by decide) (by decide)]; exact x4 i hi
      · rw [g _ (by omega) (by omega), g 6157 (by decide) (by decide)]; exact x5 b hb
      · rw [g _ (by omega) (by omega), g 6101 (by decide) (by decide)]; exact x8 w hw i hi
theorem py_copies {b n : Int32} {Z : Int32 → Int32 → Mm → Prop} (i0 : INY M) (h : ∀ r s N, INY N → r = s → Z r s N) : CI mC_copies [.ref 10, .int b, .int n] M (fun r N => CI mM_copies [.ref 6027, .int b, .int n] N (fun s O => Z r s O)) := by
  obtain ⟨L, P, R, S, U, D, W, t, i, ex⟩ := i0
  have c := i.1.1
  have hm := i.2.1.1.1
  have hL := cxL c
  unfold LA at hL
  refine call_of rfl (Nat.le_of_ble_eq_true rfl) rfl (vC_copies_0 rfl (cx4 c) (lr2 (cxlr c)) ⟨fun q => ?_, fun q => ?_, fun q => ?_⟩)
  · obtain ⟨i, hi, e⟩ := rng (c := 8) (n := 8) rfl (by decide) q.1 q.2.1
    rw [e]; exact vin hi (by decide)
  · refine tM_copies hm (fun _ => h _ _ M ⟨L, P, R, S, U, D, W, t, i, ex⟩ rfl) (fun k hk ek p1 p2 => ?_)
    exfalso
    have n8 : ¬ (8 : Int32) ≤ b := by rw [ek]; exact nge rfl (by decide) hk
    have n0' : ¬ b < 0 := by rw [ek]; exact n0 k (by omega)
    rcases q with q | q | q | q
    · exact n0' q
    · exact n8 q.2
    · exact p1 q.2.2
    · exact q.2.2.2 (Int32.not_lt.mp p2)
  · obtain ⟨k, hk, ek⟩ := rng (c := 8) (n := 8) rfl (by decide) q.1 q.2.1
    have ec : b.toNatClampNeg = k := by rw [ek]; exact ncl (by omega)
    rw [ec]
    refine ⟨by rw [ek]; exact vin hk (by decide), ?_⟩
    have g0 : ∀ a, a ≠ L + 140 → gi (si M (L + 140) k n) a = gi M a := fun a n1 => gi_ne n1
    refine tM_copies (mr_w hm rfl) (fun p => ?_) (fun k' hk' ek' _ _ => ?_)
    · exfalso
      rcases p with p | p | p | p
      · exact q.1 p
      · rw [ek, show (7 : Int32) = nI 7 from rfl, nlt (by omega) (by omega)] at p; omega
      · exact q.2.2.1 p
      · exact absurd q.2.2.2 (Int32.not_le.mpr p)
    · have kk : k' = k := (ninj (by omega) (by omega)).mp (ek'.symm.trans ek)
      subst kk
      have g : ∀ a, a ≠ L + 140 → a ≠ 6157 → gi (si (si M (L + 140) k' n) 6157 k' n) a = gi M a := fun a n1 n2 => by rw [gi_ne n2, gi_ne n1]
      have hx := ex.1.2.2.2.2.2.1 k' hk'
      refine h _ _ _ ⟨L, P, R, S, U, D, W, t, ?_, ?_⟩ (by rw [g0 _ (by omega)]; exact hx)
      · obtain ⟨i1, i2, i3, i4⟩ := i
        exact ⟨cp_eq i1 (fun _ _ _ _ => rfl) (fun a ha => g a (by omega) (by omega)), mp_eq i2 (fun _ => rfl) (g _ (by omega) (by omega)) (by rw [g _ (by omega) (by omega)]) (by rw [g _ (by omega) (by omega)]) (by rw [g _ (by omega) (by omega)]) (by rw [g _ (by omega) (by omega)]), ja_eq i3 (g _ (by omega) (by omega)) (g _ (by omega) (by omega)) (by rw [g _ (by omega) (by omega)]) (g _ (by omega) (by omega)), js_eq i4 (fun e he => g _ (by unfold sa; omega) (by unfold sa; omega)) (fun e he => g _ (by omega) (by omega)) (g _ (by omega) (by omega)) (g _ (by omega) (by omega)) (g _ (by omega) (by omega))⟩
      · obtain ⟨⟨a1, a2, a3⟩, x1, x2, x3, x4, x5, ⟨x6, x7⟩, x8⟩ := ex.1
        have a2' := a2
        have a3' := a3
        unfold RA at a2' a3'
        refine ⟨⟨⟨a1, a2, a3⟩, ?_, ?_, fun i hi => ?_, fun i hi => ?_, fun b hb => ?_, ⟨x6, x7⟩, fun w hw i hi => ?_⟩, ez2 ex.2 (fun a ha => g a (by omega) (by omega)) (fun k _ => by rw [g 6101 (by omega) (by omega)]) (by rw [g 6027 (by omega) (by omega)]) (by rw [g 6027 (by omega) (by omega)]) (fun k _ => ⟨rfl, rfl⟩) (rv_eq (g 6543 (by omega) (by omega)) (g 6607 (by omega) (by omega)))⟩
        · rw [g 10 (by omega) (by omega), g 6027 (by omega) (by omega)]; exact x1
        · rw [g 10 (by omega) (by omega), g 6027 (by omega) (by omega)]; exact x2
        · rw [g R (by omega) (by omega), g 6543 (by omega) (by omega)]; exact x3 i hi
        · rw [g S (by omega) (by omega), g 6607 (by omega) (by omega)]; exact x4 i hi
        · rw [gi_ne (show L + 140 ≠ 6157 by omega), gxs, gxs, g0 6157 (by omega)]
          by_cases z : b = k'
          · rw [if_pos z, if_pos z]
          · rw [if_neg z, if_neg z]; exact x5 b hb
        · rw [g _ (by omega) (by omega), g 6101 (by omega) (by omega)]; exact x8 w hw i hi
theorem py_keep {Z : Int32 → Int32 → Mm → Prop} (i0 : INY M) (h : ∀ r s N, INY N → r = s → Z r s N) : CI mC_keep [.ref 10] M (fun r N => CI mM_keep [.ref 6027] N (fun s O => Z r s O)) := by
  obtain ⟨L, P, R, S, U, D, W, t, i, ex⟩ := i0
  refine lC_keep i.1.1 (rn_of i.1 (cxR i.1.1)) (fun N pN rN eN => ?_)
  have hS : RA S := i.1.1.2.2.1.2.2.2.1
  have g : ∀ a, a ≠ 199 → a ≠ S → gi N a = gi M a := pN.2.2
  have hL := cxL i.1.1
  have iN : IV N L P R S U D W t := by
    obtain ⟨i1, i2, i3, i4⟩ := i
    have hS' := hS
    unfold RA at hS'
    unfold LA at hL
    refine ⟨?_, mp_eq i2 (fun _ => by rw [pN.1]) (g _ (by decide) (by omega)) (by rw [g _ (by decide) (by omega)]) (by rw [g _ (by decide) (by omega)]) (by rw [g _ (by decide) (by omega)]) (by rw [g _ (by decide) (by omega)]), ja_eq i3 (g _ (by decide) (by omega)) (g _ (by decide) (by omega)) (by rw [g _ (by decide) (by omega)]) (g _ (by decide) (by omega)), js_eq i4 (fun e he => g _ (by unfold sa; omega) (by unfold sa; omega)) (fun e he => g _ (by omega) (by omega)) (g _ (by decide) (by omega)) (g _ (by decide) (by omega)) (g _ (by decide) (by omega))⟩
    have rr : ∀ X, RA X → RN N X := by
      intro X hX
      by_cases e : X = S
      · rw [e]; exact rN
      · unfold RN
        rw [g X (by unfold RA at hX; omega) e]
        exact rn_of i1 hX
    obtain ⟨c1, c2, c3, -⟩ := i1
    refine ⟨cx_gr c1 (fun a j _ => by rw [pN.1]), ?_, c3, rr _ (Or.inl rfl), rr _ (Or.inr (Or.inl rfl)), rr _ (Or.inr (Or.inr rfl))⟩
    rw [g L (by omega) (by omega)]; exact c2
  refine tM_keep iN.2.1.1.1 (fun O kO => h _ _ O ⟨L, P, R, S, U, D, W, t, ?_, ?_⟩ rfl)
  · obtain ⟨i1, i2, i3, i4⟩ := iN
    have g2 : ∀ a, a ≠ 6607 → gi O a = gi N a := kO.2.2.1
    refine ⟨cp_eq i1 (fun _ _ _ _ => by rw [kO.1]) (fun a ha => g2 a (by omega)), ⟨jw_eq i2.1 (fun _ => by rw [kO.1]) (g2 _ (by decide)) (by rw [g2 _ (by decide)]) (by rw [g2 _ (by decide)]), i2.2.1, ?_, ?_, ?_⟩, ja_eq i3 (g2 _ (by decide)) (g2 _ (by decide)) (by rw [g2 _ (by decide)]) (g2 _ (by decide)), js_eq i4 (fun e he => g2 _ (by unfold sa; omega)) (fun e he => g2 _ (by omega)) (g2 _ (by decide)) (g2 _ (by decide)) (g2 _ (by decide))⟩
    · unfold HD; rw [g2 _ (by decide)]; exact i2.2.2.1
    · unfold HO; rw [kO.2.2.2 4, if_pos (by decide)]; exact i2.2.2.1
    · unfold UM; rw [g2 _ (by decide)]; exact i2.2.2.2.2
  · obtain ⟨⟨a1, a2, a3⟩, x1, x2, x3, x4, x5, ⟨x6, x7⟩, x8⟩ := ex.1
    have a1' := a1
    have a2' := a2
    have a3' := a3
    unfold LA at a1'
    unfold RA at a2' a3'
    have ne : R ≠ S := i.1.1.2.2.2.2.2.1
    have gg : ∀ a, a ≠ 6607 → a ≠ 199 → a ≠ S → gi O a = gi M a := fun a n1 n2 n3 => by
      have := kO.2.2.1 a n1
      rw [this]; exact g a n2 n3
    refine ⟨⟨⟨a1, a2, a3⟩, ?_, ?_, fun i hi => ?_, fun i hi => ?_, fun b hb => ?_, ⟨x6, x7⟩, fun w hw i hi => ?_⟩, ez2 ex.2 (fun a ha => gg a (by omega) (by omega) (by omega)) (fun k _ => by rw [gg 6101 (by decide) (by decide) (by omega)]) (by rw [gg 6027 (by decide) (by decide) (by omega)]) (by rw [gg 6027 (by decide) (by decide) (by omega)]) (fun k _ => by rw [kO.2.1, pN.2.1]; exact ⟨rfl, rfl⟩) (fun rv => ⟨by rw [gg 6543 (by decide) (by decide) (by omega)]; exact rv.1, by rw [kO.2.2.2 3, if_pos (by decide), g 6543 (by decide) (by omega)]; exact rv.1.1, by rw [kO.2.2.2 6, if_pos (by decide), g 6543 (by decide) (by omega)]; exact rv.1.2.1, by rw [kO.2.2.2 5, if_pos (by decide), g 6543 (by decide) (by omega)]; exact rv.1.2.2⟩)⟩
    · rw [gg 10 (by decide) (by decide) (by omega), gg 6027 (by decide) (by decide) (by omega)]; exact x1
    · rw [gg 10 (by decide) (by decide) (by omega), gg 6027 (by decide) (by decide) (by omega)]; exact x2
    · rw [gg R (by omega) (by omega) ne, gg 6543 (by decide) (by decide) (by omega)]; exact x3 i hi
    · rw [kO.2.2.2 i, if_pos hi, kO.2.2.1 S (by omega), eN i hi, g 6543 (by decide) (by omega)]; exact x3 i hi
    · rw [gg _ (by omega) (by omega) (by omega), gg 6157 (by decide) (by decide) (by omega)]; exact x5 b hb
    · rw [gg _ (by omega) (by omega) (by omega), gg 6101 (by decide) (by decide) (by omega)]; exact x8 w hw i hi
theorem py_swap {Z : Int32 → Int32 → Mm → Prop} (i0 : INY M) (h : ∀ r s N, INY N → r = s → Z r s N) : CI mC_swap [.ref 10] M (fun r N => CI mM_swap [.ref 6027] N (fun s O => Z r s O)) := by
  obtain ⟨L, P, R, S, U, D, W, t, i, ex⟩ := i0
  refine lC_swap i.1.1 ?_
  have iN : IV (sr (sr M 10 6 (some S)) 10 7 (some R)) L P S R U D W t := by
    obtain ⟨i1, i2, i3, i4⟩ := i
    have gr' : ∀ a j, gr (sr (sr M 10 6 (some S)) 10 7 (some R)) a j = if a = 10 ∧ j = 7 then some R else if a = 10 ∧ j = 6 then some S else gr M a j := fun a j => by rw [gr_sr, gr_sr]
    have gn : ∀ a j, a ≠ 10 → gr (sr (sr M 10 6 (some S)) 10 7 (some R)) a j = gr M a j := fun a j n => by rw [gr', if_neg (fun e => n e.1), if_neg (fun e => n e.1)]
    obtain ⟨⟨x1, ⟨x2, x3, x4, x5, x6⟩, ⟨y1, y2, y3, y4, y5⟩, ⟨x8, x9⟩, ⟨z1, z2, z3, z4⟩⟩, c2⟩ := i1
    have lr : ∀ {L}, LA L → LR M L → LR (sr (sr M 10 6 (some S)) 10 7 (some R)) L := fun {L} hL h => by
      refine ⟨h.1, fun q hq => ?_, fun w hw => ?_⟩
      · rw [gn L q.1 (by unfold LA at hL; omega)]; exact h.2.1 q hq
      · rw [gn (L + 81) w (by omega)]; exact h.2.2 w hw
    have nq : ∀ q ∈ cgt, ¬ (q.1 = 10 ∧ q.2.1 = 7) ∧ ¬ (q.1 = 10 ∧ q.2.1 = 6) := by decide
    refine ⟨⟨⟨fun q hq => ?_, ⟨?_, ?_, ?_, ?_, ?_⟩, ⟨y1, y2, y4, y3, y5⟩, ⟨lr y1 x8, lr y2 x9⟩, ⟨z1, Ne.symm z2, z4, z3⟩⟩, c2⟩, mp_eq i2 (fun k => gn _ _ (by decide)) rfl rfl rfl rfl rfl, i3, i4⟩
    · rw [gr', if_neg (nq q hq).1, if_neg (nq q hq).2]; exact x1 q hq
    · rw [gr', if_neg (by decide), if_neg (by decide)]; exact x2
    · rw [gr', if_neg (by decide), if_neg (by decide)]; exact x3
    · rw [gr', if_neg (by decide), if_pos (by decide)]
    · rw [gr', if_pos (by decide)]
    · rw [gr', if_neg (by decide), if_neg (by decide)]; exact x6
  refine sM_swap iN.2.1.1.1 (fun O kO => h _ _ O ⟨L, P, S, R, U, D, W, t, ?_, ?_⟩ rfl)
  · obtain ⟨i1, i2, i3, i4⟩ := iN
    have g2 := kO.2.2.1
    refine ⟨cp_eq i1 (fun _ _ _ _ => by rw [kO.1]) (fun a ha => g2 a (by omega) (by omega)), ⟨jw_eq i2.1 (fun _ => by rw [kO.1]) (g2 _ (by decide) (by decide)) (by rw [g2 _ (by decide) (by decide)]) (by rw [g2 _ (by decide) (by decide)]), i2.2.1, ?_, ?_, ?_⟩, ja_eq i3 (g2 _ (by decide) (by decide)) (g2 _ (by decide) (by decide)) (by rw [g2 _ (by decide) (by decide)]) (g2 _ (by decide) (by decide)), js_eq i4 (fun e he => g2 _ (by unfold sa; omega) (by unfold sa; omega)) (fun e he => g2 _ (by omega) (by omega)) (g2 _ (by decide) (by decide)) (g2 _ (by decide) (by decide)) (g2 _ (by decide) (by decide))⟩
    · unfold HD; rw [kO.2.2.2.1 4, if_pos (by decide)]; exact i2.2.2.2.1
    · unfold HO; rw [kO.2.2.2.2 4, if_pos (by decide)]; exact i2.2.2.1
    · unfold UM; rw [g2 _ (by decide) (by decide)]; exact i2.2.2.2.2
  · obtain ⟨⟨a1, a2, a3⟩, x1, x2, x3, x4, x5, ⟨x6, x7⟩, x8⟩ := ex.1
    have a1' := a1
    have a2' := a2
    have a3' := a3
    unfold LA at a1'
    unfold RA at a2' a3'
    have gg : ∀ a, a ≠ 6543 → a ≠ 6607 → gi O a = gi M a := fun a n1 n2 => by
      have := kO.2.2.1 a n1 n2
      rw [this]; rfl
    refine ⟨⟨⟨a1, a3, a2⟩, ?_, ?_, fun i hi => ?_, fun i hi => ?_, fun b hb => ?_, ⟨x6, x7⟩, fun w hw i hi => ?_⟩, ez2 ex.2 (fun a ha => gg a (by omega) (by omega)) (fun k _ => by rw [gg 6101 (by decide) (by decide)]) (by rw [gg 6027 (by decide) (by decide)]) (by rw [gg 6027 (by decide) (by decide)]) (fun k _ => by rw [kO.2.1]; exact ⟨rfl, rfl⟩) (fun rv => ⟨⟨by rw [kO.2.2.2.1 3, if_pos (by decide)]; exact rv.2.1, by rw [kO.2.2.2.1 6, if_pos (by decide)]; exact rv.2.2.1, by rw [kO.2.2.2.1 5, if_pos (by decide)]; exact rv.2.2.2⟩, by rw [kO.2.2.2.2 3, if_pos (by decide)]; exact rv.1.1, by rw [kO.2.2.2.2 6, if_pos (by decide)]; exact rv.1.2.1, by rw [kO.2.2.2.2 5, if_pos (by decide)]; exact rv.1.2.2⟩)⟩
    · rw [gg 10 (by decide) (by decide), gg 6027 (by decide) (by decide)]; exact x1
    · rw [gg 10 (by decide) (by decide), gg 6027 (by decide) (by decide)]; exact x2
    · rw [gg S (by omega) (by omega), kO.2.2.2.1 i, if_pos hi]; exact x4 i hi
    · rw [gg R (by omega) (by omega), kO.2.2.2.2 i, if_pos hi]; exact x3 i hi
    · rw [gg _ (by omega) (by omega), gg 6157 (by decide) (by decide)]; exact x5 b hb
    · rw [gg _ (by omega) (by omega), gg 6101 (by decide) (by decide)]; exact x8 w hw i hi
theorem py_feed {v : Int64} {Z : Int32 → Int32 → Mm → Prop} (i0 : INY M) (h : ∀ r s N, INY N → r = s → Z r s N) : CI mC_feed [.ref 10, .long v] M (fun r N => CI mM_feed [.ref 6027, .long v] N (fun s O => Z r s O)) := by
  obtain ⟨L, P, R, S, U, D, W, t, i, ex⟩ := i0
  have i' := i
  obtain ⟨i1, i2, i3, i4⟩ := i
  refine sC_feed i1.1 i3.1 i3.2.1 (fun l => ?_) (fun l N fN => ?_)
  · exact tM_feed i2.1.1 i3.2.2.1 i3.2.1 (fun _ => h _ _ M ⟨L, P, R, S, U, D, W, t, i', ex⟩ rfl) (fun l2 => absurd l2 (by omega))
  · have g : ∀ a, a ≠ 145 → a ≠ 70 → gi (si N 70 1 (nI (t + 8))) a = gi M a := fun a n1 n2 => by rw [gi_ne n2]; exact fN.2.2.1 a n1
    have gR : gr (si N 70 1 (nI (t + 8))) = gr M := fN.1
    have hL := cxL i1.1
    have c1 : CP (si N 70 1 (nI (t + 8))) L P R S U D := cp_eq i1 (fun _ _ _ _ => by rw [gR]) (fun a ha => g a (by omega) (by omega))
    have m1 : MP (si N 70 1 (nI (t + 8))) W := mp_eq i2 (fun _ => by rw [gR]) (g _ (by decide) (by decide)) (by rw [g _ (by decide) (by decide)]) (by rw [g _ (by decide) (by decide)]) (by rw [g _ (by decide) (by decide)]) (by rw [g _ (by decide) (by decide)])
    have s1 : JS (si N 70 1 (nI (t + 8))) := js_eq i4 (fun e he => g _ (by unfold sa; omega) (by unfold sa; omega)) (fun e he => g _ (by omega) (by omega)) (g _ (by decide) (by decide)) (g _ (by decide) (by decide)) (g _ (by decide) (by decide))
    refine tM_feed m1.1.1 (by rw [g _ (by decide) (by decide)]; exact i3.2.2.1) i3.2.1 (fun l2 => absurd l2 (by omega)) (fun _ O fO => h _ _ O ⟨L, P, R, S, U, D, W, t + 8, ?_, ?_⟩ rfl)
    rotate_left
    · have g2 : ∀ a, a ≠ 6486 → a ≠ 6027 → gi O a = gi (si N 70 1 (nI (t + 8))) a := fO.2.2.1
      have f2 : ∀ k, k ≠ 11 → gi O 6027 k = gi (si N 70 1 (nI (t + 8))) 6027 k := fun k n => by rw [fO.2.2.2.1 k, if_neg n]
      exact ez_eq ex (fun a ha => by rw [g2 a (by omega) (by omega), g a (by omega) (by omega)]) (fun k _ => by rw [g2 6101 (by decide) (by decide), g 6101 (by decide) (by decide)]) (fun k hk => by rw [f2 k (by omega), g 6027 (by decide) (by decide)]) (fun k _ => by rw [fO.2.1]; show gl N 6874 k = _ ∧ gl N 6938 k = _; rw [fN.2.1]; exact ⟨rfl, rfl⟩)
    have g2 : ∀ a, a ≠ 6486 → a ≠ 6027 → gi O a = gi (si N 70 1 (nI (t + 8))) a := fO.2.2.1
    have f2 : ∀ k, k ≠ 11 → gi O 6027 k = gi (si N 70 1 (nI (t + 8))) 6027 k := fun k n => by rw [fO.2.2.2.1 k, if_neg n]
    refine ⟨cp_eq c1 (fun _ _ _ _ => by rw [fO.1]) (fun a ha => g2 a (by omega) (by omega)), mp_eq m1 (fun _ => by rw [fO.1]) (g2 _ (by decide) (by decide)) (f2 _ (by decide)) (f2 _ (by decide)) (by rw [g2 _ (by decide) (by decide)]) (by rw [g2 _ (by decide) (by decide)]), ⟨?_, by omega, ?_, fun k hk => ?_⟩, js_eq s1 (fun e he => g2 _ (by unfold sa; omega) (by unfold sa; omega)) (fun e he => g2 _ (by omega) (by omega)) (g2 _ (by decide) (by decide)) (g2 _ (by decide) (by decide)) (g2 _ (by decide) (by decide))⟩
    · rw [g2 _ (by decide) (by decide), gi_si, if_pos ⟨rfl, rfl⟩]
    · rw [fO.2.2.2.1 11, if_pos rfl]
    · rw [g2 145 (by decide) (by decide), gi_ne (show (145 : Nat) ≠ 70 by decide), fN.2.2.2 k, fO.2.2.2.2 k, g 6486 (by decide) (by decide)]
      by_cases q : t ≤ k ∧ k < t + 8
      · rw [if_pos q, if_pos q]; exact by_feed v (by omega)
      · rw [if_neg q, if_neg q]; exact i3.2.2.2 k hk
theorem py_end {n : Int32} {Z : Int32 → Int32 → Mm → Prop} (i0 : INY M) (h : ∀ r s N, INY N → r = s → Z r s N) : CI mC_end [.ref 10, .int n] M (fun r N => CI mM_end [.ref 6027, .int n] N (fun s O => Z r s O)) := by
  obtain ⟨L, P, R, S, U, D, W, t, i, ex⟩ := i0
  have i' := i
  obtain ⟨i1, i2, i3, i4⟩ := i
  have ht := i3.2.1
  refine sC_end i1.1 (fun q => tM_end (fun _ => h _ _ M ⟨L, P, R, S, U, D, W, t, i', ex⟩ rfl) (fun q1 q2 => ?_)) (fun q1 q2 => ?_)
  · rw [i3.1] at q
    rw [i3.2.2.1] at q2
    rcases q with q | q
    · exact absurd q q1
    · exact absurd (Int32.not_lt.mp q2) q
  · rw [i3.1] at q2
    obtain ⟨m, hm, rfl⟩ := nI_of q1
    rw [nle (by omega) hm] at q2
    have g : ∀ a, a ≠ 70 → gi (si M 70 1 (nI m)) a = gi M a := fun a n2 => gi_ne n2
    have e11 : gi (si M 70 1 (nI m)) 6027 11 = nI t := by rw [g _ (by decide)]; exact i3.2.2.1
    refine tM_end (fun q => ?_) (fun _ _ => h _ _ _ ⟨L, P, R, S, U, D, W, m, ?_, ez_eq ex (fun a ha => by rw [gi_ne (by omega), gi_ne (by omega)]) (fun k _ => by rw [gi_ne (by decide), gi_ne (by decide)]) (fun k hk => by rw [g6 _ _ _ _ (by omega), gi_ne (by decide)]) (fun k _ => ⟨rfl, rfl⟩)⟩ (by rw [i3.1, e11]))
    · exfalso
      rw [e11] at q
      rcases q with q | q
      · exact q1 q
      · rw [nlt (by omega) (by omega)] at q; omega
    · have g2 : ∀ a, a ≠ 70 → a ≠ 6027 → gi (si (si M 70 1 (nI m)) 6027 11 (nI m)) a = gi M a := fun a n1 n2 => by rw [gi_ne n2, gi_ne n1]
      have f2 : ∀ k, k ≠ 11 → gi (si (si M 70 1 (nI m)) 6027 11 (nI m)) 6027 k = gi M 6027 k := fun k n => by rw [g6 _ _ _ _ n, g _ (by decide)]
      refine ⟨cp_eq i1 (fun _ _ _ _ => rfl) (fun a ha => g2 a (by omega) (by omega)), mp_eq i2 (fun _ => rfl) (g2 _ (by decide) (by decide)) (f2 _ (by decide)) (f2 _ (by decide)) (by rw [g2 _ (by decide) (by decide)]) (by rw [g2 _ (by decide) (by decide)]), ⟨?_, by omega, g6s _ _ _, fun k hk => ?_⟩, js_eq i4 (fun e he => g2 _ (by unfold sa; omega) (by unfold sa; omega)) (fun e he => g2 _ (by omega) (by omega)) (g2 _ (by decide) (by decide)) (g2 _ (by decide) (by decide)) (g2 _ (by decide) (by decide))⟩
      · rw [gi_ne (by decide), gi_si, if_pos ⟨rfl, rfl⟩]
      · rw [g2 145 (by decide) (by decide), g2 6486 (by decide) (by decide)]; exact i3.2.2.2 k hk
theorem py_sheet {k l n : Int32} {Z : Int32 → Int32 → Mm → Prop} (i0 : INY M) (h : ∀ r s N, INY N → r = s → Z r s N) : CI mC_sheet [.ref 10, .int k, .int l, .int n] M (fun r N => CI mM_sheet [.ref 6027, .int k, .int l, .int n] N (fun s O => Z r s O)) := by
  obtain ⟨L, P, R, S, U, D, W, t, i, ex⟩ := i0
  have i' := i
  obtain ⟨i1, i2, i3, i4⟩ := i
  have hL := cxL i1.1
  refine lC_sheet i1.1 (fun q => ?_) (fun q1 q2 q3 => ?_) (fun e he ek il q2 q3 => ?_)
  · refine tM_sheet i2.1.1 (fun _ => h _ _ M ⟨L, P, R, S, U, D, W, t, i', ex⟩ rfl) (fun p1 p2 p3 => ?_) (fun e he ek il p2 p3 => ?_)
    · exfalso
      rcases q with q | q
      · rw [p1] at q; exact absurd q (by decide)
      · exact q p2
    · exfalso
      rcases q with q | q
      · rw [isS_e he ek, il] at q; exact absurd q (by decide)
      · exact q p2
  · refine tM_sheet i2.1.1 (fun p => ?_) (fun _ _ _ => h _ _ M ⟨L, P, R, S, U, D, W, t, i', ex⟩ rfl) (fun e he ek il p2 p3 => absurd p3 q3)
    exfalso
    rcases p with p | p
    · rw [q1] at p; exact absurd p (by decide)
    · exact p q2
  · generalize eA : fl (si (si M (sa e) 1 l) (sa e) 2 n) (5588 + 128 * e) 40 0 = A
    have sae : ∀ x, x < 4 → sa x = 5509 + 128 * x := fun x _ => rfl
    have g : ∀ a, a ≠ sa e → a ≠ 5588 + 128 * e → gi A a = gi M a := fun a n1 n2 => by
      rw [← eA]; funext j; rw [flR _ _ _ _ _ _ n2, giR _ _ _ _ _ _ n1, giR _ _ _ _ _ _ n1]
    have gR : gr A = gr M := by rw [← eA]; rfl
    have a1 : gi A (sa e) 1 = l := by rw [← eA, flR _ _ _ _ _ _ (by rw [sae e he]; omega), gi_si, if_neg (by omega), gi_si, if_pos ⟨rfl, rfl⟩]
    have a2 : gi A (sa e) 2 = n := by rw [← eA, flR _ _ _ _ _ _ (by rw [sae e he]; omega), gi_si, if_pos ⟨rfl, rfl⟩]
    have a3 : ∀ j, j < 40 → gi A (5588 + 128 * e) j = 0 := fun j hj => by rw [← eA, gi_fl, if_pos ⟨rfl, hj⟩]
    have sa' := sae e he
    have c1 : CP A L P R S U D := cp_eq i1 (fun _ _ _ _ => by rw [gR]) (fun a ha => g a (by omega) (by omega))
    have m1 : MP A W := mp_eq i2 (fun _ => by rw [gR]) (g _ (by omega) (by omega)) (by rw [g _ (by omega) (by omega)]) (by rw [g _ (by omega) (by omega)]) (by rw [g _ (by omega) (by omega)]) (by rw [g _ (by omega) (by omega)])
    have j1 : JA A t := ja_eq i3 (g _ (by omega) (by omega)) (g _ (by omega) (by omega)) (by rw [g _ (by omega) (by omega)]) (g _ (by omega) (by omega))
    refine tM_sheet m1.1.1 (fun p => ?_) (fun _ _ p => absurd q3 p) (fun e' he' ek' _ _ _ O fO => ?_)
    · exfalso
      rcases p with p | p
      · rw [isS_e he ek, il] at p; exact absurd p (by decide)
      · exact p q2
    · have ee : e' = e := (ninj (by omega) (by omega)).mp (ek'.symm.trans ek)
      subst ee
      have g2 : ∀ a, a ≠ 7644 → a ≠ 7708 → a ≠ 7773 → gi O a = gi A a := fO.2.2.1
      refine h _ _ O ⟨L, P, R, S, U, D, W, t, ⟨cp_eq c1 (fun _ _ _ _ => by rw [fO.1]) (fun a ha => g2 a (by omega) (by omega) (by omega)), mp_eq m1 (fun _ => by rw [fO.1]) (g2 _ (by decide) (by decide) (by decide)) (by rw [g2 _ (by decide) (by decide) (by decide)]) (by rw [g2 _ (by decide) (by decide) (by decide)]) (by rw [g2 _ (by decide) (by decide) (by decide)]) (by rw [g2 _ (by decide) (by decide) (by decide)]), ja_eq j1 (g2 _ (by decide) (by decide) (by decide)) (g2 _ (by decide) (by decide) (by decide)) (by rw [g2 _ (by decide) (by decide) (by decide)]) (g2 _ (by decide) (by decide) (by decide)), fun x hx => ?_⟩, ez_eq ex (fun a ha => by rw [g2 a (by omega) (by omega) (by omega), g a (by omega) (by omega)]) (fun k _ => by rw [g2 6101 (by decide) (by decide) (by decide), g 6101 (by omega) (by omega)]) (fun k _ => by rw [g2 6027 (by decide) (by decide) (by decide), g 6027 (by omega) (by omega)]) (fun k _ => by rw [fO.2.1, ← eA]; exact ⟨rfl, rfl⟩)⟩ rfl
      have sx := sae x hx
      by_cases z : x = e'
      · subst z
        have q3' : ¬ n < 0 := Int32.not_lt.mpr q3
        obtain ⟨m, hm, em⟩ := rngL (c := 40) (n := 40) rfl (by decide) q3' (Int32.not_lt.mpr q2)
        refine ⟨⟨m, by omega, ?_, ?_⟩, ?_, fun j hj => ?_⟩
        · rw [g2 _ (by omega) (by omega) (by omega), a2]; exact em
        · rw [fO.2.2.2.2.1 x, if_pos rfl]; exact em
        · rw [g2 _ (by omega) (by omega) (by omega), a1, fO.2.2.2.1 x, if_pos rfl]
        · rw [g2 _ (by omega) (by omega) (by omega), a3 j hj, fO.2.2.2.2.2, if_pos (by omega)]
      · obtain ⟨⟨m, b1, b2, b3⟩, b4, b5⟩ := i4 x hx
        refine ⟨⟨m, b1, ?_, ?_⟩, ?_, fun j hj => ?_⟩
        · rw [g2 _ (by omega) (by omega) (by omega), g _ (by omega) (by omega)]; exact b2
        · rw [fO.2.2.2.2.1 x, if_neg z, g _ (by omega) (by omega)]; exact b3
        · rw [g2 _ (by omega) (by omega) (by omega), g _ (by omega) (by omega), fO.2.2.2.1 x, if_neg z, g _ (by omega) (by omega)]; exact b4
        · rw [g2 _ (by omega) (by omega) (by omega), g _ (by omega) (by omega), fO.2.2.2.2.2, if_neg (by omega), g _ (by omega) (by omega)]; exact b5 j hj
theorem py_lay {k j v : Int32} {Z : Int32 → Int32 → Mm → Prop} (i0 : INY M) (h : ∀ r s N, INY N → r = s → Z r s N) : CI mC_lay [.ref 10, .int k, .int j, .int v] M (fun r N => CI mM_lay [.ref 6027, .int k, .int j, .int v] N (fun s O => Z r s O)) := by
  obtain ⟨L, P, R, S, U, D, W, t, i, ex⟩ := i0
  have i' := i
  obtain ⟨i1, i2, i3, i4⟩ := i
  have hI : INY M := ⟨L, P, R, S, U, D, W, t, i', ex⟩
  have hm := js_m i4
  have uq : ∀ {e e' : Nat}, e < 4 → e' < 4 → k = nI e → k = nI e' → e' = e := fun h1 h2 a b => (ninj (by omega) (by omega)).mp (b.symm.trans a)
  refine lC_lay i1.1 (js_n i4) (fun q => ?_) (fun e he ek q => ?_) (fun e he ek q1 q2 => ?_) (fun e c n he ek ec hn en hc q => ?_)
  · refine tM_lay i2.1.1 hm (fun _ => h _ _ M hI rfl) (fun e he ek _ => ?_) (fun e he ek _ _ => ?_) (fun e c n he ek _ _ _ _ _ => ?_)
    all_goals exact absurd (isS_e he ek) (by rw [q]; decide)
  · have b4 := (i4 e he).2.1
    refine tM_lay i2.1.1 hm (fun p => absurd (isS_e he ek) (by rw [p]; decide)) (fun e' _ _ _ => h _ _ M hI rfl) (fun e' he' ek' p _ => ?_) (fun e' c n he' ek' _ _ _ _ p => ?_)
    all_goals
      have := uq he he' ek ek'
      subst this
      exact absurd (b4.symm.trans q) p
  · obtain ⟨⟨m, b1, b2, b3⟩, b4, -⟩ := i4 e he
    refine tM_lay i2.1.1 hm (fun p => absurd (isS_e he ek) (by rw [p]; decide)) (fun e' he' ek' p => ?_) (fun e' _ _ _ _ => h _ _ M hI rfl) (fun e' c n he' ek' ec hn en hc p => ?_)
    · have := uq he he' ek ek'
      subst this
      exact absurd (b4.trans p) q1
    · have := uq he he' ek ek'
      subst this
      exfalso
      have mn : m = n := (ninj (by omega) (by omega)).mp (b3.symm.trans en)
      rw [b2, ec] at q2
      rcases q2 with q2 | q2
      · exact n0 c (by omega) q2
      · rw [nle (by omega) (by omega)] at q2; omega
  · obtain ⟨⟨m, b1, b2, b3⟩, b4, b5⟩ := i4 e he
    have mn : m = n := (ninj (by omega) (by omega)).mp (b2.symm.trans en)
    subst mn
    have sae : ∀ x, sa x = 5509 + 128 * x := fun x => rfl
    generalize ew : layv (gi M (sa e) 1) v = w
    have g : ∀ a, a ≠ 5588 + 128 * e → gi (si M (5588 + 128 * e) c w) a = gi M a := fun a n1 => gi_ne n1
    have se := sae e
    have c1 : CP (si M (5588 + 128 * e) c w) L P R S U D := cp_eq i1 (fun _ _ _ _ => rfl) (fun a ha => g a (by omega))
    have m1 : MP (si M (5588 + 128 * e) c w) W := mp_eq i2 (fun _ => rfl) (g _ (by omega)) (by rw [g _ (by omega)]) (by rw [g _ (by omega)]) (by rw [g _ (by omega)]) (by rw [g _ (by omega)])
    have j1 : JA (si M (5588 + 128 * e) c w) t := ja_eq i3 (g _ (by omega)) (g _ (by omega)) (by rw [g _ (by omega)]) (g _ (by omega))
    have h7708 : gi (si M (5588 + 128 * e) c w) 7708 = gi M 7708 := g _ (by omega)
    have h7644 : gi (si M (5588 + 128 * e) c w) 7644 = gi M 7644 := g _ (by omega)
    refine tM_lay m1.1.1 (fun x hx => by rw [h7708]; exact hm x hx) (fun p => absurd (isS_e he ek) (by rw [p]; decide)) (fun e' he' ek' p => ?_) (fun e' he' ek' p1 p2 => ?_) (fun e' c' n' he' ek' ec' hn' en' hc' p => ?_)
    · have := uq he he' ek ek'
      subst this
      rw [h7644] at p
      exact absurd (b4.trans p) q
    · have := uq he he' ek ek'
      subst this
      exfalso
      rw [h7708, b3, ec] at p2
      rcases p2 with p2 | p2
      · exact n0 c (by omega) p2
      · rw [nle (by omega) (by omega)] at p2; omega
    · have := uq he he' ek ek'
      subst this
      have cc : c' = c := (ninj (by omega) (by omega)).mp (ec'.symm.trans ec)
      subst cc
      rw [h7644, ← b4, ew]
      have g2 : ∀ a, a ≠ 7773 → gi (si (si M (5588 + 128 * e') c' w) 7773 (40 * e' + c') w) a = gi (si M (5588 + 128 * e') c' w) a := fun a n1 => gi_ne n1
      refine h _ _ _ ⟨L, P, R, S, U, D, W, t, ⟨cp_eq c1 (fun _ _ _ _ => rfl) (fun a ha => g2 a (by omega)), mp_eq m1 (fun _ => rfl) (g2 _ (by omega)) (by rw [g2 _ (by omega)]) (by rw [g2 _ (by omega)]) (by rw [g2 _ (by omega)]) (by rw [g2 _ (by omega)]), ja_eq j1 (g2 _ (by omega)) (g2 _ (by omega)) (by rw [g2 _ (by omega)]) (g2 _ (by omega)), fun x hx => ?_⟩, ez_eq ex (fun a ha => by rw [g2 a (by omega), g a (by omega)]) (fun k _ => by rw [g2 6101 (by omega), g 6101 (by omega)]) (fun k _ => by rw [g2 6027 (by omega), g 6027 (by omega)]) (fun k _ => ⟨rfl, rfl⟩)⟩ rfl
      have sx := sae x
      obtain ⟨⟨m2, d1, d2, d3⟩, d4, d5⟩ := i4 x hx
      refine ⟨⟨m2, d1, ?_, ?_⟩, ?_, fun a ha => ?_⟩
      · rw [g2 _ (by omega), g _ (by omega)]; exact d2
      · rw [g2 _ (by omega), h7708]; exact d3
      · rw [g2 _ (by omega), g _ (by omega), g2 _ (by omega), h7644]; exact d4
      · rw [g2 _ (by omega), gi_si, gi_si, g 7773 (by omega), d5 a ha]
        by_cases z : x = e' ∧ a = c'
        · rw [if_pos (by omega), if_pos (by omega)]
        · rw [if_neg (by omega), if_neg (by omega)]
end EQV2
/-! ===== library and rule on both sides: what was read is the same ===== -/
section EQV3
variable {M : Mm}
theorem py_library {Z : Int32 → Int32 → Mm → Prop} (i0 : INY M) (h : ∀ r s N, INY N → r = s → Z r s N) : CI mC_library [.ref 10] M (fun r N => CI mM_library [.ref 6027] N (fun s O => Z r s O)) := by
  obtain ⟨L, P, R, S, U, D, W, t, i, exx⟩ := i0
  obtain ⟨i1, i2, i3, i4⟩ := i
  have hP : LA P := i1.1.2.2.1.2.1
  have hL := cxL i1.1
  have hP' := hP
  have hL' := hL
  unfold LA at hP' hL'
  generalize eT : gi M 6486 = T
  generalize ex : gi M 6027 14 = x0
  generalize ev : gi M 6027 15 = v0
  generalize ep : gi M 6027 17 = p0
  have tcM : TC M T t := by rw [← eT]; exact tc_of i1.1 i3
  -- what stands of both behind the class's call
  have st : ∀ N, LCF P M N → TP N T t ∧ MP N W ∧ JS N ∧ (∀ k, k < 400 → BY (gi N 145 k) (gi N 6486 k)) ∧ gi N 6027 14 = x0 ∧ gi N 6027 15 = v0 ∧ gi N 6027 17 = p0 := by
    intro N f
    obtain ⟨f1, f2, f3, f4⟩ := f
    have g : ∀ a, a ≠ 199 → a ≠ 258 → a ≠ 70 → a ≠ 10 → ¬ (P ≤ a ∧ a < P + 2304) → gi N a = gi M a := f3
    have mN : MP N W := mp_eq i2 (fun k => by rw [f2 _ (by decide)]) (g _ (by decide) (by decide) (by decide) (by decide) (by omega)) (by rw [g _ (by decide) (by decide) (by decide) (by decide) (by omega)]) (by rw [g _ (by decide) (by decide) (by decide) (by decide) (by omega)]) (by rw [g _ (by decide) (by decide) (by decide) (by decide) (by omega)]) (by rw [g _ (by decide) (by decide) (by decide) (by decide) (by omega)])
    have sN : JS N := js_eq i4 (fun e he => g _ (by unfold sa; omega) (by unfold sa; omega) (by unfold sa; omega) (by unfold sa; omega) (by unfold sa; omega)) (fun e he => g _ (by omega) (by omega) (by omega) (by omega) (by omega)) (g _ (by decide) (by decide) (by decide) (by decide) (by omega)) (g _ (by decide) (by decide) (by decide) (by decide) (by omega)) (g _ (by decide) (by decide) (by decide) (by decide) (by omega))
    have e6 : gi N 6027 = gi M 6027 := g _ (by decide) (by decide) (by decide) (by decide) (by omega)
    have e8 : gi N 6486 = gi M 6486 := g _ (by decide) (by decide) (by decide) (by decide) (by omega)
    refine ⟨⟨mN.1.1, by rw [e6]; exact i3.2.2.1, i3.2.1, e8.trans eT⟩, mN, sN, fun k hk => ?_, by rw [e6]; exact ex, by rw [e6]; exact ev, by rw [e6]; exact ep⟩
    rw [g 145 (by decide) (by decide) (by decide) (by decide) (by omega), e8]
    exact i3.2.2.2 k hk
  have rr : ∀ {N}, LCF P M N → RN N 4995 ∧ RN N 5059 ∧ RN N 5123 := by
    intro N f
    refine ⟨?_, ?_, ?_⟩
    · unfold RN; rw [f.2.2.1 _ (by decide) (by decide) (by decide) (by decide) (by omega)]; exact i1.2.2.2.1
    · unfold RN; rw [f.2.2.1 _ (by decide) (by decide) (by decide) (by decide) (by omega)]; exact i1.2.2.2.2.1
    · unfold RN; rw [f.2.2.1 _ (by decide) (by decide) (by decide) (by decide) (by omega)]; exact i1.2.2.2.2.2
  have neq : L ≠ P := i1.1.2.2.2.2.1
  -- behind the reference's call
  have fin0 : ∀ N O L' P' D', LCF P M N → CP N L' P' R S U D' → OS N O → gi O 6027 11 = 0 → IV O L' P' R S U D' W 0 := by
    intro N O L' P' D' f cN fO o11
    obtain ⟨-, mN, sN, by', -⟩ := st N f
    have g2 : ∀ a, ¬ (a = 6027 ∨ a = 6423 ∨ a = 6229 ∨ a = 6285 ∨ a = 6360) → gi O a = gi N a := fO.2.1
    refine ⟨cp_eq cN (fun _ _ _ _ => by rw [fO.1]) (fun a ha => g2 a (by omega)), mp_eq mN (fun _ => by rw [fO.1]) (g2 _ (by decide)) (fO.2.2.1 0 (by decide)) (fO.2.2.1 24 (by decide)) (by rw [g2 _ (by decide)]) (by rw [g2 _ (by decide)]), ⟨?_, Nat.zero_le _, o11, fun k hk => ?_⟩, js_eq sN (fun e he => g2 _ (by unfold sa; omega)) (fun e he => g2 _ (by omega)) (g2 _ (by decide)) (g2 _ (by decide)) (g2 _ (by decide))⟩
    · rw [g2 _ (by decide)]; exact f.2.2.2
    · rw [g2 145 (by decide), g2 6486 (by decide)]; exact by' k hk
  have fin1 : ∀ N O L' P' D' W', LCF P M N → CP N L' P' R S U D' → NL N O → gi O 6027 11 = 0 → JW O W' → W' ≤ 24 → UM O W' → IV O L' P' R S U D' W' 0 := by
    intro N O L' P' D' W' f cN fO o11 jO hW uO
    obtain ⟨-, mN, sN, by', -⟩ := st N f
    have g2 : ∀ a, ¬ (a = 6027 ∨ a = 6423 ∨ a = 6229 ∨ a = 6285 ∨ a = 6360 ∨ a = 6101 ∨ a = 6157 ∨ a = 6807) → gi O a = gi N a := fO.2.1
    refine ⟨cp_eq cN (fun _ _ _ _ => by rw [fO.1]) (fun a ha => g2 a (by omega)), ⟨jO, hW, ?_, ?_, uO⟩, ⟨?_, Nat.zero_le _, o11, fun k hk => ?_⟩, js_eq sN (fun e he => g2 _ (by unfold sa; omega)) (fun e he => g2 _ (by omega)) (g2 _ (by decide)) (g2 _ (by decide)) (g2 _ (by decide))⟩
    · unfold HD; rw [g2 _ (by decide)]; exact mN.2.2.1
    · unfold HO; rw [g2 _ (by decide)]; exact mN.2.2.2.1
    · rw [g2 _ (by decide)]; exact f.2.2.2
    · rw [g2 145 (by decide), g2 6486 (by decide)]; exact by' k hk
  have cN0 : ∀ N, LCF P M N → gr N = gr M → CP N L P R S U D := by
    intro N f e
    refine ⟨cx_gr i1.1 (fun a j _ => by rw [e]), ?_, i1.2.2.1, rr f⟩
    rw [f.2.2.1 L (by omega) (by omega) (by omega) (by omega) (by omega)]; exact i1.2.1
  have cN1 : ∀ N D', LCF P M N → (∀ j, gr N 10 j = if j = 5 then some L else if j = 4 then some P else gr M 10 j) → gi N P 1 = nI D' → D' ≤ 24 → CP N P L R S U D' := by
    intro N D' f e hD hD2
    refine ⟨?_, hD, hD2, rr f⟩
    obtain ⟨⟨x1, ⟨x2, x3, x4, x5, x6⟩, ⟨y1, y2, y3, y4, y5⟩, ⟨x8, x9⟩, ⟨z1, z2, z3, z4⟩⟩, c2⟩ := i1
    have nq : ∀ q ∈ cgt, q.1 = 10 → q.2.1 ≠ 5 ∧ q.2.1 ≠ 4 := by decide
    have lr : ∀ {L}, LA L → LR M L → LR N L := fun {L} hL h => by
      refine ⟨h.1, fun q hq => ?_, fun w hw => ?_⟩
      · rw [f.2.1 L (by unfold LA at hL; omega)]; exact h.2.1 q hq
      · rw [f.2.1 (L + 81) (by omega)]; exact h.2.2 w hw
    refine ⟨fun q hq => ?_, ⟨?_, ?_, ?_, ?_, ?_⟩, ⟨y2, y1, y3, y4, y5⟩, ⟨lr y2 x9, lr y1 x8⟩, ⟨Ne.symm z1, z2, z3, z4⟩⟩
    · by_cases q10 : q.1 = 10
      · have := nq q hq q10
        rw [q10, e, if_neg this.1, if_neg this.2, ← q10]; exact x1 q hq
      · rw [f.2.1 _ q10]; exact x1 q hq
    · rw [e, if_neg (by decide), if_pos rfl]
    · rw [e, if_pos rfl]
    · rw [e, if_neg (by decide), if_neg (by decide)]; exact x4
    · rw [e, if_neg (by decide), if_neg (by decide)]; exact x5
    · rw [e, if_neg (by decide), if_neg (by decide)]; exact x6
  have neq2 : L ≠ P := i1.1.2.2.2.2.1
  obtain ⟨⟨a1, a2, a3⟩, x1, x2, x3, x4, x5, ⟨x6, x7⟩, x8⟩ := exx.1
  have a2' := a2
  have a3' := a3
  unfold RA at a2' a3'
  have rvM : RV M := by
    obtain ⟨G, ey⟩ := exx.2
    exact ey.2.2.2.2.2.2.2
  have exf : ∀ N O v, LCF P M N → OS N O → gi N 10 10 = v → gi N 10 9 = gi M 10 9 → gi O 6027 16 = v → EZ O L R S D W := by
    intro N O v f fO e10 e9 e16
    have g2 : ∀ a, ¬ (a = 6027 ∨ a = 6423 ∨ a = 6229 ∨ a = 6285 ∨ a = 6360) → gi O a = gi N a := fO.2.1
    have g : ∀ a, a ≠ 199 → a ≠ 258 → a ≠ 70 → a ≠ 10 → ¬ (P ≤ a ∧ a < P + 2304) → gi N a = gi M a := f.2.2.1
    have gg : ∀ a, ¬ (a = 6027 ∨ a = 6423 ∨ a = 6229 ∨ a = 6285 ∨ a = 6360) → a ≠ 199 → a ≠ 258 → a ≠ 70 → a ≠ 10 → ¬ (P ≤ a ∧ a < P + 2304) → gi O a = gi M a := fun a n1 n2 n3 n4 n5 n6 => (g2 a n1).trans (g a n2 n3 n4 n5 n6)
    refine ⟨⟨⟨a1, a2, a3⟩, ?_, ?_, fun i hi => ?_, fun i hi => ?_, fun b hb => ?_, ⟨x6, x7⟩, fun w hw i hi => ?_⟩, ez2 exx.2 (fun a ha => gg a (by omega) (by omega) (by omega) (by omega) (by omega) (by omega)) (fun k _ => by rw [gg 6101 (by decide) (by decide) (by decide) (by decide) (by decide) (by omega)]) (by rw [fO.2.2.1 23 (by decide), g 6027 (by decide) (by decide) (by decide) (by decide) (by omega)]) (by rw [fO.2.2.1 24 (by decide), g 6027 (by decide) (by decide) (by decide) (by decide) (by omega)]) (fun k _ => by rw [fO.2.2.2, f.1]; exact ⟨rfl, rfl⟩) (rv_eq (gg 6543 (by decide) (by decide) (by decide) (by decide) (by decide) (by omega)) (gg 6607 (by decide) (by decide) (by decide) (by decide) (by decide) (by omega)))⟩
    · rw [g2 10 (by decide), e9, x1, fO.2.2.1 9 (by decide), g 6027 (by decide) (by decide) (by decide) (by decide) (by omega)]
    · rw [g2 10 (by decide), e10, e16]
    · rw [gg R (by omega) (by omega) (by omega) (by omega) (by omega) (by omega), gg 6543 (by decide) (by decide) (by decide) (by decide) (by decide) (by omega)]; exact x3 i hi
    · rw [gg S (by omega) (by omega) (by omega) (by omega) (by omega) (by omega), gg 6607 (by decide) (by decide) (by decide) (by decide) (by decide) (by omega)]; exact x4 i hi
    · rw [gg (L + 140) (by omega) (by omega) (by omega) (by omega) (by omega) (by omega), gg 6157 (by decide) (by decide) (by decide) (by decide) (by decide) (by omega)]; exact x5 b hb
    · rw [gg (L + 776 + 64 * w) (by omega) (by omega) (by omega) (by omega) (by omega) (by omega), gg 6101 (by decide) (by decide) (by decide) (by decide) (by decide) (by omega)]; exact x8 w hw i hi
  have exs : ∀ (N O : Mm) (σ : LSt), LCF P M N → NL N O → gi N 10 10 = 0 → gi N 10 9 = 255 → gi O 6027 16 = 0 → gi O 6027 9 = 255 → σ.2.1 ≤ 24 → (∀ w, w < σ.2.1 → ∀ i, i < 8 → gi N (P + 776 + 64 * w) (cf i) = σ.2.2.1 w i) → (∀ b, b < 8 → gi N (P + 140) b = σ.2.2.2.1 b) → (∀ w, w < σ.2.1 → ∀ i, i < 8 → gi O 6101 (10 * w + i) = σ.2.2.1 w i) → (∀ b, b < 8 → gi O 6157 b = σ.2.2.2.1 b) → okS σ → okT σ → (∀ w, w < σ.2.1 → ¬ bdS σ w) → SE N P σ.2.2.1 σ.2.1 → (gi O 6027 23 = ring σ.2.2.1 σ.2.1 ∧ gi O 6027 24 = unsd σ.2.2.1 σ.2.1 ∧ RYZ O σ.2.1 (said σ.2.2.1 σ.2.1).2.1 (said σ.2.2.1 σ.2.1).2.2) → WL N P σ.2.2.1 σ.2.1 → EZ O P R S σ.2.1 σ.2.1 := by
    intro N O σ f fO e10 e9 o16 o9 hD c1 c2 d1 d2 ok kt nbs se ks wl
    have g2 : ∀ a, ¬ (a = 6027 ∨ a = 6423 ∨ a = 6229 ∨ a = 6285 ∨ a = 6360 ∨ a = 6101 ∨ a = 6157 ∨ a = 6807) → gi O a = gi N a := fO.2.1
    have g : ∀ a, a ≠ 199 → a ≠ 258 → a ≠ 70 → a ≠ 10 → ¬ (P ≤ a ∧ a < P + 2304) → gi N a = gi M a := f.2.2.1
    refine ⟨⟨⟨hP, a2, a3⟩, ?_, ?_, fun i hi => ?_, fun i hi => ?_, fun b hb => ?_, ⟨rfl, hD⟩, fun w hw i hi => ?_⟩, σ.2.2.1, d1, fun w hw => ⟨kt w hw, (rows_ok ok kt nbs w hw).1, (rows_ok ok kt nbs w hw).2.1⟩, se_eq (fun a ha => g2 a (by omega)) se, ks.1, ks.2.1, ks.2.2, wl_eq (fun a ha => g2 a (by omega)) wl, rv_eq ((g2 6543 (by decide)).trans (g 6543 (by decide) (by decide) (by decide) (by decide) (by omega))) ((g2 6607 (by decide)).trans (g 6607 (by decide) (by decide) (by decide) (by decide) (by omega))) rvM⟩
    · rw [g2 10 (by decide), e9, o9]
    · rw [g2 10 (by decide), e10, o16]
    · rw [g2 R (by omega), g R (by omega) (by omega) (by omega) (by omega) (by omega), g2 6543 (by decide), g 6543 (by decide) (by decide) (by decide) (by decide) (by omega)]; exact x3 i hi
    · rw [g2 S (by omega), g S (by omega) (by omega) (by omega) (by omega) (by omega), g2 6607 (by decide), g 6607 (by decide) (by decide) (by decide) (by decide) (by omega)]; exact x4 i hi
    · rw [g2 (P + 140) (by omega), c2 b hb, d2 b hb]
    · rw [g2 (P + 776 + 64 * w) (by omega), c1 w hw i hi, d1 w hw i hi]
  have eM : ∀ {N : Mm} {K : Int32 → Mm → Prop}, _ := fun {N} {K} => eM_library2 (M := N) (T := T) (t := t) (K := K) (x0 := x0) (v0 := v0) (p0 := p0)
  have eC := eC_library2 (T := T) (t := t) (x0 := x0) (v0 := v0) (p0 := p0) (K := fun r N => CI mM_library [.ref 6027] N (fun s O => Z r s O)) i1.1 tcM
  generalize lpS T t 401 (lS0 T t x0 v0 p0) 0 = F at eM eC
  refine eC (fun N f e nf e10 e9 => ?_) (fun N w f e zf hw b1 b2 e10 e9 => ?_) (fun N f e zf nb e10 e9 hD hD2 ok rows cps se kt wl => ?_)
  · obtain ⟨tp, -, -, -, q1, q2, q3⟩ := st N f
    exact eM tp q1 q2 q3 (fun O fO o11 _ o16 _ => h _ _ O ⟨L, P, R, S, U, D, W, 0, fin0 N O L P D f (cN0 N f e) fO o11, exf N O _ f fO e10 e9 o16⟩ rfl) (fun O w _ _ z => absurd z nf) (fun O _ _ z => absurd z nf)
  · obtain ⟨tp, -, -, -, q1, q2, q3⟩ := st N f
    refine eM tp q1 q2 q3 (fun O _ _ nf => absurd zf nf) (fun O w' fO o11 _ hw' b1' b2' o16 _ => ?_) (fun O _ _ _ nb => absurd b1 (nb w hw))
    have ww : w' = w := by
      by_cases l : w' < w
      · exact absurd b1' (b2 w' l)
      · by_cases l2 : w < w'
        · exact absurd b1 (b2' w l2)
        · omega
    subst ww
    exact h _ _ O ⟨L, P, R, S, U, D, W, 0, fin0 N O L P D f (cN0 N f e) fO o11, exf N O _ f fO e10 e9 o16⟩ rfl
  · obtain ⟨tp, -, -, -, q1, q2, q3⟩ := st N f
    exact eM tp q1 q2 q3 (fun O _ _ nf => absurd zf nf) (fun O w _ _ _ hw b => absurd b (nb w hw)) (fun O fO o11 _ _ o16 jO hW uO _ d1 d2 o9 ks => h _ _ O ⟨P, L, R, S, U, _, _, 0, fin1 N O P L _ _ f (cN1 N _ f e hD hD2) fO o11 jO hW uO, exs N O F.1 f fO e10 e9 o16 o9 hD2 rows cps d1 d2 ok kt nb se ks wl⟩ rfl)
theorem py_rule {Z : Int32 → Int32 → Mm → Prop} (i0 : INY M) (h : ∀ r s N, INY N → r = s → Z r s N) : CI mC_rule [.ref 10] M (fun r N => CI mM_rule [.ref 6027] N (fun s O => Z r s O)) := by
  obtain ⟨L, P, R, S, U, D, W, t, i, exx⟩ := i0
  obtain ⟨i1, i2, i3, i4⟩ := i
  have hU : RA U := i1.1.2.2.1.2.2.2.2
  have hL := cxL i1.1
  have hU' := hU
  have hL' := hL
  unfold RA at hU'
  unfold LA at hL'
  generalize eT : gi M 6486 = T
  generalize ex : gi M 6027 14 = x0
  generalize ev : gi M 6027 15 = v0
  generalize ep : gi M 6027 17 = p0
  have tcM : TC M T t := by rw [← eT]; exact tc_of i1.1 i3
  have st : ∀ N, RCF U M N → TP N T t ∧ MP N W ∧ JS N ∧ (∀ k, k < 400 → BY (gi N 145 k) (gi N 6486 k)) ∧ gi N 6027 14 = x0 ∧ gi N 6027 15 = v0 ∧ gi N 6027 17 = p0 := by
    intro N f
    obtain ⟨f1, f2, f3, f4, f5⟩ := f
    have g : ∀ a, a ≠ 199 → a ≠ 70 → a ≠ 10 → a ≠ U → gi N a = gi M a := f3
    have mN : MP N W := mp_eq i2 (fun k => by rw [f2 _ (by decide)]) (g _ (by decide) (by decide) (by decide) (by omega)) (by rw [g _ (by decide) (by decide) (by decide) (by omega)]) (by rw [g _ (by decide) (by decide) (by decide) (by omega)]) (by rw [g _ (by decide) (by decide) (by decide) (by omega)]) (by rw [g _ (by decide) (by decide) (by decide) (by omega)])
    have sN : JS N := js_eq i4 (fun e he => g _ (by unfold sa; omega) (by unfold sa; omega) (by unfold sa; omega) (by unfold sa; omega)) (fun e he => g _ (by omega) (by omega) (by omega) (by omega)) (g _ (by decide) (by decide) (by decide) (by omega)) (g _ (by decide) (by decide) (by decide) (by omega)) (g _ (by decide) (by decide) (by decide) (by omega))
    have e6 : gi N 6027 = gi M 6027 := g _ (by decide) (by decide) (by decide) (by omega)
    have e8 : gi N 6486 = gi M 6486 := g _ (by decide) (by decide) (by decide) (by omega)
    refine ⟨⟨mN.1.1, by rw [e6]; exact i3.2.2.1, i3.2.1, e8.trans eT⟩, mN, sN, fun k hk => ?_, by rw [e6]; exact ex, by rw [e6]; exact ev, by rw [e6]; exact ep⟩
    rw [g 145 (by decide) (by decide) (by decide) (by omega), e8]
    exact i3.2.2.2 k hk
  have fin : ∀ N O R' U', RCF U M N → CP N L P R' S U' D → NR N O → HD O → gi O 6027 11 = 0 → IV O L P R' S U' D W 0 := by
    intro N O R' U' f cN fO hO o11
    obtain ⟨-, mN, sN, by', -⟩ := st N f
    have g2 : ∀ a, ¬ (a = 6027 ∨ a = 6671 ∨ a = 6745 ∨ a = 6543) → gi O a = gi N a := fO.2.2.1
    refine ⟨cp_eq cN (fun _ _ _ _ => by rw [fO.1]) (fun a ha => g2 a (by omega)), ⟨jw_eq mN.1 (fun _ => by rw [fO.1]) (g2 _ (by decide)) (fO.2.2.2 0 (by decide)) (fO.2.2.2 24 (by decide)), mN.2.1, hO, ?_, ?_⟩, ⟨?_, Nat.zero_le _, o11, fun k hk => ?_⟩, js_eq sN (fun e he => g2 _ (by unfold sa; omega)) (fun e he => g2 _ (by omega)) (g2 _ (by decide)) (g2 _ (by decide)) (g2 _ (by decide))⟩
    · unfold HO; rw [g2 _ (by decide)]; exact mN.2.2.2.1
    · unfold UM; rw [fO.2.2.2 24 (by decide)]; exact mN.2.2.2.2
    · rw [g2 _ (by decide)]; exact f.2.2.2.1
    · rw [g2 145 (by decide), g2 6486 (by decide)]; exact by' k hk
  have rr : ∀ {N}, RCF U M N → ∀ X, RA X → RN N X := by
    intro N f X hX
    by_cases e : X = U
    · rw [e]; exact f.2.2.2.2
    · unfold RN
      rw [f.2.2.1 X (by unfold RA at hX; omega) (by unfold RA at hX; omega) (by unfold RA at hX; omega) e]
      exact rn_of i1 hX
  have r3 : ∀ {N}, RCF U M N → RN N 4995 ∧ RN N 5059 ∧ RN N 5123 := fun f => ⟨rr f _ (Or.inl rfl), rr f _ (Or.inr (Or.inl rfl)), rr f _ (Or.inr (Or.inr rfl))⟩
  have dd : ∀ {N}, RCF U M N → gi N L 1 = nI D := fun f => by rw [f.2.2.1 L (by omega) (by omega) (by omega) (by omega)]; exact i1.2.1
  have cN0 : ∀ N, RCF U M N → gr N = gr M → CP N L P R S U D := fun N f e => ⟨cx_gr i1.1 (fun a j _ => by rw [e]), dd f, i1.2.2.1, r3 f⟩
  have cN1 : ∀ N, RCF U M N → (∀ j, gr N 10 j = if j = 8 then some R else if j = 6 then some U else gr M 10 j) → CP N L P U S R D := by
    intro N f e
    refine ⟨?_, dd f, i1.2.2.1, r3 f⟩
    obtain ⟨⟨x1, ⟨x2, x3, x4, x5, x6⟩, ⟨y1, y2, y3, y4, y5⟩, ⟨x8, x9⟩, ⟨z1, z2, z3, z4⟩⟩, c2⟩ := i1
    have nq : ∀ q ∈ cgt, q.1 = 10 → q.2.1 ≠ 8 ∧ q.2.1 ≠ 6 := by decide
    have lr : ∀ {L}, LA L → LR M L → LR N L := fun {L} hL h => by
      refine ⟨h.1, fun q hq => ?_, fun w hw => ?_⟩
      · rw [f.2.1 L (by unfold LA at hL; omega)]; exact h.2.1 q hq
      · rw [f.2.1 (L + 81) (by omega)]; exact h.2.2 w hw
    refine ⟨fun q hq => ?_, ⟨?_, ?_, ?_, ?_, ?_⟩, ⟨y1, y2, y5, y4, y3⟩, ⟨lr y1 x8, lr y2 x9⟩, ⟨z1, Ne.symm z4, Ne.symm z3, Ne.symm z2⟩⟩
    · by_cases q10 : q.1 = 10
      · have := nq q hq q10
        rw [q10, e, if_neg this.1, if_neg this.2, ← q10]; exact x1 q hq
      · rw [f.2.1 _ q10]; exact x1 q hq
    · rw [e, if_neg (by decide), if_neg (by decide)]; exact x2
    · rw [e, if_neg (by decide), if_neg (by decide)]; exact x3
    · rw [e, if_neg (by decide), if_pos rfl]
    · rw [e, if_neg (by decide), if_neg (by decide)]; exact x5
    · rw [e, if_pos rfl]
  have neRU : R ≠ U := i1.1.2.2.2.2.2.2.1
  have neSU : S ≠ U := i1.1.2.2.2.2.2.2.2
  obtain ⟨⟨a1, a2, a3⟩, x1, x2, x3, x4, x5, ⟨x6, x7⟩, x8⟩ := exx.1
  have a2' := a2
  have a3' := a3
  unfold RA at a2' a3'
  have rvM : RV M := by
    obtain ⟨G, ey⟩ := exx.2
    exact ey.2.2.2.2.2.2.2
  have exf : ∀ N O v R', RA R' → RCF U M N → NR N O → gi N 10 10 = v → gi N 10 9 = gi M 10 9 → gi O 6027 16 = v → (∀ i, i < 7 → gi O R' i = gi O 6543 i) → (T3 (gi O 6543 3) ∧ T3 (gi O 6543 6) ∧ T5 (gi O 6543 5)) → EZ O L R' S D W := by
    intro N O v R' hR' f fO e10 e9 e16 eR t3
    have g2 : ∀ a, ¬ (a = 6027 ∨ a = 6671 ∨ a = 6745 ∨ a = 6543) → gi O a = gi N a := fO.2.2.1
    have g : ∀ a, a ≠ 199 → a ≠ 70 → a ≠ 10 → a ≠ U → gi N a = gi M a := f.2.2.1
    have gg : ∀ a, ¬ (a = 6027 ∨ a = 6671 ∨ a = 6745 ∨ a = 6543) → a ≠ 199 → a ≠ 70 → a ≠ 10 → a ≠ U → gi O a = gi M a := fun a n1 n2 n3 n4 n5 => (g2 a n1).trans (g a n2 n3 n4 n5)
    refine ⟨⟨⟨a1, hR', a3⟩, ?_, ?_, eR, fun i hi => ?_, fun b hb => ?_, ⟨x6, x7⟩, fun w hw i hi => ?_⟩, ez2 exx.2 (fun a ha => gg a (by omega) (by omega) (by omega) (by omega) (by omega)) (fun k _ => by rw [gg 6101 (by decide) (by decide) (by decide) (by decide) (by omega)]) (by rw [fO.2.2.2 23 (by decide), g 6027 (by decide) (by decide) (by decide) (by omega)]) (by rw [fO.2.2.2 24 (by decide), g 6027 (by decide) (by decide) (by decide) (by omega)]) (fun k _ => by rw [fO.2.1, f.1]; exact ⟨rfl, rfl⟩) (fun rv => ⟨t3, by rw [gg 6607 (by decide) (by decide) (by decide) (by decide) (by omega)]; exact rv.2⟩)⟩
    · rw [g2 10 (by decide), e9, x1, fO.2.2.2 9 (by decide), g 6027 (by decide) (by decide) (by decide) (by omega)]
    · rw [g2 10 (by decide), e10, e16]
    · rw [gg S (by omega) (by omega) (by omega) (by omega) neSU, gg 6607 (by decide) (by decide) (by decide) (by decide) (by omega)]; exact x4 i hi
    · rw [gg (L + 140) (by omega) (by omega) (by omega) (by omega) (by omega), gg 6157 (by decide) (by decide) (by decide) (by decide) (by omega)]; exact x5 b hb
    · rw [gg (L + 776 + 64 * w) (by omega) (by omega) (by omega) (by omega) (by omega), gg 6101 (by decide) (by decide) (by decide) (by decide) (by omega)]; exact x8 w hw i hi
  have eM : ∀ {N : Mm} {K : Int32 → Mm → Prop}, _ := fun {N} {K} => eM_rule (M := N) (T := T) (t := t) (K := K) (x0 := x0) (v0 := v0) (p0 := p0)
  have eC := eC_rule (T := T) (t := t) (x0 := x0) (v0 := v0) (p0 := p0) (K := fun r N => CI mM_rule [.ref 6027] N (fun s O => Z r s O)) i1.1 tcM
  have kq : okQ (qpS T t 401 (qS0 T t x0 v0 p0) 0).1 := qpS_ok 401 _ 0 okQ0
  generalize qpS T t 401 (qS0 T t x0 v0 p0) 0 = F at eM eC kq
  refine eC (fun N f e nf e10 e9 => ?_) (fun N f e zf e10 e9 vals => ?_)
  · obtain ⟨tp, mN, -, -, q1, q2, q3⟩ := st N f
    exact eM tp q1 q2 q3 (fun O fO e5 o11 _ o16 _ => h _ _ O ⟨L, P, R, S, U, D, W, 0, fin N O R U f (cN0 N f e) fO (by unfold HD; rw [e5]; exact mN.2.2.1) o11, exf N O _ R a2 f fO e10 e9 o16 (fun i hi => by rw [e5, fO.2.2.1 R (by omega), f.2.2.1 R (by omega) (by omega) (by omega) neRU, f.2.2.1 6543 (by decide) (by decide) (by decide) (by omega)]; exact x3 i hi) (by rw [e5, f.2.2.1 6543 (by decide) (by decide) (by decide) (by omega)]; exact rvM.1)⟩ rfl) (fun O _ _ _ z => absurd z nf)
  · obtain ⟨tp, mN, -, -, q1, q2, q3⟩ := st N f
    exact eM tp q1 q2 q3 (fun O _ _ _ nf => absurd zf nf) (fun O fO hO o11 _ o16 ov => h _ _ O ⟨L, P, U, S, R, D, W, 0, fin N O U R f (cN1 N f e) fO hO o11, exf N O _ U hU f fO e10 e9 o16 (fun i hi => by rw [fO.2.2.1 U (by omega), vals i hi, ov i hi]) (by rw [ov 3 (by decide), ov 6 (by decide), ov 5 (by decide)]; exact kq)⟩ rfl)
end EQV3
end MG83
section MG84
/-! ===== words that count, the same on both sides ===== -/
section EQX
variable {M : Mm} {L R W : Nat}
theorem mwd_b : ∀ k, k ≤ 8 → ∀ v, v < 32 → (bt (mwd M L R k) v = true ↔ ∃ d, d < k ∧ bt (gi M R 0) d = true ∧ bt (gi M (L + 460) d) v = true)
  | 0, _, v, _ => by
    rw [mwd, b_0]
    exact ⟨fun h => absurd h (by decide), fun ⟨d, h, _⟩ => absurd h (by omega)⟩
  | k + 1, hk, v, hv => by
    have ih := mwd_b k (by omega) v hv
    rw [mwd]
    by_cases q : bt (gi M R 0) k = true
    · have q1 : ((ushr (gi M R 0) (nI k)) &&& 1) = 1 := (bitu _ (by omega)).mpr q
      rw [if_pos q1, b_or, Bool.or_eq_true, ih]
      constructor
      · rintro (⟨d, h1, h2⟩ | h)
        · exact ⟨d, by omega, h2⟩
        · exact ⟨k, by omega, q, h⟩
      · rintro ⟨d, h1, h2⟩
        by_cases e : d = k
        · subst e; exact Or.inr h2.2
        · exact Or.inl ⟨d, by omega, h2⟩
    · have q1 : ¬ ((ushr (gi M R 0) (nI k)) &&& 1) = 1 := fun z => q ((bitu _ (by omega)).mp z)
      rw [if_neg q1]
      have e0 : bt (mwd M L R k ||| 0) v = bt (mwd M L R k) v := by rw [or_032]
      first | rw [e0, ih] | rw [ih]
      constructor
      · rintro ⟨d, h1, h2⟩; exact ⟨d, by omega, h2⟩
      · rintro ⟨d, h1, h2⟩
        by_cases e : d = k
        · subst e; exact absurd h2.1 q
        · exact ⟨d, by omega, h2⟩
theorem cto_b {b : Int32} : ∀ k, k ≤ 8 → ∀ v, v < 32 → (bt (cto M L R b k) v = true ↔ bt (mwd M L R 8) v = true ∨ ∃ d, d < k ∧ (bt b d = true ∧ ¬ gi M (L + 140) d < gi M R 1) ∧ bt (gi M (L + 524) d) v = true)
  | 0, _, v, _ => by
    rw [cto]
    exact ⟨Or.inl, fun h => h.elim id (fun ⟨d, h, _⟩ => absurd h (by omega))⟩
  | k + 1, hk, v, hv => by
    have ih := cto_b (b := b) k (by omega) v hv
    rw [cto]
    by_cases q : bt b k = true ∧ ¬ gi M (L + 140) k < gi M R 1
    · have q1 : ((ushr b (nI k)) &&& 1) = 1 ∧ ¬ gi M (L + 140) k < gi M R 1 := ⟨(bitu _ (by omega)).mpr q.1, q.2⟩
      rw [if_pos q1, b_or, Bool.or_eq_true, ih]
      constructor
      · rintro ((h | ⟨d, h1, h2⟩) | h)
        · exact Or.inl h
        · exact Or.inr ⟨d, by omega, h2⟩
        · exact Or.inr ⟨k, by omega, q, h⟩
      · rintro (h | ⟨d, h1, h2⟩)
        · exact Or.inl (Or.inl h)
        · by_cases e : d = k
          · subst e; exact Or.inr h2.2
          · exact Or.inl (Or.inr ⟨d, by omega, h2⟩)
    · have q1 : ¬ (((ushr b (nI k)) &&& 1) = 1 ∧ ¬ gi M (L + 140) k < gi M R 1) := fun z => q ⟨(bitu _ (by omega)).mp z.1, z.2⟩
      rw [if_neg q1, ih]
      constructor
      · rintro (h | ⟨d, h1, h2⟩)
        · exact Or.inl h
        · exact Or.inr ⟨d, by omega, h2⟩
      · rintro (h | ⟨d, h1, h2⟩)
        · exact Or.inl h
        · by_cases e : d = k
          · subst e; exact absurd h2.1 q
          · exact Or.inr ⟨d, by omega, h2⟩
theorem cnt_b {S D : Nat} {G : Nat → Nat → Int32} (ex : EX M L R S D W) (ey : EY M L W G) (rk : ∀ w, w < W → ∃ b, b < 8 ∧ wd M w 2 = nI b) {v : Nat} (hv : v < 32) : bt (ctg M L R (gi M 10 9)) v = true ↔ v < W ∧ ¬ cw M v = 0 := by
  obtain ⟨-, x1, x2, x3, x4, x5, ⟨x6, x7⟩, x8⟩ := ex
  obtain ⟨y1, y2, ⟨⟨s1, s2, s3, s4⟩, -⟩, -⟩ := ey
  have nn : ∀ x : Int32, bt (x ^^^ (-1)) v = true ↔ ¬ bt x v = true := fun x => by
    rw [b_not x hv]
    cases bt x v <;> decide
  have m1 : bt (-1) v = true := by
    have : ∀ v, v < 32 → bt (-1) v = true := by decide +kernel
    exact this v hv
  have n2 : bt (if gi M R 2 = 0 then gi M L 11 ^^^ (-1) else -1) v = true ↔ ¬ (gi M R 2 = 0 ∧ bt (gi M L 11) v = true) := by
    by_cases q : gi M R 2 = 0
    · rw [if_pos q, nn]; exact ⟨fun h z => h z.2, fun h z => h ⟨q, z⟩⟩
    · rw [if_neg q, m1]; exact ⟨fun _ z => q z.1, fun _ => rfl⟩
  unfold ctg
  rw [b_and, b_and, Bool.and_eq_true, Bool.and_eq_true, n2, nn, cto_b 8 (Nat.le_refl 8) v hv, mwd_b 8 (Nat.le_refl 8) v hv, s3 v hv, s4 v hv]
  by_cases lv : v < W
  · have wd_ : ∀ k, k < 8 → wd M v k = G v k := fun k hk => y1 v lv k hk
    obtain ⟨⟨t1, t2, -⟩, -⟩ := y2 v lv
    obtain ⟨b, hb, eb⟩ := rk v lv
    have eb' : G v 2 = nI b := by rw [← wd_ 2 (by decide)]; exact eb
    unfold cw
    rw [wd_ 0 (by decide), wd_ 1 (by decide), eb, ← x3 0 (by decide), ← x3 1 (by decide), ← x3 2 (by decide), ← x1, ncl (by omega), ← x5 b hb]
    by_cases k5 : G v 0 = 5
    · rw [if_pos k5]
      exact ⟨fun h => absurd ⟨lv, k5⟩ h.1.2, fun h => absurd rfl h.2⟩
    · rw [if_neg k5]
      obtain ⟨d, hd, ed⟩ := t2 k5
      by_cases k3 : G v 0 = 3 ∧ gi M R 2 = 0
      · rw [if_pos k3]
        exact ⟨fun h => absurd ⟨k3.2, lv, k3.1⟩ h.2, fun h => absurd rfl h.2⟩
      · rw [if_neg k3, ed]
        have c : (((gi M R 0 >>> (nI d &&& 31)) &&& 1) = 1 ∨ (((gi M 10 9 >>> (nI b &&& 31)) &&& 1) = 1 ∧ ¬ gi M (L + 140) b < gi M R 1)) ↔ (bt (gi M R 0) d = true ∨ (bt (gi M 10 9) b = true ∧ ¬ gi M (L + 140) b < gi M R 1)) := by rw [bit1 _ (by omega), bit1 _ (by omega)]
        have rhs : ¬ (if ((gi M R 0 >>> (nI d &&& 31)) &&& 1) = 1 ∨ (((gi M 10 9 >>> (nI b &&& 31)) &&& 1) = 1 ∧ ¬ gi M (L + 140) b < gi M R 1) then (1 : Int32) else 0) = 0 ↔ (bt (gi M R 0) d = true ∨ (bt (gi M 10 9) b = true ∧ ¬ gi M (L + 140) b < gi M R 1)) := by
          rw [← c]
          by_cases z : ((gi M R 0 >>> (nI d &&& 31)) &&& 1) = 1 ∨ (((gi M 10 9 >>> (nI b &&& 31)) &&& 1) = 1 ∧ ¬ gi M (L + 140) b < gi M R 1)
          · rw [if_pos z]; exact ⟨fun _ => z, fun _ => by decide⟩
          · rw [if_neg z]; exact ⟨fun y => absurd rfl y, fun y => absurd y z⟩
        rw [rhs]
        constructor
        · rintro ⟨⟨h, -⟩, -⟩
          refine ⟨lv, ?_⟩
          rcases h with ⟨d', hd', z1, z2⟩ | ⟨b', hb', z1, z2⟩
          · have := ((s1 d' hd' v hv).mp z2).2
            rw [ed, ninj (by omega) (by omega)] at this
            subst this
            exact Or.inl z1
          · have := ((s2 b' hb' v hv).mp z2).2
            rw [eb', ninj (by omega) (by omega)] at this
            subst this
            exact Or.inr z1
        · rintro ⟨-, h⟩
          refine ⟨⟨?_, fun z => k5 z.2⟩, fun z => k3 ⟨z.2.2, z.1⟩⟩
          rcases h with h | h
          · exact Or.inl ⟨d, hd, h, (s1 d hd v hv).mpr ⟨lv, ed⟩⟩
          · exact Or.inr ⟨b, hb, h, (s2 b hb v hv).mpr ⟨lv, eb'⟩⟩
  · constructor
    · rintro ⟨⟨h, -⟩, -⟩
      exfalso
      rcases h with ⟨d', hd', z1, z2⟩ | ⟨b', hb', z1, z2⟩
      · exact lv ((s1 d' hd' v hv).mp z2).1
      · exact lv ((s2 b' hb' v hv).mp z2).1
    · rintro ⟨h, -⟩; exact absurd h lv
end EQX
end MG84
section MG85
/-! ===== weighing: the class's and the reference's ===== -/
/-- the class's memory A, with some words counting, and the reference's memory N are about the same -/
def CMP (A N : Mm) (L R W : Nat) (G : Nat → Nat → Int32) : Prop :=
  (∀ v, v < 32 → (bt (gi A 5192 2) v = true ↔ v < W ∧ ¬ cw N v = 0)) ∧
  (∀ d, d < 8 → ∀ v, v < 32 → (bt (gi A (L + 460) d) v = true ↔ v < W ∧ G v 1 = nI d)) ∧
  CY A L (said G W).2.1 (said G W).2.2 ∧ RYZ N W (said G W).2.1 (said G W).2.2 ∧ (∀ w, w < W → ∀ i, i < 8 → wd N w i = G w i) ∧ WL A L G W ∧ gi N 6027 24 = unsd G W ∧
  (∀ i, i < 7 → gi A R i = gi N 6543 i) ∧ (T3 (gi N 6543 3) ∧ T3 (gi N 6543 6) ∧ T5 (gi N 6543 5)) ∧ JW N W ∧ (∀ w, w < W → RS6 G W w) ∧ ∀ w, w < W → RT (G w)
section EU2
variable {A N : Mm} {L R W : Nat} {G : Nat → Nat → Int32}
/-- what a word of the reference says -/
theorem td_v {Y Z : Nat → Nat → Bool} {v c : Nat} (hc : c < 64) (b1 : lb (gl N 6874 v) c = Y v c) (b2 : lb (gl N 6938 v) c = Z v c) : td (gl N 6874 v) (gl N 6938 v) (nI c) = vl2 (Y v c) (Z v c) := by
  unfold td vl2
  by_cases p : Y v c = true
  · rw [if_pos p, if_pos ((lbit _ hc).mpr (b1.trans p))]
  · rw [if_neg p, if_neg (fun z => p (b1.symm.trans ((lbit _ hc).mp z)))]
    by_cases q : Z v c = true
    · rw [if_pos q, if_pos ((lbit _ hc).mpr (b2.trans q))]
    · rw [if_neg q, if_neg (fun z => q (b2.symm.trans ((lbit _ hc).mp z)))]
/-- a doctor's words for yes and for no -/
theorem his_b (m : CMP A N L R W G) (hW : W ≤ 24) {d c : Nat} (hd : d < 8) (hc : c < 64) : (∀ x, x < 32 → (bt (his A L d &&& gi A (L + 205) c) x = true ↔ x < W ∧ twv N (nI d) (nI c) x = 1)) ∧ ∀ x, x < 32 → (bt (his A L d &&& gi A (L + 269) c) x = true ↔ x < W ∧ twv N (nI d) (nI c) x = 0) := by
  obtain ⟨m1, m2, cy, ry, rows, -⟩ := m
  have key : ∀ x, x < 32 → (bt (his A L d) x = true ↔ x < W ∧ (wd N x 1 = nI d ∧ ¬ cw N x = 0)) := fun x hx => by
    unfold his
    rw [b_and, Bool.and_eq_true, m2 d hd x hx, m1 x hx]
    constructor
    · rintro ⟨⟨a, b⟩, -, e⟩
      exact ⟨a, by rw [rows x a 1 (by decide)]; exact b, e⟩
    · rintro ⟨a, b, e⟩
      exact ⟨⟨a, by rw [← rows x a 1 (by decide)]; exact b⟩, a, e⟩
  have xx := said_x G hW
  refine ⟨fun x hx => ?_, fun x hx => ?_⟩
  · rw [b_and, Bool.and_eq_true, key x hx, (cy c hc x hx).1]
    unfold twv
    constructor
    · rintro ⟨⟨a, b⟩, e⟩
      obtain ⟨r1, r2⟩ := ry x a c hc
      rw [if_pos b, td_v hc r1 r2, e]
      exact ⟨a, rfl⟩
    · rintro ⟨a, b⟩
      obtain ⟨r1, r2⟩ := ry x a c hc
      by_cases q : wd N x 1 = nI d ∧ ¬ cw N x = 0
      · rw [if_pos q, td_v hc r1 r2] at b
        exact ⟨⟨a, q⟩, (fsv _ _ (xx x c)).1.mp b⟩
      · rw [if_neg q] at b; exact absurd b (by decide)
  · rw [b_and, Bool.and_eq_true, key x hx, (cy c hc x hx).2]
    unfold twv
    constructor
    · rintro ⟨⟨a, b⟩, e⟩
      obtain ⟨r1, r2⟩ := ry x a c hc
      rw [if_pos b, td_v hc r1 r2]
      exact ⟨a, (fsv _ _ (xx x c)).2.1.mpr e⟩
    · rintro ⟨a, b⟩
      obtain ⟨r1, r2⟩ := ry x a c hc
      by_cases q : wd N x 1 = nI d ∧ ¬ cw N x = 0
      · rw [if_pos q, td_v hc r1 r2] at b
        exact ⟨⟨a, q⟩, (fsv _ _ (xx x c)).2.1.mp b⟩
      · rw [if_neg q] at b; exact absurd b (by decide)
/-- the reference's union of a doctor's words -/
theorem fyn_b (m : CMP A N L R W G) (hW : W ≤ 24) {d c : Nat} (hc : c < 64) : ∀ k, k ≤ W → (lb (fyn N (nI d) k).1 c = true ↔ ∃ v, v < k ∧ twv N (nI d) (nI c) v = 1) ∧ (lb (fyn N (nI d) k).2 c = true ↔ ∃ v, v < k ∧ twv N (nI d) (nI c) v = 0)
  | 0, _ => by
    rw [fyn]
    exact ⟨⟨fun z => absurd ((l_0 c).symm.trans z) (by decide), fun ⟨v, h, _⟩ => absurd h (by omega)⟩, ⟨fun z => absurd ((l_0 c).symm.trans z) (by decide), fun ⟨v, h, _⟩ => absurd h (by omega)⟩⟩
  | k + 1, hk => by
    obtain ⟨i1, i2⟩ := fyn_b m hW (d := d) hc k (by omega)
    obtain ⟨m1, m2, cy, ry, rows, -⟩ := m
    obtain ⟨r1, r2⟩ := ry k (by omega) c hc
    have xx := said_x G hW k c
    rw [fyn]
    by_cases q : wd N k 1 = nI d ∧ ¬ cw N k = 0
    · have e : twv N (nI d) (nI c) k = vl2 ((said G W).2.1 k c) ((said G W).2.2 k c) := by unfold twv; rw [if_pos q, td_v hc r1 r2]
      obtain ⟨f1, f2, -⟩ := fsv _ _ xx
      rw [if_pos q]
      refine ⟨?_, ?_⟩
      · show lb ((fyn N (nI d) k).1 ||| gl N 6874 k) c = true ↔ _
        rw [l_or, Bool.or_eq_true, i1, r1]
        constructor
        · rintro (⟨v, a, b⟩ | z)
          · exact ⟨v, by omega, b⟩
          · exact ⟨k, by omega, by rw [e]; exact f1.mpr z⟩
        · rintro ⟨v, a, b⟩
          by_cases ev : v = k
          · subst ev
            rw [e] at b
            exact Or.inr (f1.mp b)
          · exact Or.inl ⟨v, by omega, b⟩
      · show lb ((fyn N (nI d) k).2 ||| gl N 6938 k) c = true ↔ _
        rw [l_or, Bool.or_eq_true, i2, r2]
        constructor
        · rintro (⟨v, a, b⟩ | z)
          · exact ⟨v, by omega, b⟩
          · exact ⟨k, by omega, by rw [e]; exact f2.mpr z⟩
        · rintro ⟨v, a, b⟩
          by_cases ev : v = k
          · subst ev
            rw [e] at b
            exact Or.inr (f2.mp b)
          · exact Or.inl ⟨v, by omega, b⟩
    · have e : twv N (nI d) (nI c) k = -4 := by unfold twv; rw [if_neg q]
      rw [if_neg q, i1, i2]
      have st : ∀ x : Int32, ¬ x = -4 → ((∃ v, v < k ∧ twv N (nI d) (nI c) v = x) ↔ ∃ v, v < k + 1 ∧ twv N (nI d) (nI c) v = x) := fun x nx => by
        constructor
        · rintro ⟨v, a, b⟩; exact ⟨v, by omega, b⟩
        · rintro ⟨v, a, b⟩
          by_cases ev : v = k
          · subst ev
            exact absurd (b.symm.trans e) nx
          · exact ⟨v, by omega, b⟩
      exact ⟨st 1 (by decide), st 0 (by decide)⟩
theorem clv_b {d : Int32} {c : Nat} : lb (clv N W d) c = true ↔ lb (fyn N d W).1 c = true ∧ lb (fyn N d W).2 c = true := by unfold clv; rw [l_and, Bool.and_eq_true]
end EU2
end MG85
section MG86
/-! ===== each, held, cases, reckon: the same on both sides ===== -/
section EV1
variable {M N : Mm} {L P R S U D W t : Nat} {G : Nat → Nat → Int32}
theorem gi_bgn (M : Mm) (L R : Nat) (b : Int32) {a : Nat} (h : a ≠ 5192) : gi (bgn M L R b) a = gi M a := by
  unfold bgn
  rw [gi_ne h]; rfl
theorem gi_bgn2 (M : Mm) (L R : Nat) (b : Int32) : gi (bgn M L R b) 5192 2 = ctg M L R b := by
  unfold bgn
  rw [gi_si, if_pos ⟨rfl, rfl⟩]
/-- what the class weighs, and the reference, stand for the same -/
theorem cmp_of (i : IV M L P R S U D W t) (ex : EX M L R S D W) (ey : EY M L W G) (f : CQ M N) : CMP (bgn M L R (gi M 10 9)) N L R W G := by
  have hL := i.1.1.2.2.1.1
  have hR := i.1.1.2.2.1.2.2.1
  have hL' := hL
  have hR' := hR
  unfold LA at hL'
  unfold RA at hR'
  have g : ∀ a, ¬ (a = 5192 ∨ a = 5261 ∨ a = 5392) → gi N a = gi M a := f.2.2
  have rk : ∀ w, w < W → ∃ b, b < 8 ∧ wd M w 2 = nI b := fun w hw => (i.2.1.1.2.2.2 w hw).1
  have hb : ∀ o, o < 2304 → gi (bgn M L R (gi M 10 9)) (L + o) = gi M (L + o) := fun o ho => gi_bgn _ _ _ _ (by omega)
  have ew : ∀ w k, wd N w k = wd M w k := fun w k => by unfold wd; rw [g 6101 (by decide)]
  have ecw : ∀ w, cw N w = cw M w := fun w => by
    unfold cw
    rw [ew, ew, ew, g 6543 (by decide), g 6027 (by decide), g 6157 (by decide)]
  have x3 : ∀ i, i < 7 → gi M R i = gi M 6543 i := ex.2.2.2.1
  have ey' := ey
  obtain ⟨y1, y2, ⟨⟨s1, -⟩, -, -, cy⟩, -, y5, ry, wl, rv⟩ := ey
  refine ⟨fun v hv => ?_, fun d hd v hv => ?_, fun c hc v hv => ?_, fun v hv c hc => ?_, fun w hw k hk => ?_, wl_eq (fun a ha => gi_bgn _ _ _ _ (by omega)) wl, ?_, fun k hk => ?_, ?_, (iv_cq f i).2.1.1, fun w hw => (y2 w hw).2.2, fun w hw => (y2 w hw).1⟩
  · rw [gi_bgn2, cnt_b ex ey' rk hv, ecw]
  · rw [hb 460 (by decide)]; exact s1 d hd v hv
  · rw [hb 205 (by decide), hb 269 (by decide)]; exact cy c hc v hv
  · rw [f.1]; exact ry v hv c hc
  · rw [ew]; exact y1 w hw k hk
  · rw [g 6027 (by decide)]; exact y5
  · rw [gi_bgn _ _ _ _ (by omega), g 6543 (by decide)]; exact x3 k hk
  · rw [g 6543 (by decide)]; exact rv.1
end EV1
end MG86
section MG87
/-! ===== bits of a long counted: the JDK's way and the reference's loop ===== -/
theorem land_32 (d a m b : Nat) (hd : d < 2 ^ 32) (hm : m < 2 ^ 32) : (d + 4294967296 * a) &&& (m + 4294967296 * b) = (d &&& m) + 4294967296 * (a &&& b) := by
  have e1 : d + 4294967296 * a = 2 ^ 32 * a + d := by omega
  have e2 : m + 4294967296 * b = 2 ^ 32 * b + m := by omega
  have e3 : (d &&& m) + 4294967296 * (a &&& b) = 2 ^ 32 * (a &&& b) + (d &&& m) := by omega
  have hdm : (d &&& m) < 2 ^ 32 := Nat.and_lt_two_pow d hm
  rw [e1, e2, e3]
  refine Nat.eq_of_testBit_eq (fun j => ?_)
  rw [Nat.testBit_and, Nat.testBit_two_pow_mul_add _ hd, Nat.testBit_two_pow_mul_add _ hm, Nat.testBit_two_pow_mul_add _ hdm]
  by_cases h : j < 32
  · rw [if_pos h, if_pos h, if_pos h, Nat.testBit_and]
  · rw [if_neg h, if_neg h, if_neg h, Nat.testBit_and]
theorem d4_lt {a b c d : Nat} (ha : a < 256) (hb : b < 256) (hc : c < 256) (hd : d < 256) : d4 a b c d < 2 ^ 32 := by unfold d4; omega
theorem pn1c (a b c d e : Nat) (ha : a < 256) (hb : b < 256) (hc : c < 256) (hd : d < 256) (he : e < 2) : (d4 a b c d / 2 + 2147483648 * e &&& 1431655765) = (d4 a b c d / 2 &&& 1431655765) := by
  have x : d4 a b c d / 2 = d4 (a / 2 + 128 * (b % 2)) (b / 2 + 128 * (c % 2)) (c / 2 + 128 * (d % 2)) (d / 2) := by unfold d4; omega
  have y : d4 a b c d / 2 + 2147483648 * e = d4 (a / 2 + 128 * (b % 2)) (b / 2 + 128 * (c % 2)) (c / 2 + 128 * (d % 2)) (d / 2 + 128 * e) := by rw [x]; unfold d4; omega
  have m : (1431655765 : Nat) = d4 85 85 85 85 := rfl
  rw [y, x, m, land_4 (by omega) (by omega) (by omega) (by decide) (by decide) (by decide), land_4 (by omega) (by omega) (by omega) (by decide) (by decide) (by decide), (by1 d hd e he).1]
theorem pn2c (a b c d e : Nat) (ha : a < 256) (hb : b < 256) (hc : c < 256) (hd : d < 256) (he : e < 4) : (d4 a b c d / 4 + 1073741824 * e &&& 858993459) = (d4 a b c d / 4 &&& 858993459) := by
  have x : d4 a b c d / 4 = d4 (a / 4 + 64 * (b % 4)) (b / 4 + 64 * (c % 4)) (c / 4 + 64 * (d % 4)) (d / 4) := by unfold d4; omega
  have y : d4 a b c d / 4 + 1073741824 * e = d4 (a / 4 + 64 * (b % 4)) (b / 4 + 64 * (c % 4)) (c / 4 + 64 * (d % 4)) (d / 4 + 64 * e) := by rw [x]; unfold d4; omega
  have m : (858993459 : Nat) = d4 51 51 51 51 := rfl
  rw [y, x, m, land_4 (by omega) (by omega) (by omega) (by decide) (by decide) (by decide), land_4 (by omega) (by omega) (by omega) (by decide) (by decide) (by decide), by2 d hd e he]
theorem pn3c (a b c d y : Nat) (ha : a % 16 ≤ 4 ∧ a / 16 ≤ 4) (hb : b % 16 ≤ 4 ∧ b / 16 ≤ 4) (hc : c % 16 ≤ 4 ∧ c / 16 ≤ 4) (hd : d % 16 ≤ 4 ∧ d / 16 ≤ 4) (hy : y ≤ 4) : (d4 a b c d + d4 a b c d / 16 + 268435456 * y &&& 252645135) = d4 (pw3 a) (pw3 b) (pw3 c) (pw3 d) ∧ d4 a b c d + d4 a b c d / 16 + 268435456 * y < 2 ^ 32 := by
  have e : d4 a b c d + d4 a b c d / 16 + 268435456 * y = d4 (a + a / 16 + 16 * (b % 16)) (b + b / 16 + 16 * (c % 16)) (c + c / 16 + 16 * (d % 16)) (d + d / 16 + 16 * y) := by unfold d4; omega
  have m : (252645135 : Nat) = d4 15 15 15 15 := rfl
  have f : ∀ x y, x % 16 ≤ 4 ∧ x / 16 ≤ 4 → y ≤ 4 → (x + x / 16 + 16 * y &&& 15) = pw3 x := by
    intro x y hx hy
    have e : x + x / 16 + 16 * y = 16 * (x / 16 + y) + (x % 16 + x / 16) := by omega
    have em : (x + x / 16 + 16 * y) % 16 = x % 16 + x / 16 := by rw [e, Nat.mul_add_mod, Nat.mod_eq_of_lt (by omega)]
    rw [by4 _ (by omega) (by rw [em]; omega), em]
    rfl
  refine ⟨?_, by unfold d4; omega⟩
  rw [e, m, land_4 (by omega) (by omega) (by omega) (by decide) (by decide) (by decide), f a _ ha hb.1, f b _ hb hc.1, f c _ hc hd.1, f d _ hd hy]
theorem pa1 {a X X1 : Nat} (ha : a ≤ 8) (e : X = a + 256 * X1) : X / 256 = X1 := by omega
theorem pa2 {a b c X1 X2 X3 : Nat} (e1 : X1 = b + 256 * X2) (e2 : X2 = c + 256 * X3) : a + 256 * X1 + X1 = (a + b) + 256 * (b + c) + 65536 * (X2 + X3) := by omega
theorem pa2' {a b c Y : Nat} (ha : a ≤ 8) (hb : b ≤ 8) (hc : c ≤ 8) : ((a + b) + 256 * (b + c) + 65536 * Y) / 65536 = Y := by omega
theorem pa3a {d e X3 X4 X5 : Nat} (e3 : X3 = d + 256 * X4) (e4 : X4 = e + 256 * X5) : 65536 * X3 = 65536 * d + 16777216 * e + 4294967296 * X5 := by omega
theorem pa3b {c d X2 X3 X4 : Nat} (e2 : X2 = c + 256 * X3) (e3 : X3 = d + 256 * X4) : 65536 * X2 = 65536 * c + 16777216 * d + 4294967296 * X4 := by omega
theorem pa3c {d e f g X3 X4 X5 X6 X7 : Nat} (e3 : X3 = d + 256 * X4) (e4 : X4 = e + 256 * X5) (e5 : X5 = f + 256 * X6) (e6 : X6 = g + 256 * X7) : X3 = d + 256 * e + 65536 * f + 16777216 * g + 4294967296 * X7 := by omega
theorem pa3d {a b c d e f g X2 X3 X4 X5 X6 X7 p q : Nat} (a2 : p = 65536 * c + 16777216 * d + 4294967296 * X4) (a3 : q = 65536 * d + 16777216 * e + 4294967296 * X5) (b2 : X2 = c + 256 * d + 65536 * e + 16777216 * f + 4294967296 * X6) (b3 : X3 = d + 256 * e + 65536 * f + 16777216 * g + 4294967296 * X7) : (a + b) + 256 * (b + c) + (p + q) + (X2 + X3) = (a + b + c + d) + 256 * (b + c + d + e) + 65536 * (c + d + e + f) + 16777216 * (d + e + f + g) + 4294967296 * (X4 + X5 + X6 + X7) := by omega
theorem pa4 {s t u v Y : Nat} (hs : s ≤ 64) (ht : t ≤ 64) (hu : u ≤ 64) (hv : v ≤ 64) : (s + 256 * t + 65536 * u + 16777216 * v + 4294967296 * Y) / 4294967296 = Y := by omega
theorem pa5 {e f g h X4 X5 X6 X7 : Nat} (e4 : X4 = e + 256 * X5) (e5 : X5 = f + 256 * X6) (e6 : X6 = g + 256 * X7) (e7 : X7 = h) : X4 + X5 + X6 + X7 = (e + f + g + h) + 128 * (2 * X5 + 2 * X6 + 2 * X7) := by omega
theorem pa6 {e f g h X4 X5 X6 X7 : Nat} (he : e ≤ 8) (hf : f ≤ 8) (hg : g ≤ 8) (hh : h ≤ 8) (e4 : X4 = e + 256 * X5) (e5 : X5 = f + 256 * X6) (e6 : X6 = g + 256 * X7) (e7 : X7 = h) : X4 + X5 + X6 + X7 ≤ 268435456 := by omega
theorem pa7 {a b c d X1 X2 X3 X4 : Nat} (e1 : X1 = b + 256 * X2) (e2 : X2 = c + 256 * X3) (e3 : X3 = d + 256 * X4) : d4 a b c d + 4294967296 * X4 = a + 256 * X1 := by unfold d4; omega
theorem pa8 {s t u v y Y k : Nat} (e : Y = y + 128 * k) : s + 256 * t + 65536 * u + 16777216 * v + 4294967296 * Y + Y = 128 * (2 * t + 512 * u + 131072 * v + 33554432 * Y + k) + (s + y) := by omega
theorem pa9 {s t u v Y : Nat} (hs : s ≤ 64) (ht : t ≤ 64) (hu : u ≤ 64) (hv : v ≤ 64) (hY : Y ≤ 268435456) : s + 256 * t + 65536 * u + 16777216 * v + 4294967296 * Y < 2 ^ 64 ∧ s + 256 * t + 65536 * u + 16777216 * v + 4294967296 * Y + Y < 2 ^ 64 := by omega
theorem pa10 {x y z : Nat} (h : x + y < z) : x < z := by omega
theorem sum4 {a b c d : Nat} (ha : a ≤ 8) (hb : b ≤ 8) (hc : c ≤ 8) (hd : d ≤ 8) : a + b + c + d ≤ 64 := by omega
theorem sum8 {a b c d e f g h : Nat} (ha : a ≤ 8) (hb : b ≤ 8) (hc : c ≤ 8) (hd : d ≤ 8) (he : e ≤ 8) (hf : f ≤ 8) (hg : g ≤ 8) (hh : h ≤ 8) : (a + b + c + d) + (e + f + g + h) < 128 := by omega
/-- eight bytes, each no more than 8, are added up -/
theorem pn5 (a b c d e f g h : Nat) (ha : a ≤ 8) (hb : b ≤ 8) (hc : c ≤ 8) (hd : d ≤ 8) (he : e ≤ 8) (hf : f ≤ 8) (hg : g ≤ 8) (hh : h ≤ 8) {X : Nat} (eX : X = d4 a b c d + 4294967296 * d4 e f g h) : ∃ A B, A = X + X / 256 ∧ B = A + A / 65536 ∧ (B + B / 4294967296) % 128 = (a + b + c + d) + (e + f + g + h) ∧ A < 2 ^ 64 ∧ B < 2 ^ 64 ∧ B + B / 4294967296 < 2 ^ 64 := by
  obtain ⟨X7, e7⟩ : ∃ x, x = h := ⟨_, rfl⟩
  obtain ⟨X6, e6⟩ : ∃ x, x = g + 256 * X7 := ⟨_, rfl⟩
  obtain ⟨X5, e5⟩ : ∃ x, x = f + 256 * X6 := ⟨_, rfl⟩
  obtain ⟨X4, e4⟩ : ∃ x, x = e + 256 * X5 := ⟨_, rfl⟩
  obtain ⟨X3, e3⟩ : ∃ x, x = d + 256 * X4 := ⟨_, rfl⟩
  obtain ⟨X2, e2⟩ : ∃ x, x = c + 256 * X3 := ⟨_, rfl⟩
  obtain ⟨X1, e1⟩ : ∃ x, x = b + 256 * X2 := ⟨_, rfl⟩
  have h4 : d4 e f g h = X4 := by unfold d4; rw [e4, e5, e6, e7]
  have x0 : X = a + 256 * X1 := by rw [eX, h4]; exact pa7 e1 e2 e3
  have hY := pa6 he hf hg hh e4 e5 e6 e7
  have kA : X + X / 256 = (a + b) + 256 * (b + c) + 65536 * (X2 + X3) := by rw [pa1 ha x0, x0]; exact pa2 e1 e2
  have kB : (X + X / 256) + (X + X / 256) / 65536 = (a + b + c + d) + 256 * (b + c + d + e) + 65536 * (c + d + e + f) + 16777216 * (d + e + f + g) + 4294967296 * (X4 + X5 + X6 + X7) := by
    rw [kA, pa2' ha hb hc, show 65536 * (X2 + X3) = 65536 * X2 + 65536 * X3 from Nat.mul_add _ _ _]
    exact pa3d (pa3b e2 e3) (pa3a e3 e4) (pa3c e2 e3 e4 e5) (pa3c e3 e4 e5 e6)
  obtain ⟨q1, q2⟩ := pa9 (sum4 ha hb hc hd) (sum4 hb hc hd he) (sum4 hc hd he hf) (sum4 hd he hf hg) hY
  have kD : ((a + b + c + d) + 256 * (b + c + d + e) + 65536 * (c + d + e + f) + 16777216 * (d + e + f + g) + 4294967296 * (X4 + X5 + X6 + X7)) / 4294967296 = X4 + X5 + X6 + X7 := pa4 (sum4 ha hb hc hd) (sum4 hb hc hd he) (sum4 hc hd he hf) (sum4 hd he hf hg)
  refine ⟨X + X / 256, (X + X / 256) + (X + X / 256) / 65536, rfl, rfl, ?_, ?_, ?_, ?_⟩
  · rw [kB, kD, pa8 (pa5 e4 e5 e6 e7), Nat.mul_add_mod, Nat.mod_eq_of_lt (sum8 ha hb hc hd he hf hg hh)]
  · exact pa10 (y := (X + X / 256) / 65536) (by rw [kB]; exact q1)
  · rw [kB]; exact q1
  · rw [kB, kD]; exact q2
theorem hv2 {lo hi : Nat} (hl : lo < 2 ^ 32) : (lo + 4294967296 * hi) / 2 = (lo / 2 + 2147483648 * (hi % 2)) + 4294967296 * (hi / 2) ∧ lo / 2 + 2147483648 * (hi % 2) < 2 ^ 32 := by omega
theorem hv4 {lo hi : Nat} (hl : lo < 2 ^ 32) : (lo + 4294967296 * hi) / 4 = (lo / 4 + 1073741824 * (hi % 4)) + 4294967296 * (hi / 4) ∧ lo / 4 + 1073741824 * (hi % 4) < 2 ^ 32 := by omega
theorem hv16 {lo hi : Nat} (hl : lo < 2 ^ 32) : (lo + 4294967296 * hi) / 16 = (lo / 16 + 268435456 * (hi % 16)) + 4294967296 * (hi / 16) := by omega
theorem hsub {p q r s : Nat} (h1 : r ≤ p) (h2 : s ≤ q) : p + 4294967296 * q - (r + 4294967296 * s) = (p - r) + 4294967296 * (q - s) ∧ r + 4294967296 * s ≤ p + 4294967296 * q := by omega
theorem hadd {p q r s : Nat} : (p + 4294967296 * q) + (r + 4294967296 * s) = (p + r) + 4294967296 * (q + s) := by omega
theorem hlt {p q : Nat} (h1 : p < 2 ^ 32) (h2 : q < 2 ^ 32) : p + 4294967296 * q < 2 ^ 64 := by omega
theorem d4_m {a b c d : Nat} : d4 a b c d % 16 = a % 16 := by unfold d4; omega
def tL (x : Int64) : Nat := x.toBitVec.toNat
theorem tL_lt (x : Int64) : tL x < 2 ^ 64 := x.toBitVec.isLt
theorem tL_and (x y : Int64) : tL (x &&& y) = tL x &&& tL y := by unfold tL; rw [Int64.toBitVec_and, BitVec.toNat_and]
theorem tL_add {x y : Int64} (h : tL x + tL y < 2 ^ 64) : tL (x + y) = tL x + tL y := by
  unfold tL at h ⊢
  rw [Int64.toBitVec_add, BitVec.toNat_add, Nat.mod_eq_of_lt h]
theorem tL_sub {x y : Int64} (h : tL y ≤ tL x) : tL (x - y) = tL x - tL y := by
  have l := tL_lt x
  unfold tL at h l ⊢
  rw [Int64.toBitVec_sub, BitVec.toNat_sub]
  omega
theorem s_ul : ∀ n, n < 64 → (((nI n).toInt64.toUInt64 &&& Int64.toUInt64 63).toBitVec % 64).toNat = n := by decide +kernel
theorem tL_ushr (x : Int64) {k : Nat} (hk : k < 64) : tL (lushr x (nI k)) = tL x / 2 ^ k := by
  show (x.toUInt64 >>> ((nI k).toInt64.toUInt64 &&& Int64.toUInt64 63)).toBitVec.toNat = x.toUInt64.toBitVec.toNat / 2 ^ k
  rw [UInt64.toBitVec_shiftRight]
  show (x.toUInt64.toBitVec >>> (((nI k).toInt64.toUInt64 &&& Int64.toUInt64 63).toBitVec % 64).toNat).toNat = _
  rw [s_ul k hk, BitVec.toNat_ushiftRight, Nat.shiftRight_eq_div_pow]
theorem tN_32 (x : Int64) : tN x.toInt32 = tL x % 2 ^ 32 := by
  unfold tN tL
  rw [Int64.toBitVec_toInt32, BitVec.signExtend_eq_setWidth_of_le _ (by decide), BitVec.toNat_setWidth]
/-- the JDK's count of a long's bits is the sum over its eight bytes -/
theorem bcl_sum (x : Int64) {a b c d e f g h : Nat} (ha : a < 256) (hb : b < 256) (hc : c < 256) (hd : d < 256) (he : e < 256) (hf : f < 256) (hg : g < 256) (hh : h < 256) (ex : tL x = d4 a b c d + 4294967296 * d4 e f g h) : tN (bc64 x) = (pc8 a + pc8 b + pc8 c + pc8 d) + (pc8 e + pc8 f + pc8 g + pc8 h) := by
  obtain ⟨a1, a2, a3, a4, a5, a6, -⟩ := by3 a ha
  obtain ⟨b1, b2, b3, b4, b5, b6, -⟩ := by3 b hb
  obtain ⟨c1, c2, c3, c4, c5, c6, -⟩ := by3 c hc
  obtain ⟨d1, d2, d3, d4', d5, d6, -⟩ := by3 d hd
  obtain ⟨e1, e2, e3, e4, e5, e6, -⟩ := by3 e he
  obtain ⟨f1, f2, f3, f4, f5, f6, -⟩ := by3 f hf
  obtain ⟨g1, g2, g3, g4, g5', g6', -⟩ := by3 g hg
  obtain ⟨h1, h2, h3, h4, h5, h6, -⟩ := by3 h hh
  have m1 : tL (6148914691236517205 : Int64) = 1431655765 + 4294967296 * 1431655765 := by decide +kernel
  have m2 : tL (3689348814741910323 : Int64) = 858993459 + 4294967296 * 858993459 := by decide +kernel
  have m3 : tL (1085102592571150095 : Int64) = 252645135 + 4294967296 * 252645135 := by decide +kernel
  have m4 : tN (127 : Int32) = 127 := by decide +kernel
  have u1 : ∀ x : Int64, tL (lushr x (1 : Int32)) = tL x / 2 := fun x => tL_ushr x (k := 1) (by decide)
  have u2 : ∀ x : Int64, tL (lushr x (2 : Int32)) = tL x / 4 := fun x => tL_ushr x (k := 2) (by decide)
  have u4 : ∀ x : Int64, tL (lushr x (4 : Int32)) = tL x / 16 := fun x => tL_ushr x (k := 4) (by decide)
  have u8 : ∀ x : Int64, tL (lushr x (8 : Int32)) = tL x / 256 := fun x => tL_ushr x (k := 8) (by decide)
  have u16 : ∀ x : Int64, tL (lushr x (16 : Int32)) = tL x / 65536 := fun x => tL_ushr x (k := 16) (by decide)
  have u32 : ∀ x : Int64, tL (lushr x (32 : Int32)) = tL x / 4294967296 := fun x => tL_ushr x (k := 32) (by decide)
  unfold bc64
  generalize q1 : x - ((lushr x (1 : Int32)) &&& 6148914691236517205) = y1
  have t1 : tL y1 = d4 (pw1 a) (pw1 b) (pw1 c) (pw1 d) + 4294967296 * d4 (pw1 e) (pw1 f) (pw1 g) (pw1 h) := by
    obtain ⟨p1, p1'⟩ := pn1 a b c d ha hb hc hd
    obtain ⟨r1, r1'⟩ := pn1 e f g h he hf hg hh
    obtain ⟨s1, s2⟩ := hv2 (hi := d4 e f g h) (d4_lt ha hb hc hd)
    obtain ⟨k1, k2⟩ := hsub p1' r1'
    have k : (tL x / 2 &&& (1431655765 + 4294967296 * 1431655765)) = (d4 a b c d / 2 &&& 1431655765) + 4294967296 * (d4 e f g h / 2 &&& 1431655765) := by
      rw [ex, s1, land_32 _ _ _ _ s2 (by decide), pn1c a b c d _ ha hb hc hd (Nat.mod_lt _ (by decide))]
    rw [← q1, tL_sub (by rw [tL_and, u1, m1, k, ex]; exact k2), tL_and, u1, m1, k, ex, k1, p1, r1]
  clear q1 ex
  generalize q2 : (y1 &&& 3689348814741910323) + ((lushr y1 (2 : Int32)) &&& 3689348814741910323) = y2
  have t2 : tL y2 = d4 (pw2 (pw1 a)) (pw2 (pw1 b)) (pw2 (pw1 c)) (pw2 (pw1 d)) + 4294967296 * d4 (pw2 (pw1 e)) (pw2 (pw1 f)) (pw2 (pw1 g)) (pw2 (pw1 h)) := by
    have p2 := pn2 (pw1 a) (pw1 b) (pw1 c) (pw1 d) a1 b1 c1 d1
    have r2 := pn2 (pw1 e) (pw1 f) (pw1 g) (pw1 h) e1 f1 g1 h1
    have l0 := d4_lt a1 b1 c1 d1
    obtain ⟨s1, s2⟩ := hv4 (hi := d4 (pw1 e) (pw1 f) (pw1 g) (pw1 h)) l0
    have k1 : (tL y1 &&& (858993459 + 4294967296 * 858993459)) = (d4 (pw1 a) (pw1 b) (pw1 c) (pw1 d) &&& 858993459) + 4294967296 * (d4 (pw1 e) (pw1 f) (pw1 g) (pw1 h) &&& 858993459) := by
      rw [t1, land_32 _ _ _ _ l0 (by decide)]
    have k2 : (tL y1 / 4 &&& (858993459 + 4294967296 * 858993459)) = (d4 (pw1 a) (pw1 b) (pw1 c) (pw1 d) / 4 &&& 858993459) + 4294967296 * (d4 (pw1 e) (pw1 f) (pw1 g) (pw1 h) / 4 &&& 858993459) := by
      rw [t1, s1, land_32 _ _ _ _ s2 (by decide), pn2c _ _ _ _ _ a1 b1 c1 d1 (Nat.mod_lt _ (by decide))]
    have s : tL (y1 &&& 3689348814741910323) + tL ((lushr y1 (2 : Int32)) &&& 3689348814741910323) = d4 (pw2 (pw1 a)) (pw2 (pw1 b)) (pw2 (pw1 c)) (pw2 (pw1 d)) + 4294967296 * d4 (pw2 (pw1 e)) (pw2 (pw1 f)) (pw2 (pw1 g)) (pw2 (pw1 h)) := by
      rw [tL_and, tL_and, u2, m2, k1, k2, hadd, p2, r2]
    rw [← q2, tL_add (by rw [s]; exact hlt (d4_lt a2 b2 c2 d2) (d4_lt e2 f2 g2 h2)), s]
  clear q2 t1
  generalize q3 : (y2 + (lushr y2 (4 : Int32))) &&& 1085102592571150095 = y3
  have t3 : tL y3 = d4 (pc8 a) (pc8 b) (pc8 c) (pc8 d) + 4294967296 * d4 (pc8 e) (pc8 f) (pc8 g) (pc8 h) := by
    have hm : d4 (pw2 (pw1 e)) (pw2 (pw1 f)) (pw2 (pw1 g)) (pw2 (pw1 h)) % 16 ≤ 4 := by rw [d4_m]; exact e3
    obtain ⟨p3, p3'⟩ := pn3c (pw2 (pw1 a)) (pw2 (pw1 b)) (pw2 (pw1 c)) (pw2 (pw1 d)) _ ⟨a3, a4⟩ ⟨b3, b4⟩ ⟨c3, c4⟩ ⟨d3, d4'⟩ hm
    obtain ⟨r3, r3'⟩ := pn3 (pw2 (pw1 e)) (pw2 (pw1 f)) (pw2 (pw1 g)) (pw2 (pw1 h)) ⟨e3, e4⟩ ⟨f3, f4⟩ ⟨g3, g4⟩ ⟨h3, h4⟩
    have s : tL y2 + tL y2 / 16 = (d4 (pw2 (pw1 a)) (pw2 (pw1 b)) (pw2 (pw1 c)) (pw2 (pw1 d)) + d4 (pw2 (pw1 a)) (pw2 (pw1 b)) (pw2 (pw1 c)) (pw2 (pw1 d)) / 16 + 268435456 * (d4 (pw2 (pw1 e)) (pw2 (pw1 f)) (pw2 (pw1 g)) (pw2 (pw1 h)) % 16)) + 4294967296 * (d4 (pw2 (pw1 e)) (pw2 (pw1 f)) (pw2 (pw1 g)) (pw2 (pw1 h)) + d4 (pw2 (pw1 e)) (pw2 (pw1 f)) (pw2 (pw1 g)) (pw2 (pw1 h)) / 16) := by
      rw [t2, hv16 (d4_lt a2 b2 c2 d2), hadd, ← Nat.add_assoc (d4 (pw2 (pw1 a)) (pw2 (pw1 b)) (pw2 (pw1 c)) (pw2 (pw1 d))) (d4 (pw2 (pw1 a)) (pw2 (pw1 b)) (pw2 (pw1 c)) (pw2 (pw1 d)) / 16)]
    rw [← q3, tL_and, m3, tL_add (by rw [u4, s]; exact hlt p3' r3'), u4, s, land_32 _ _ _ _ p3' (by decide), p3, r3, a5, b5, c5, d5, e5, f5, g5', h5]
  clear q3 t2
  obtain ⟨A, B, eA, eB, n1, n2, n3, n4⟩ := pn5 (pc8 a) (pc8 b) (pc8 c) (pc8 d) (pc8 e) (pc8 f) (pc8 g) (pc8 h) a6 b6 c6 d6 e6 f6 g6' h6 t3
  generalize q4 : y3 + (lushr y3 (8 : Int32)) = y4
  have t4 : tL y4 = A := by rw [← q4, tL_add (by rw [u8, ← eA]; exact n2), u8, ← eA]
  generalize q5 : y4 + (lushr y4 (16 : Int32)) = y5
  have t5 : tL y5 = B := by rw [← q5, tL_add (by rw [u16, t4, ← eB]; exact n3), u16, t4, ← eB]
  have t6 : tL (y5 + (lushr y5 (32 : Int32))) = B + B / 4294967296 := by rw [tL_add (by rw [u32, t5]; exact n4), u32, t5]
  rw [tN_and, m4, tN_32, t6, show (127 : Nat) = 2 ^ 7 - 1 from rfl, Nat.and_two_pow_sub_one_eq_mod, Nat.mod_mod_of_dvd _ (by decide)]
  exact n1
theorem d4_of {n : Nat} (h : n < 2 ^ 32) : n = d4 (n % 256) (n / 256 % 256) (n / 65536 % 256) (n / 16777216) ∧ n / 16777216 < 256 := by unfold d4; omega
theorem sbt_64 {a b c d e f g h : Nat} (ha : a < 256) (hb : b < 256) (hc : c < 256) (hd : d < 256) (he : e < 256) (hf : f < 256) (hg : g < 256) (hh : h < 256) : sbt (d4 a b c d + 4294967296 * d4 e f g h) 64 = (pc8 a + pc8 b + pc8 c + pc8 d) + (pc8 e + pc8 f + pc8 g + pc8 h) := by
  have e0 : d4 a b c d + 4294967296 * d4 e f g h = a + 256 * (b + 256 * (c + 256 * (d + 256 * d4 e f g h))) := pa7 rfl rfl rfl
  have f1 : sbt (a + 256 * (b + 256 * (c + 256 * (d + 256 * d4 e f g h)))) 64 = pc8 a + sbt (b + 256 * (c + 256 * (d + 256 * d4 e f g h))) 56 := sbt_s a _ ha 56
  have f2 : sbt (b + 256 * (c + 256 * (d + 256 * d4 e f g h))) 56 = pc8 b + sbt (c + 256 * (d + 256 * d4 e f g h)) 48 := sbt_s b _ hb 48
  have f3 : sbt (c + 256 * (d + 256 * d4 e f g h)) 48 = pc8 c + sbt (d + 256 * d4 e f g h) 40 := sbt_s c _ hc 40
  have f4 : sbt (d + 256 * d4 e f g h) 40 = pc8 d + sbt (d4 e f g h) 32 := sbt_s d _ hd 32
  rw [e0, f1, f2, f3, f4, sbt_32 he hf hg hh]
  clear e0 f1 f2 f3 f4
  omega
theorem lb_n (v : Int64) (k : Nat) : lb v k = true ↔ tL v / 2 ^ k % 2 = 1 := by
  unfold lb tL
  rw [← BitVec.testBit_toNat, Nat.testBit_eq_decide_div_mod_eq, decide_eq_true_eq]
theorem mo_sum (v : Int64) : ∀ k, k ≤ 64 → tN (mo v k) = sbt (tL v) k
  | 0, _ => show tN 0 = 0 from by decide +kernel
  | k + 1, hk => by
    have ih := mo_sum v k (by omega)
    have le := sbt_le (tL v) k
    have t1 : tN (1 : Int32) = 1 := by decide +kernel
    have t0 : tN (0 : Int32) = 0 := by decide +kernel
    have m2 := Nat.mod_lt (tL v / 2 ^ k) (show 0 < 2 by decide)
    have e : tN ((v >>> ((nI k).toInt64 &&& 63)) &&& 1).toInt32 = tL v / 2 ^ k % 2 := by
      by_cases q : lb v k = true
      · rw [(lbit v (by omega)).mpr q, (lb_n v k).mp q]
        exact t1
      · have n1 : ¬ tL v / 2 ^ k % 2 = 1 := fun z => q ((lb_n v k).mpr z)
        have qf : lb v k = false := by simpa using q
        have e0 : ((v >>> ((nI k).toInt64 &&& 63)) &&& 1) = 0 := by
          refine l_ext (fun j hj => ?_)
          rw [l_and, l_1 j hj, l_0]
          by_cases ej : j = 0
          · subst ej
            rw [l_shr k (by omega), qf]; rfl
          · rw [decide_eq_false ej, Bool.and_false]
        rw [e0, show (0 : Int64).toInt32 = 0 from rfl, t0]
        omega
    rw [mo, sbt, tN_add (by rw [ih, e]; omega), ih, e]
/-- the two counts of a long's bits are the same -/
theorem bcl_mo (v : Int64) : bc64 v = mo v 64 := by
  have l := tL_lt v
  obtain ⟨lo, hi, hl, hh, e⟩ : ∃ lo hi, lo < 2 ^ 32 ∧ hi < 2 ^ 32 ∧ tL v = lo + 4294967296 * hi := ⟨tL v % 4294967296, tL v / 4294967296, by omega, by omega, by omega⟩
  obtain ⟨p, p'⟩ := d4_of hl
  obtain ⟨q, q'⟩ := d4_of hh
  have m : ∀ n : Nat, n % 256 < 256 := fun n => Nat.mod_lt n (by decide)
  rw [p, q] at e
  refine tN_inj ?_
  rw [bcl_sum v (m _) (m _) (m _) p' (m _) (m _) (m _) q' e, mo_sum v 64 (Nat.le_refl _)]
  conv => rhs; rw [e]
  rw [sbt_64 (m _) (m _) (m _) p' (m _) (m _) (m _) q']
end MG87
section MG88
/-! ===== the least bit of a long: the JDK's way and the reference's loop; sets of cases counted ===== -/
theorem nt_p : ∀ p, p < 32 → nt1 (Int32.ofNat (2 ^ p - 1)) = nI p := by decide +kernel
theorem ones_b : ∀ p, p < 32 → ∀ i, i < 32 → bt (Int32.ofNat (2 ^ p - 1)) i = decide (i < p) := by decide +kernel
theorem btn (x : Int32) (i : Nat) : bt x i = (tN x).testBit i := rfl
theorem lbn (x : Int64) (i : Nat) : lb x i = (tL x).testBit i := rfl
theorem lsb_n {x p : Nat} (h0 : ∀ j, j < p → x.testBit j = false) (h1 : x.testBit p = true) (i : Nat) : ((!x.testBit i) && (x - 1).testBit i) = decide (i < p) := by
  have e0 : x % 2 ^ p = 0 := by
    refine Nat.eq_of_testBit_eq (fun j => ?_)
    rw [Nat.testBit_mod_two_pow, Nat.zero_testBit]
    by_cases q : j < p
    · rw [h0 j q, Bool.and_false]
    · rw [decide_eq_false q, Bool.false_and]
  have o1 : x / 2 ^ p % 2 = 1 := by
    rw [Nat.testBit_eq_decide_div_mod_eq, decide_eq_true_eq] at h1
    exact h1
  obtain ⟨k, hk⟩ : ∃ k, x / 2 ^ p = 2 * k + 1 := ⟨x / 2 ^ p / 2, by omega⟩
  have hp : 0 < 2 ^ p := Nat.two_pow_pos p
  have ex : x = 2 ^ p * (2 * k + 1) + 0 := by
    have := Nat.div_add_mod x (2 ^ p)
    rw [e0, hk] at this
    exact this.symm
  have ey : x - 1 = 2 ^ p * (2 * k) + (2 ^ p - 1) := by
    rw [Nat.mul_add, Nat.mul_one] at ex
    omega
  rw [ey]
  conv => lhs; rw [ex]
  rw [Nat.testBit_two_pow_mul_add _ hp, Nat.testBit_two_pow_mul_add _ (by omega)]
  by_cases q : i < p
  · rw [if_pos q, if_pos q, Nat.zero_testBit, Nat.testBit_two_pow_sub_one, decide_eq_true q]; rfl
  · rw [if_neg q, if_neg q, decide_eq_false q]
    generalize i - p = j
    match j with
    | 0 =>
      rw [Nat.testBit_zero, Nat.testBit_zero, decide_eq_true (show (2 * k + 1) % 2 = 1 by omega)]; rfl
    | j + 1 =>
      rw [Nat.testBit_succ, Nat.testBit_succ, show (2 * k + 1) / 2 = k by omega, show 2 * k / 2 = k by omega]
      cases k.testBit j <;> rfl
theorem ntz_p {v : Int32} {p : Nat} (hp : p < 32) (h0 : ∀ j, j < p → bt v j = false) (h1 : bt v p = true) : ntz v = nI p := by
  have nz : 1 ≤ tN v := by
    have z : ¬ tN v = 0 := fun z => by
      rw [btn, z, Nat.zero_testBit] at h1
      exact absurd h1 (by decide)
    omega
  have t1 : tN (1 : Int32) = 1 := by decide +kernel
  have e : ((v ^^^ (-1)) &&& (v - 1)) = Int32.ofNat (2 ^ p - 1) := by
    refine b_ext (fun i hi => ?_)
    rw [b_and, b_not _ hi, ones_b p hp i hi, btn (v - 1), tN_sub (by rw [t1]; exact nz), t1, btn v]
    exact lsb_n (fun j hj => h0 j hj) h1 i
  unfold ntz
  rw [e]
  exact nt_p p hp
theorem lo_b (v : Int64) {i : Nat} (hi : i < 32) : bt v.toInt32 i = lb v i := by
  rw [btn, lbn, tN_32, Nat.testBit_mod_two_pow, decide_eq_true hi, Bool.true_and]
theorem hi_b (v : Int64) {i : Nat} (hi : i < 32) : bt (lushr v (32 : Int32)).toInt32 i = lb v (i + 32) := by
  have u : tL (lushr v (32 : Int32)) = tL v / 2 ^ 32 := tL_ushr v (k := 32) (by decide)
  rw [btn, lbn, tN_32, Nat.testBit_mod_two_pow, decide_eq_true hi, Bool.true_and, u, Nat.testBit_div_two_pow]
theorem n32 : ∀ p, p < 32 → 32 + nI p = nI (p + 32) := by decide +kernel
theorem ntl_p {v : Int64} {p : Nat} (hp : p < 64) (h0 : ∀ j, j < p → lb v j = false) (h1 : lb v p = true) : ntl v = nI p := by
  unfold ntl
  by_cases q : v.toInt32 = 0
  · have l : ¬ p < 32 := fun z => by
      have := lo_b v z
      rw [q, b_0, h1] at this
      exact absurd this (by decide)
    rw [if_pos q, ntz_p (p := p - 32) (by omega) (fun j hj => by rw [hi_b v (by omega)]; exact h0 _ (by omega)) (by rw [hi_b v (by omega), show p - 32 + 32 = p by omega]; exact h1), n32 _ (by omega), show p - 32 + 32 = p by omega]
  · rw [if_neg q]
    have l : p < 32 := by
      obtain ⟨i, hi, e⟩ := nz_b.mp q
      rw [lo_b v hi] at e
      have : ¬ i < p := fun z => by rw [h0 i z] at e; exact absurd e (by decide)
      omega
    exact ntz_p l (fun j hj => by rw [lo_b v (by omega)]; exact h0 j hj) (by rw [lo_b v l]; exact h1)
/-- the first of some cases from 64 - r on -/
def fsp (p : Nat → Bool) : Nat → Int32
  | 0 => -4
  | r + 1 => if p (63 - r) = true then nI (63 - r) else fsp p r
/-- how many of the first k -/
def nbp (p : Nat → Bool) : Nat → Int32
  | 0 => 0
  | k + 1 => nbp p k + (if p k = true then 1 else 0)
theorem ffo_p (v : Int64) : ∀ r, r ≤ 64 → ffo v r = fsp (lb v) r
  | 0, _ => rfl
  | r + 1, hr => by
    rw [ffo, fsp, ffo_p v r (by omega)]
    have b := lbit v (c := 63 - r) (by omega)
    by_cases q : lb v (63 - r) = true
    · rw [if_pos q, if_neg (fun z => by rw [b.mpr q] at z; exact absurd z (by decide))]
    · rw [if_neg q]
      have qf : lb v (63 - r) = false := by simpa using q
      have e0 : ((v >>> ((nI (63 - r)).toInt64 &&& 63)) &&& 1) = 0 := by
        refine l_ext (fun j hj => ?_)
        rw [l_and, l_1 j hj, l_0]
        by_cases ej : j = 0
        · subst ej
          rw [l_shr (63 - r) (by omega), qf]; rfl
        · rw [decide_eq_false ej, Bool.and_false]
      rw [if_pos e0]
theorem mo_p (v : Int64) : ∀ k, k ≤ 64 → mo v k = nbp (lb v) k
  | 0, _ => rfl
  | k + 1, hk => by
    rw [mo, nbp, mo_p v k (by omega)]
    have b := lbit v (c := k) (by omega)
    by_cases q : lb v k = true
    · rw [if_pos q, b.mpr q]; rfl
    · rw [if_neg q]
      have qf : lb v k = false := by simpa using q
      have e0 : ((v >>> ((nI k).toInt64 &&& 63)) &&& 1) = 0 := by
        refine l_ext (fun j hj => ?_)
        rw [l_and, l_1 j hj, l_0]
        by_cases ej : j = 0
        · subst ej
          rw [l_shr k (by omega), qf]; rfl
        · rw [decide_eq_false ej, Bool.and_false]
      rw [e0]; rfl
theorem nbp_cg {p q : Nat → Bool} : ∀ k, (∀ c, c < k → p c = q c) → nbp p k = nbp q k
  | 0, _ => rfl
  | k + 1, h => by rw [nbp, nbp, nbp_cg k (fun c hc => h c (by omega)), h k (by omega)]
theorem fsp_cg {p q : Nat → Bool} : ∀ r, r ≤ 64 → (∀ c, c < 64 → p c = q c) → fsp p r = fsp q r
  | 0, _, _ => rfl
  | r + 1, hr, h => by rw [fsp, fsp, fsp_cg r (by omega) h, h (63 - r) (by omega)]
/-- the first one is the least -/
theorem fsp_least {p : Nat → Bool} {c : Nat} (hc : c < 64) (h0 : ∀ j, j < c → p j = false) (h1 : p c = true) : ∀ r, r ≤ 64 → 64 - r ≤ c → fsp p r = nI c
  | 0, _, h => absurd h (by omega)
  | r + 1, hr, h => by
    rw [fsp]
    by_cases e : 63 - r = c
    · rw [e, if_pos h1]
    · rw [h0 (63 - r) (by omega), if_neg (by decide)]
      exact fsp_least hc h0 h1 r (by omega) (by omega)
theorem fsp_none {p : Nat → Bool} (h : ∀ c, c < 64 → p c = false) : ∀ r, r ≤ 64 → fsp p r = -4
  | 0, _ => rfl
  | r + 1, hr => by rw [fsp, h (63 - r) (by omega), if_neg (by decide)]; exact fsp_none h r (by omega)
theorem first_ex {p : Nat → Bool} : ∀ n, (∃ c, c < n ∧ p c = true) → ∃ c, c < n ∧ p c = true ∧ ∀ j, j < c → p j = false
  | 0, ⟨_, h, _⟩ => absurd h (by omega)
  | n + 1, ⟨c, hc, e⟩ => by
    by_cases q : ∃ c, c < n ∧ p c = true
    · obtain ⟨d, hd, h⟩ := first_ex n q
      exact ⟨d, by omega, h⟩
    · have nf : ∀ j, j < n → p j = false := fun j hj => by
        cases z : p j
        · rfl
        · exact absurd ⟨j, hj, z⟩ q
      have ec : c = n := by
        by_cases z : c < n
        · rw [nf c z] at e; exact absurd e (by decide)
        · omega
      exact ⟨n, by omega, by rw [← ec]; exact e, nf⟩
/-- the least case as the class tells it -/
def lstC (v : Int64) : Int32 := if v = 0 then -4 else ntl v
theorem lstC_p (v : Int64) : lstC v = fsp (lb v) 64 := by
  unfold lstC
  by_cases q : v = 0
  · rw [if_pos q, fsp_none (fun c _ => by rw [q]; exact l_0 c) 64 (Nat.le_refl _)]
  · rw [if_neg q]
    have ex : ∃ c, c < 64 ∧ lb v c = true := by
      by_cases z : ∃ c, c < 64 ∧ lb v c = true
      · exact z
      · refine absurd (l_ext (fun c hc => ?_)) q
        rw [l_0]
        cases y : lb v c
        · rfl
        · exact absurd ⟨c, hc, y⟩ z
    obtain ⟨c, hc, h1, h0⟩ := first_ex 64 ex
    rw [ntl_p hc h0 h1, fsp_least hc h0 h1 64 (Nat.le_refl _) (by omega)]
theorem bcl_p (v : Int64) : bc64 v = nbp (lb v) 64 := (bcl_mo v).trans (mo_p v 64 (Nat.le_refl _))
/-- the way down comes to the same -/
def nq (H W : Nat → Int32) (c : Nat) : Bool := decide (¬ H c = W c)
/-- many or the least, as the class tells -/
theorem eC_least {M : Mm} {v : Int64} {K : Int32 → Mm → Prop} (h : K (lstC v) M) : CI mC_least [.long v] M K := by
  unfold lstC at h
  refine call_of rfl (Nat.le_of_ble_eq_true rfl) rfl (vC_least_0 ⟨fun q => sJl_ntz (vC_least_15 ?_), fun q => ?_⟩)
  · rw [if_neg q] at h; exact h
  · rw [if_pos q] at h; exact h
theorem eC_manyOrLeast {M : Mm} {v : Int64} {w : Int32} {K : Int32 → Mm → Prop} (h : K (if w = 0 then nbp (lb v) 64 else fsp (lb v) 64) M) : CI mC_manyOrLeast [.long v, .int w] M K := by
  refine call_of rfl (Nat.le_of_ble_eq_true rfl) rfl (vC_manyOrLeast_0 ⟨fun q => eC_least (vC_manyOrLeast_15 ?_), fun q => sJl_bitCount (fun r er => vC_manyOrLeast_8 ?_)⟩)
  · rw [if_neg q] at h; rw [lstC_p]; exact h
  · rw [if_pos q] at h; rw [er, bcl_p]; exact h
end MG88
section MG89
/-! ===== many, clash, sides: the same on both sides ===== -/
/-- a long holds just those of the first k cases of which p is so -/
def BL (v : Int64) (p : Nat → Bool) (k : Nat) : Prop := ∀ c, c < 64 → (lb v c = true ↔ c < k ∧ p c = true)
theorem bl_0 (p : Nat → Bool) : BL 0 p 0 := fun c _ => ⟨fun z => absurd ((l_0 c).symm.trans z) (by decide), fun z => absurd z.1 (by omega)⟩
theorem bl_n {v : Int64} {p : Nat → Bool} {k : Nat} (b : BL v p k) (h : p k = false) : BL v p (k + 1) := fun c hc => by
  rw [b c hc]
  constructor
  · rintro ⟨a, e⟩; exact ⟨by omega, e⟩
  · rintro ⟨a, e⟩
    by_cases z : c = k
    · subst z; rw [h] at e; exact absurd e (by decide)
    · exact ⟨by omega, e⟩
theorem bl_y {v : Int64} {p : Nat → Bool} {k : Nat} (b : BL v p k) (hk : k < 64) (h : p k = true) : BL (v ||| ((1 : Int64) <<< ((nI k).toInt64 &&& 63))) p (k + 1) := fun c hc => by
  rw [l_or, Bool.or_eq_true, l_one k hk c hc, decide_eq_true_eq, b c hc]
  constructor
  · rintro (⟨a, e⟩ | rfl)
    · exact ⟨by omega, e⟩
    · exact ⟨by omega, h⟩
  · rintro ⟨a, e⟩
    by_cases z : c = k
    · exact Or.inr z
    · exact Or.inl ⟨by omega, e⟩
theorem bl_e {v : Int64} {p : Nat → Bool} (b : BL v p 64) {c : Nat} (hc : c < 64) : lb v c = p c := by
  have := b c hc
  cases e : p c
  · cases z : lb v c
    · rfl
    · have y := (this.mp z).2; rw [e] at y; exact absurd y (by decide)
  · exact this.mpr ⟨hc, e⟩
theorem bl_many {v : Int64} {p : Nat → Bool} (b : BL v p 64) : nbp (lb v) 64 = nbp p 64 := nbp_cg 64 (fun _ hc => bl_e b hc)
theorem bl_first {v : Int64} {p : Nat → Bool} (b : BL v p 64) : fsp (lb v) 64 = fsp p 64 := fsp_cg 64 (Nat.le_refl _) (fun _ hc => bl_e b hc)
section EW3
variable {A M N : Mm} {L P R S U D W t : Nat} {G : Nat → Nat → Int32}
theorem hny_e (m : CMP A N L R W G) (hW : W ≤ 24) {d c : Nat} (hd : d < 8) (hc : c < 64) : (¬ (his A L d &&& gi A (L + 205) c) = 0 ↔ lb (fyn N (nI d) W).1 c = true) ∧ (¬ (his A L d &&& gi A (L + 269) c) = 0 ↔ lb (fyn N (nI d) W).2 c = true) := by
  obtain ⟨hy, hn⟩ := his_b m hW hd hc
  obtain ⟨f1, f2⟩ := fyn_b m hW (d := d) hc W (Nat.le_refl W)
  refine ⟨?_, ?_⟩
  · rw [nz_b, f1]
    constructor
    · rintro ⟨v, hv, e⟩; exact ⟨v, (hy v hv).mp e⟩
    · rintro ⟨v, a, b⟩; exact ⟨v, by omega, (hy v (by omega)).mpr ⟨a, b⟩⟩
  · rw [nz_b, f2]
    constructor
    · rintro ⟨v, hv, e⟩; exact ⟨v, (hn v hv).mp e⟩
    · rintro ⟨v, a, b⟩; exact ⟨v, by omega, (hn v (by omega)).mpr ⟨a, b⟩⟩
def clp (A : Mm) (L d c : Nat) : Bool := decide (¬ cls A L d c = 0)
theorem clp_e (m : CMP A N L R W G) (hW : W ≤ 24) {d c : Nat} (hd : d < 8) (hc : c < 64) : clp A L d c = lb (clv N W (nI d)) c := by
  obtain ⟨e1, e2⟩ := hny_e m hW hd hc
  have b := clv_b (N := N) (W := W) (d := nI d) (c := c)
  unfold clp cls
  by_cases q : (his A L d &&& gi A (L + 205) c) = 0 ∨ (his A L d &&& gi A (L + 269) c) = 0
  · rw [if_pos q]
    cases z : lb (clv N W (nI d)) c
    · rfl
    · obtain ⟨y1, y2⟩ := b.mp z
      rcases q with q | q
      · exact absurd q (e1.mpr y1)
      · exact absurd q (e2.mpr y2)
  · rw [if_neg q, b.mpr ⟨e1.mp (fun z => q (Or.inl z)), e2.mp (fun z => q (Or.inr z))⟩]; rfl
theorem pz_clash {v w : Int32} {Z : Int32 → Int32 → Mm → Prop} (i0 : INY M) (h : ∀ r s N, INY N → r = s → Z r s N) : CI mC_clash [.ref 10, .int v, .int w] M (fun r N => CI mM_clash [.ref 6027, .int v, .int w] N (fun s O => Z r s O)) := by
  obtain ⟨L, P, R, S, U, D, W, t, i, ez⟩ := i0
  have c := i.1.1
  have hW : W ≤ 24 := i.2.1.2.1
  obtain ⟨G, ey⟩ := ez.2
  have cB := cx_cq (cq_bgn M L R (gi M 10 9)) c
  have key : ∀ N r, CQ M N → r = mClash N W v w → CI mM_clash [.ref 6027, .int v, .int w] N (fun s O => Z r s O) := fun N r f e => tM_clash (iv_cq f i).2.1.1 (fun O g => h _ _ O ⟨L, P, R, S, U, D, W, t, iv_af g (iv_cq f i), ez_af g (ez_cq f ez)⟩ e)
  refine call_of rfl (Nat.le_of_ble_eq_true rfl) rfl (vC_clash_0 (sC_isDoctor (fun q => vC_clash_4 ⟨fun _ => key M _ (cq_rf M) ?_, fun q => absurd rfl q⟩) (fun d hd ed => vC_clash_4 ⟨fun q => absurd q (by decide), fun _ => sC_isEither (fun q1 q2 => vC_clash_11 rfl ⟨fun q => absurd rfl q, fun _ => key M _ (cq_rf M) ?_⟩) (fun ew => vC_clash_11 rfl ⟨fun _ => lC_weighNow c (vC_clash_20 ?_), fun q => absurd q (by decide)⟩)⟩)))
  · rw [mClash, nD q, Bool.false_and, if_neg (by decide)]
  · rw [mClash, nE q1 q2, Bool.and_false, if_neg (by decide)]
  · subst ed
    have wB := cxw c (gi M 10 9)
    have fB := cq_bgn M L R (gi M 10 9)
    have m := cmp_of i ez.1 ey fB
    generalize bgn M L R (gi M 10 9) = B at cB wB fB m
    refine lp 64 (P := fun k => ∀ x, BL x (clp B L d) k → X mC_clash 25 [(0, .ref 10), (1, .int (nI d)), (2, .int w), (3, .long x), (5, .int (nI k))] [] B (mC mC_clash, mS mC_clash) (QI (fun r N => CI mM_clash [.ref 6027, .int (nI d), .int w] N (fun s O => Z r s O)))) (fun k hk ih x hx => ?_) (fun x hx => ?_) 0 (bl_0 _)
    · refine vC_clash_25 rfl (cx11 cB) ⟨fun q => absurd q (nge rfl (by decide) hk), fun _ => sWe_clashes wB hd hk (vC_clash_42 ⟨fun q => ?_, fun q => ?_⟩)⟩
      · rw [nI_s]; exact ih _ (bl_n hx (decide_eq_false (fun z => z q)))
      · rw [nI_s]; exact ih _ (bl_y hx hk (decide_eq_true q))
    · refine vC_clash_25 rfl (cx11 cB) ⟨fun _ => eC_manyOrLeast (vC_clash_63 (key B _ fB ?_)), fun q => absurd (nself rfl) q⟩
      have e : ∀ c, c < 64 → clp B L d c = lb (clv B W (nI d)) c := fun c hc => clp_e m hW hd hc
      rw [mClash, yD hd, yE ew, if_pos (show (true && true) = true from rfl), bl_many hx, bl_first hx, nbp_cg 64 e, fsp_cg 64 (Nat.le_refl _) e, mo_p _ 64 (Nat.le_refl _), ffo_p _ 64 (Nat.le_refl _)]
end EW3
end MG89
section MG90
/-! ===== what holds, of opinions alone; hangs ===== -/
/-- what is held, by a law, opinions, a head and silence -/
def hof (l : Int32) (o : Nat → Int32) (hd si : Int32) : Int32 := anb (byf l (ocn o 1 8) (ocn o 0 8) (hds hd o) si) l (ocn o 1 8) (ocn o 0 8) (hds hd o) si
section EW4
variable {A M N : Mm} {L P R S U D W t : Nat} {G : Nat → Nat → Int32}
end EW4
end MG90
section MG91
/-! ===== a found word: what a doctor says then, on both sides ===== -/
def bet (W v : Nat) : Nat := if v < W then v else 24
section EX2
variable {A M N S : Mm} {L P R U D W t d m : Nat} {G : Nat → Nat → Int32} {a : Int32}
end EX2
end MG91
