section MG83
/-! ===== pairs of calls: queries, with what was settled the same ===== -/
section EQV1
variable {M : Mm}
theorem py_word {v w : Int32} {Z : Int32 → Int32 → Mm → Prop} (i0 : INY M) (h : ∀ r s N, INY N → Z r s N) : CI mC_word [.ref 10, .int v, .int w] M (fun r N => CI mM_word [.ref 6027, .int v, .int w] N (fun s O => Z r s O)) := by
  obtain ⟨L, P, R, S, U, D, W, t, i, ex⟩ := i0
  have c := i.1.1
  have i0 : INY M := ⟨L, P, R, S, U, D, W, t, i, ex⟩
  refine lC_word c i.1.2.1 i.1.2.2.1 (fun r => ?_)
  exact tM_word i.2.1.1 (fun s => h r s M i0)
theorem py_says {v w : Int32} {Z : Int32 → Int32 → Mm → Prop} (i0 : INY M) (h : ∀ r s N, INY N → Z r s N) : CI mC_says [.ref 10, .int v, .int w] M (fun r N => CI mM_says [.ref 6027, .int v, .int w] N (fun s O => Z r s O)) := by
  obtain ⟨L, P, R, S, U, D, W, t, i, ex⟩ := i0
  have c := i.1.1
  have i0 : INY M := ⟨L, P, R, S, U, D, W, t, i, ex⟩
  refine lC_says c i.1.2.1 i.1.2.2.1 (fun r => ?_)
  exact tM_says i.2.1.1 (h r _ M i0)
theorem py_words {v : Int32} {Z : Int32 → Int32 → Mm → Prop} (i0 : INY M) (h : ∀ r s N, INY N → Z r s N) : CI mC_words [.ref 10, .int v] M (fun r N => CI mM_words [.ref 6027, .int v] N (fun s O => Z r s O)) := by
  obtain ⟨L, P, R, S, U, D, W, t, i, ex⟩ := i0
  have c := i.1.1
  have i0 : INY M := ⟨L, P, R, S, U, D, W, t, i, ex⟩
  refine lC_words c (fun r => ?_)
  exact tM_words i.2.1.1 (h r _ M i0)
theorem py_meets {v w : Int32} {Z : Int32 → Int32 → Mm → Prop} (i0 : INY M) (h : ∀ r s N, INY N → Z r s N) : CI mC_meets [.ref 10, .int v, .int w] M (fun r N => CI mM_meets [.ref 6027, .int v, .int w] N (fun s O => Z r s O)) := by
  obtain ⟨L, P, R, S, U, D, W, t, i, ex⟩ := i0
  have c := i.1.1
  have i0 : INY M := ⟨L, P, R, S, U, D, W, t, i, ex⟩
  refine lC_meets c (fun r => ?_)
  exact tM_meets i.2.1.1 (fun s => h r s M i0)
theorem py_steps {v : Int32} {Z : Int32 → Int32 → Mm → Prop} (i0 : INY M) (h : ∀ r s N, INY N → Z r s N) : CI mC_steps [.ref 10, .int v] M (fun r N => CI mM_steps [.ref 6027, .int v] N (fun s O => Z r s O)) := by
  obtain ⟨L, P, R, S, U, D, W, t, i, ex⟩ := i0
  have c := i.1.1
  have i0 : INY M := ⟨L, P, R, S, U, D, W, t, i, ex⟩
  refine lC_steps c i.1.2.1 i.1.2.2.1 (fun r => ?_)
  exact tM_steps i.2.1.1 (fun s => h r s M i0)
theorem py_count {v : Int32} {Z : Int32 → Int32 → Mm → Prop} (i0 : INY M) (h : ∀ r s N, INY N → Z r s N) : CI mC_count [.ref 10, .int v] M (fun r N => CI mM_count [.ref 6027, .int v] N (fun s O => Z r s O)) := by
  obtain ⟨L, P, R, S, U, D, W, t, i, ex⟩ := i0
  have c := i.1.1
  have i0 : INY M := ⟨L, P, R, S, U, D, W, t, i, ex⟩
  refine lC_count c (fun r => ?_)
  exact tM_count i.2.1.1 (fun s => h r s M i0)
theorem py_each {v w : Int32} {Z : Int32 → Int32 → Mm → Prop} (i0 : INY M) (h : ∀ r s N, INY N → Z r s N) : CI mC_each [.ref 10, .int v, .int w] M (fun r N => CI mM_each [.ref 6027, .int v, .int w] N (fun s O => Z r s O)) := by
  obtain ⟨L, P, R, S, U, D, W, t, i, ex⟩ := i0
  have c := i.1.1
  refine lC_each c (fun r N f => ?_)
  have iN := iv_cq f i
  have xN := ez_cq f ex
  have jN := iN.2.1
  exact tM_each jN.1 (fun O g => h r _ O ⟨L, P, R, S, U, D, W, t, iv_af g iN, ez_af g xN⟩)
theorem py_clash {v w : Int32} {Z : Int32 → Int32 → Mm → Prop} (i0 : INY M) (h : ∀ r s N, INY N → Z r s N) : CI mC_clash [.ref 10, .int v, .int w] M (fun r N => CI mM_clash [.ref 6027, .int v, .int w] N (fun s O => Z r s O)) := by
  obtain ⟨L, P, R, S, U, D, W, t, i, ex⟩ := i0
  have c := i.1.1
  refine lC_clash c (fun r N f => ?_)
  have iN := iv_cq f i
  have xN := ez_cq f ex
  have jN := iN.2.1
  exact tM_clash jN.1 (fun O g => h r _ O ⟨L, P, R, S, U, D, W, t, iv_af g iN, ez_af g xN⟩)
theorem py_sides {v w x : Int32} {Z : Int32 → Int32 → Mm → Prop} (i0 : INY M) (h : ∀ r s N, INY N → Z r s N) : CI mC_sides [.ref 10, .int v, .int w, .int x] M (fun r N => CI mM_sides [.ref 6027, .int v, .int w, .int x] N (fun s O => Z r s O)) := by
  obtain ⟨L, P, R, S, U, D, W, t, i, ex⟩ := i0
  have c := i.1.1
  refine lC_sides c (fun r N f => ?_)
  have iN := iv_cq f i
  have xN := ez_cq f ex
  have jN := iN.2.1
  exact tM_sides jN.1 (fun O g => h r _ O ⟨L, P, R, S, U, D, W, t, iv_af g iN, ez_af g xN⟩)
theorem py_hangs {v w : Int32} {Z : Int32 → Int32 → Mm → Prop} (i0 : INY M) (h : ∀ r s N, INY N → Z r s N) : CI mC_hangs [.ref 10, .int v, .int w] M (fun r N => CI mM_hangs [.ref 6027, .int v, .int w] N (fun s O => Z r s O)) := by
  obtain ⟨L, P, R, S, U, D, W, t, i, ex⟩ := i0
  have c := i.1.1
  refine lC_hangs c (fun r N f => ?_)
  have iN := iv_cq f i
  have xN := ez_cq f ex
  have jN := iN.2.1
  exact tM_hangs jN.1 jN.2.2.1 (fun s O g => h r s O ⟨L, P, R, S, U, D, W, t, iv_qf g iN, ez_qf g xN⟩)
theorem py_held {v w : Int32} {Z : Int32 → Int32 → Mm → Prop} (i0 : INY M) (h : ∀ r s N, INY N → Z r s N) : CI mC_held [.ref 10, .int v, .int w] M (fun r N => CI mM_held [.ref 6027, .int v, .int w] N (fun s O => Z r s O)) := by
  obtain ⟨L, P, R, S, U, D, W, t, i, ex⟩ := i0
  have c := i.1.1
  refine lC_held c (fun r N f => ?_)
  have iN := iv_cq f i
  have xN := ez_cq f ex
  have jN := iN.2.1
  exact tM_held jN.1 jN.2.2.1 (fun O g => h r _ O ⟨L, P, R, S, U, D, W, t, iv_af g iN, ez_af g xN⟩)
theorem py_cases {v : Int32} {Z : Int64 → Int64 → Mm → Prop} (i0 : INY M) (h : ∀ r s N, INY N → Z r s N) : CJ mC_cases [.ref 10, .int v] M (fun r N => CJ mM_cases [.ref 6027, .int v] N (fun s O => Z r s O)) := by
  obtain ⟨L, P, R, S, U, D, W, t, i, ex⟩ := i0
  have c := i.1.1
  refine lC_cases c (fun r N f => ?_)
  have iN := iv_cq f i
  have xN := ez_cq f ex
  have jN := iN.2.1
  exact tM_cases jN.1 jN.2.2.1 (fun O g => h r _ O ⟨L, P, R, S, U, D, W, t, iv_af g iN, ez_af g xN⟩)
theorem py_many {v : Int32} {Z : Int32 → Int32 → Mm → Prop} (i0 : INY M) (h : ∀ r s N, INY N → Z r s N) : CI mC_many [.ref 10, .int v] M (fun r N => CI mM_many [.ref 6027, .int v] N (fun s O => Z r s O)) := by
  obtain ⟨L, P, R, S, U, D, W, t, i, ex⟩ := i0
  have c := i.1.1
  refine lC_many c (fun r N f => ?_)
  have iN := iv_cq f i
  have xN := ez_cq f ex
  have jN := iN.2.1
  exact tM_many jN.1 jN.2.2.1 (fun O g => h r _ O ⟨L, P, R, S, U, D, W, t, iv_af g iN, ez_af g xN⟩)
theorem py_reckon {v w x y z : Int32} {Z : Int32 → Int32 → Mm → Prop} (i0 : INY M) (h : ∀ r s N, INY N → Z r s N) : CI mC_reckon [.ref 10, .int v, .int w, .int x, .int y, .int z] M (fun r N => CI mM_reckon [.ref 6027, .int v, .int w, .int x, .int y, .int z] N (fun s O => Z r s O)) := by
  obtain ⟨L, P, R, S, U, D, W, t, i, ex⟩ := i0
  have c := i.1.1
  refine lC_reckon c (fun r N f => ?_)
  have iN := iv_cq f i
  have xN := ez_cq f ex
  have jN := iN.2.1
  exact tM_reckon jN.1 jN.2.2.1 (fun O g => h r _ O ⟨L, P, R, S, U, D, W, t, iv_af g iN, ez_af g xN⟩)
theorem py_widest {v : Int32} {Z : Int32 → Int32 → Mm → Prop} (i0 : INY M) (h : ∀ r s N, INY N → Z r s N) : CI mC_widest [.ref 10, .int v] M (fun r N => CI mM_widest [.ref 6027, .int v] N (fun s O => Z r s O)) := by
  obtain ⟨L, P, R, S, U, D, W, t, i, ex⟩ := i0
  have c := i.1.1
  refine lC_widest c (fun r N f => ?_)
  have iN := iv_cq f i
  have xN := ez_cq f ex
  have jN := iN.2.1
  exact tM_widest jN.1 jN.2.2.1 (fun O g => h r _ O ⟨L, P, R, S, U, D, W, t, iv_af g iN, ez_af g xN⟩)
theorem py_near {v w x : Int32} {Z : Int32 → Int32 → Mm → Prop} (i0 : INY M) (h : ∀ r s N, INY N → Z r s N) : CI mC_near [.ref 10, .int v, .int w, .int x] M (fun r N => CI mM_near [.ref 6027, .int v, .int w, .int x] N (fun s O => Z r s O)) := by
  obtain ⟨L, P, R, S, U, D, W, t, i, ex⟩ := i0
  have c := i.1.1
  refine lC_near c (fun r N f => ?_)
  have iN := iv_cq f i
  have xN := ez_cq f ex
  have jN := iN.2.1
  exact tM_near jN.1 jN.2.2.1 (fun O g => h r _ O ⟨L, P, R, S, U, D, W, t, iv_af g iN, ez_af g xN⟩)
theorem py_argue {v w x : Int32} {Z : Int32 → Int32 → Mm → Prop} (i0 : INY M) (h : ∀ r s N, INY N → Z r s N) : CI mC_argue [.ref 10, .int v, .int w, .int x] M (fun r N => CI mM_argue [.ref 6027, .int v, .int w, .int x] N (fun s O => Z r s O)) := by
  obtain ⟨L, P, R, S, U, D, W, t, i, ex⟩ := i0
  have c := i.1.1
  refine lC_argue c (fun r N f => ?_)
  have iN := iv_cq f i
  have xN := ez_cq f ex
  have jN := iN.2.1
  exact tM_argue jN.1 jN.2.2.1 (fun s O g => h r s O ⟨L, P, R, S, U, D, W, t, iv_qf g iN, ez_qf g xN⟩)
theorem py_game {v w x : Int32} {Z : Int32 → Int32 → Mm → Prop} (i0 : INY M) (h : ∀ r s N, INY N → Z r s N) : CI mC_game [.ref 10, .int v, .int w, .int x] M (fun r N => CI mM_game [.ref 6027, .int v, .int w, .int x] N (fun s O => Z r s O)) := by
  obtain ⟨L, P, R, S, U, D, W, t, i, ex⟩ := i0
  have c := i.1.1
  refine lC_game c (fun r N f => ?_)
  have iN := iv_cq f i
  have xN := ez_cq f ex
  have jN := iN.2.1
  exact tM_game jN.1 jN.2.2.1 (fun s O g => h r s O ⟨L, P, R, S, U, D, W, t, iv_qf g iN, ez_qf g xN⟩)
theorem py_turns {v w x : Int32} {Z : Int32 → Int32 → Mm → Prop} (i0 : INY M) (h : ∀ r s N, INY N → Z r s N) : CI mC_turns [.ref 10, .int v, .int w, .int x] M (fun r N => CI mM_turns [.ref 6027, .int v, .int w, .int x] N (fun s O => Z r s O)) := by
  obtain ⟨L, P, R, S, U, D, W, t, i, ex⟩ := i0
  have c := i.1.1
  refine lC_turns c (fun r N f => ?_)
  have iN := iv_cq f i
  have xN := ez_cq f ex
  have jN := iN.2.1
  exact tM_turns jN.1 jN.2.1 jN.2.2.1 jN.2.2.2.2 (fun s O g => h r s O ⟨L, P, R, S, U, D, W, t, iv_qf g iN, ez_qf g xN⟩)
theorem py_differ {v : Int32} {Z : Int32 → Int32 → Mm → Prop} (i0 : INY M) (h : ∀ r s N, INY N → Z r s N) : CI mC_differ [.ref 10, .int v] M (fun r N => CI mM_differ [.ref 6027, .int v] N (fun s O => Z r s O)) := by
  obtain ⟨L, P, R, S, U, D, W, t, i, ex⟩ := i0
  have c := i.1.1
  refine lC_differ c (fun r N f => ?_)
  have iN := iv_cq f i
  have xN := ez_cq f ex
  have jN := iN.2.1
  exact tM_differ jN.1 jN.2.2.1 jN.2.2.2.1 (fun s O g => h r s O ⟨L, P, R, S, U, D, W, t, iv_qf g iN, ez_qf g xN⟩)
theorem py_brief {v : Int32} {Z : Int32 → Int32 → Mm → Prop} (i0 : INY M) (h : ∀ r s N, INY N → Z r s N) : CI mC_brief [.ref 10, .int v] M (fun r N => CI mM_brief [.ref 6027, .int v] N (fun s O => Z r s O)) := by
  obtain ⟨L, P, R, S, U, D, W, t, i, ex⟩ := i0
  have c := i.1.1
  refine lC_brief c (fun r N f => ?_)
  have iN := iv_cq f i
  have xN := ez_cq f ex
  have jN := iN.2.1
  exact tM_brief jN.1 jN.2.2.1 (fun s O g => h r s O ⟨L, P, R, S, U, D, W, t, iv_qf g iN, ez_qf g xN⟩)
theorem py_read {v w x y z : Int32} {Z : Int32 → Int32 → Mm → Prop} (i0 : INY M) (h : ∀ r s N, INY N → Z r s N) : CI mC_read [.ref 10, .int v, .int w, .int x, .int y, .int z] M (fun r N => CI mM_read [.ref 6027, .int v, .int w, .int x, .int y, .int z] N (fun s O => Z r s O)) := by
  obtain ⟨L, P, R, S, U, D, W, t, i, ex⟩ := i0
  have c := i.1.1
  refine lC_read c (js_n i.2.2.2) (fun r N f => ?_)
  have iN := iv_cq f i
  have xN := ez_cq f ex
  have jN := iN.2.1
  exact tM_read jN.1 jN.2.2.1 (js_m iN.2.2.2) (fun s O g => h r s O ⟨L, P, R, S, U, D, W, t, iv_qf g iN, ez_qf g xN⟩)
end EQV1
/-! ===== pairs of calls that change what both stand on, with what was read the same ===== -/
section EQV2
variable {M : Mm}
theorem py_fault {Z : Int32 → Int32 → Mm → Prop} (i0 : INY M) (h : ∀ r s N, INY N → r = s → Z r s N) : CI mC_fault [.ref 10] M (fun r N => CI mM_fault [.ref 6027] N (fun s O => Z r s O)) := by
  refine lC_fault (tM_fault (h _ _ M i0 ?_))
  obtain ⟨L, P, R, S, U, D, W, t, i, ex⟩ := i0
  exact ex.1.2.2.1
theorem py_weighs {v : Int32} {Z : Int32 → Int32 → Mm → Prop} (i0 : INY M) (h : ∀ r s N, INY N → r = s → Z r s N) : CI mC_weighs [.ref 10, .int v] M (fun r N => CI mM_weighs [.ref 6027, .int v] N (fun s O => Z r s O)) := by
  have i1 := i0
  obtain ⟨L, P, R, S, U, D, W, t, i, ex⟩ := i0
  have c := i.1.1
  have hm := i.2.1.1.1
  have rn := rn_of i.1 (cxR c)
  have e := ex.1.2.2.2.1
  have key : ∀ r, (∀ j, j < 7 → v = nI j → r = gi M 6543 j) → ((v < 0 ∨ 6 < v) → r = -1) → CI mM_weighs [.ref 6027, .int v] M (fun s O => Z r s O) := by
    intro r h1 h2
    refine call_of rfl (Nat.le_of_ble_eq_true rfl) rfl (vM_weighs_0 (sM_in (l := 0) (m := 6) rfl rfl (fun q => vM_weighs_9 rfl (mr18 hm) ⟨fun q => absurd rfl q, ?_⟩) (fun q1 q2 => ?_)))
    · rw [if_pos rfl]; exact h _ _ M i1 (h2 q)
    · obtain ⟨j, hj, ej⟩ := rngL (c := 6) (n := 6) rfl (by decide) q1 q2
      refine vM_weighs_9 rfl (mr18 hm) ⟨fun _ => by rw [ej]; exact vin hj (by decide), ?_⟩
      rw [if_neg (by decide)]
      refine h _ _ M i1 ?_
      rw [ej, ncl (by omega)]; exact h1 j hj ej
  have k7 : ∀ j, j < 7 → v = nI j → ∀ r, r = gi M 6543 j → CI mM_weighs [.ref 6027, .int v] M (fun s O => Z r s O) := by
    intro j hj ej r er
    refine key r (fun j' hj' ej' => ?_) (fun q => ?_)
    · have : j' = j := (ninj (by omega) (by omega)).mp (ej'.symm.trans ej)
      rw [this]; exact er
    · exfalso
      rw [ej] at q
      rcases q with q | q
      · exact n0 j (by omega) q
      · rw [show (6 : Int32) = nI 6 from rfl, nlt (by omega) (by omega)] at q; omega
  refine call_of rfl (Nat.le_of_ble_eq_true rfl) rfl (vC_weighs_0 rfl (cx6 c) ⟨fun q => k7 0 (by decide) q _ (e 0 (by decide)), fun q => k7 1 (by decide) q _ (e 1 (by decide)), fun q => k7 2 (by decide) q _ ?_, fun q => k7 3 (by decide) q _ (e 3 (by decide)), fun q => k7 4 (by decide) q _ (e 4 (by decide)), fun q => k7 5 (by decide) q _ (e 5 (by decide)), fun q => k7 6 (by decide) q _ (e 6 (by decide)), fun q => key _ (fun j hj ej => ?_) (fun _ => rfl)⟩)
  · rw [← e 2 (by decide)]
    rcases rn with z | z <;> rw [z] <;> decide
  · exfalso
    obtain ⟨q0, q1, q2, q3, q4, q5, q6⟩ := q
    match j, hj, ej with
    | 0, _, ej => exact q0 ej
    | 1, _, ej => exact q1 ej
    | 2, _, ej => exact q2 ej
    | 3, _, ej => exact q3 ej
    | 4, _, ej => exact q4 ej
    | 5, _, ej => exact q5 ej
    | 6, _, ej => exact q6 ej
theorem py_bring {b : Int32} {Z : Int32 → Int32 → Mm → Prop} (i0 : INY M) (h : ∀ r s N, INY N → r = s → Z r s N) : CI mC_bring [.ref 10, .int b] M (fun r N => CI mM_bring [.ref 6027, .int b] N (fun s O => Z r s O)) := by
  obtain ⟨L, P, R, S, U, D, W, t, i, ex⟩ := i0
  refine call_of rfl (Nat.le_of_ble_eq_true rfl) rfl (vC_bring_0 rfl ⟨fun q => ?_, fun q => ?_⟩)
  · have nq : ¬ (¬ b < 0 ∧ ¬ 255 < b) := fun p => by
      rcases q with q | q
      · exact p.1 q
      · exact q.2 (Int32.not_lt.mp p.2)
    refine tM_bring ?_
    rw [mBring, if_neg nq, if_neg nq]
    exact h _ _ M ⟨L, P, R, S, U, D, W, t, i, ex⟩ rfl
  · have pq : ¬ b < 0 ∧ ¬ 255 < b := ⟨q.1, Int32.not_lt.mpr q.2⟩
    refine tM_bring ?_
    rw [mBring, if_pos pq, if_pos pq]
    have g : ∀ a, a ≠ 10 → a ≠ 6027 → gi (si (si M 10 9 b) 6027 9 b) a = gi M a := fun a n1 n2 => by rw [gi_ne n2, gi_ne n1]
    have g1 : ∀ k, k ≠ 9 → gi (si (si M 10 9 b) 6027 9 b) 6027 k = gi M 6027 k := fun k n => by rw [g6 _ _ _ _ n, gi_ne (by decide)]
    refine h _ _ _ ⟨L, P, R, S, U, D, W, t, ?_, ?_⟩ (by rw [gi_ne (by decide)]; exact ex.1.2.1)
    · obtain ⟨i1, i2, i3, i4⟩ := i
      exact ⟨cp_eq i1 (fun _ _ _ _ => rfl) (fun a ha => g a (by omega) (by omega)), mp_eq i2 (fun _ => rfl) (g _ (by decide) (by decide)) (g1 _ (by decide)) (g1 _ (by decide)) (by rw [g _ (by decide) (by decide)]) (by rw [g _ (by decide) (by decide)]), ja_eq i3 (g _ (by decide) (by decide)) (g _ (by decide) (by decide)) (g1 _ (by decide)) (g _ (by decide) (by decide)), js_eq i4 (fun e he => g _ (by unfold sa; omega) (by unfold sa; omega)) (fun e he => g _ (by omega) (by omega)) (g _ (by decide) (by decide)) (g _ (by decide) (by decide)) (g _ (by decide) (by decide))⟩
    · obtain ⟨⟨a1, a2, a3⟩, x1, x2, x3, x4, x5, ⟨x6, x7⟩, x8⟩ := ex.1
      have a1' := a1
      have a2' := a2
      have a3' := a3
      unfold LA at a1'
      unfold RA at a2' a3'
      refine ⟨⟨⟨a1, a2, a3⟩, ?_, ?_, fun i hi => ?_, fun i hi => ?_, fun b hb => ?_, ⟨x6, x7⟩, fun w hw i hi => ?_⟩, ez2 ex.2 (fun a ha => g a (by omega) (by omega)) (fun k _ => by rw [g 6101 (by decide) (by decide)]) (g1 23 (by decide)) (g1 24 (by decide)) (fun k _ => ⟨rfl, rfl⟩) (rv_eq (g 6543 (by decide) (by decide)) (g 6607 (by decide) (by decide)))⟩
      · rw [g6s, gi_ne (by decide), gi_si, if_pos ⟨rfl, rfl⟩]
      · rw [g1 16 (by decide), gi_ne (by decide), gi_si, if_neg (by decide)]; exact x2
      · rw [g R (by omega) (by omega), g 6543 (by decide) (by decide)]; exact x3 i hi
      · rw [g S (by omega) (by omega), g 6607 (by decide) (by decide)]; exact x4 i hi
      · rw [g _ (by omega) (by omega), g 6157 (by decide) (by decide)]; exact x5 b hb
      · rw [g _ (by omega) (by omega), g 6101 (by decide) (by decide)]; exact x8 w hw i hi
theorem py_copies {b n : Int32} {Z : Int32 → Int32 → Mm → Prop} (i0 : INY M) (h : ∀ r s N, INY N → r = s → Z r s N) : CI mC_copies [.ref 10, .int b, .int n] M (fun r N => CI mM_copies [.ref 6027, .int b, .int n] N (fun s O => Z r s O)) := by
  obtain ⟨L, P, R, S, U, D, W, t, i, ex⟩ := i0
  have c := i.1.1
  have hm := i.2.1.1.1
  have hL := cxL c
  unfold LA at hL
  refine call_of rfl (Nat.le_of_ble_eq_true rfl) rfl (vC_copies_0 rfl (cx4 c) (lr2 (cxlr c)) ⟨fun q => ?_, fun q => ?_, fun q => ?_⟩)
  · obtain ⟨i, hi, e⟩ := rng (c := 8) (n := 8) rfl (by decide) q.1 q.2.1
    rw [e]; exact vin hi (by decide)
  · refine tM_copies hm (fun _ => h _ _ M ⟨L, P, R, S, U, D, W, t, i, ex⟩ rfl) (fun k hk ek p1 p2 => ?_)
    exfalso
    have n8 : ¬ (8 : Int32) ≤ b := by rw [ek]; exact nge rfl (by decide) hk
    have n0' : ¬ b < 0 := by rw [ek]; exact n0 k (by omega)
    rcases q with q | q | q | q
    · exact n0' q
    · exact n8 q.2
    · exact p1 q.2.2
    · exact q.2.2.2 (Int32.not_lt.mp p2)
  · obtain ⟨k, hk, ek⟩ := rng (c := 8) (n := 8) rfl (by decide) q.1 q.2.1
    have ec : b.toNatClampNeg = k := by rw [ek]; exact ncl (by omega)
    rw [ec]
    refine ⟨by rw [ek]; exact vin hk (by decide), ?_⟩
    have g0 : ∀ a, a ≠ L + 140 → gi (si M (L + 140) k n) a = gi M a := fun a n1 => gi_ne n1
    refine tM_copies (mr_w hm rfl) (fun p => ?_) (fun k' hk' ek' _ _ => ?_)
    · exfalso
      rcases p with p | p | p | p
      · exact q.1 p
      · rw [ek, show (7 : Int32) = nI 7 from rfl, nlt (by omega) (by omega)] at p; omega
      · exact q.2.2.1 p
      · exact absurd q.2.2.2 (Int32.not_le.mpr p)
    · have kk : k' = k := (ninj (by omega) (by omega)).mp (ek'.symm.trans ek)
      subst kk
      have g : ∀ a, a ≠ L + 140 → a ≠ 6157 → gi (si (si M (L + 140) k' n) 6157 k' n) a = gi M a := fun a n1 n2 => by rw [gi_ne n2, gi_ne n1]
      have hx := ex.1.2.2.2.2.2.1 k' hk'
      refine h _ _ _ ⟨L, P, R, S, U, D, W, t, ?_, ?_⟩ (by rw [g0 _ (by omega)]; exact hx)
      · obtain ⟨i1, i2, i3, i4⟩ := i
        exact ⟨cp_eq i1 (fun _ _ _ _ => rfl) (fun a ha => g a (by omega) (by omega)), mp_eq i2 (fun _ => rfl) (g _ (by omega) (by omega)) (by rw [g _ (by omega) (by omega)]) (by rw [g _ (by omega) (by omega)]) (by rw [g _ (by omega) (by omega)]) (by rw [g _ (by omega) (by omega)]), ja_eq i3 (g _ (by omega) (by omega)) (g _ (by omega) (by omega)) (by rw [g _ (by omega) (by omega)]) (g _ (by omega) (by omega)), js_eq i4 (fun e he => g _ (by unfold sa; omega) (by unfold sa; omega)) (fun e he => g _ (by omega) (by omega)) (g _ (by omega) (by omega)) (g _ (by omega) (by omega)) (g _ (by omega) (by omega))⟩
      · obtain ⟨⟨a1, a2, a3⟩, x1, x2, x3, x4, x5, ⟨x6, x7⟩, x8⟩ := ex.1
        have a2' := a2
        have a3' := a3
        unfold RA at a2' a3'
        refine ⟨⟨⟨a1, a2, a3⟩, ?_, ?_, fun i hi => ?_, fun i hi => ?_, fun b hb => ?_, ⟨x6, x7⟩, fun w hw i hi => ?_⟩, ez2 ex.2 (fun a ha => g a (by omega) (by omega)) (fun k _ => by rw [g 6101 (by omega) (by omega)]) (by rw [g 6027 (by omega) (by omega)]) (by rw [g 6027 (by omega) (by omega)]) (fun k _ => ⟨rfl, rfl⟩) (rv_eq (g 6543 (by omega) (by omega)) (g 6607 (by omega) (by omega)))⟩
        · rw [g 10 (by omega) (by omega), g 6027 (by omega) (by omega)]; exact x1
        · rw [g 10 (by omega) (by omega), g 6027 (by omega) (by omega)]; exact x2
        · rw [g R (by omega) (by omega), g 6543 (by omega) (by omega)]; exact x3 i hi
        · rw [g S (by omega) (by omega), g 6607 (by omega) (by omega)]; exact x4 i hi
        · rw [gi_ne (show L + 140 ≠ 6157 by omega), gxs, gxs, g0 6157 (by omega)]
          by_cases z : b = k'
          · rw [if_pos z, if_pos z]
          · rw [if_neg z, if_neg z]; exact x5 b hb
        · rw [g _ (by omega) (by omega), g 6101 (by omega) (by omega)]; exact x8 w hw i hi
theorem py_keep {Z : Int32 → Int32 → Mm → Prop} (i0 : INY M) (h : ∀ r s N, INY N → r = s → Z r s N) : CI mC_keep [.ref 10] M (fun r N => CI mM_keep [.ref 6027] N (fun s O => Z r s O)) := by
  obtain ⟨L, P, R, S, U, D, W, t, i, ex⟩ := i0
  refine lC_keep i.1.1 (rn_of i.1 (cxR i.1.1)) (fun N pN rN eN => ?_)
  have hS : RA S := i.1.1.2.2.1.2.2.2.1
  have g : ∀ a, a ≠ 199 → a ≠ S → gi N a = gi M a := pN.2.2
  have hL := cxL i.1.1
  have iN : IV N L P R S U D W t := by
    obtain ⟨i1, i2, i3, i4⟩ := i
    have hS' := hS
    unfold RA at hS'
    unfold LA at hL
    refine ⟨?_, mp_eq i2 (fun _ => by rw [pN.1]) (g _ (by decide) (by omega)) (by rw [g _ (by decide) (by omega)]) (by rw [g _ (by decide) (by omega)]) (by rw [g _ (by decide) (by omega)]) (by rw [g _ (by decide) (by omega)]), ja_eq i3 (g _ (by decide) (by omega)) (g _ (by decide) (by omega)) (by rw [g _ (by decide) (by omega)]) (g _ (by decide) (by omega)), js_eq i4 (fun e he => g _ (by unfold sa; omega) (by unfold sa; omega)) (fun e he => g _ (by omega) (by omega)) (g _ (by decide) (by omega)) (g _ (by decide) (by omega)) (g _ (by decide) (by omega))⟩
    have rr : ∀ X, RA X → RN N X := by
      intro X hX
      by_cases e : X = S
      · rw [e]; exact rN
      · unfold RN
        rw [g X (by unfold RA at hX; omega) e]
        exact rn_of i1 hX
    obtain ⟨c1, c2, c3, -⟩ := i1
    refine ⟨cx_gr c1 (fun a j _ => by rw [pN.1]), ?_, c3, rr _ (Or.inl rfl), rr _ (Or.inr (Or.inl rfl)), rr _ (Or.inr (Or.inr rfl))⟩
    rw [g L (by omega) (by omega)]; exact c2
  refine tM_keep iN.2.1.1.1 (fun O kO => h _ _ O ⟨L, P, R, S, U, D, W, t, ?_, ?_⟩ rfl)
  · obtain ⟨i1, i2, i3, i4⟩ := iN
    have g2 : ∀ a, a ≠ 6607 → gi O a = gi N a := kO.2.2.1
    refine ⟨cp_eq i1 (fun _ _ _ _ => by rw [kO.1]) (fun a ha => g2 a (by omega)), ⟨jw_eq i2.1 (fun _ => by rw [kO.1]) (g2 _ (by decide)) (by rw [g2 _ (by decide)]) (by rw [g2 _ (by decide)]), i2.2.1, ?_, ?_, ?_⟩, ja_eq i3 (g2 _ (by decide)) (g2 _ (by decide)) (by rw [g2 _ (by decide)]) (g2 _ (by decide)), js_eq i4 (fun e he => g2 _ (by unfold sa; omega)) (fun e he => g2 _ (by omega)) (g2 _ (by decide)) (g2 _ (by decide)) (g2 _ (by decide))⟩
    · unfold HD; rw [g2 _ (by decide)]; exact i2.2.2.1
    · unfold HO; rw [kO.2.2.2 4, if_pos (by decide)]; exact i2.2.2.1
    · unfold UM; rw [g2 _ (by decide)]; exact i2.2.2.2.2
  · obtain ⟨⟨a1, a2, a3⟩, x1, x2, x3, x4, x5, ⟨x6, x7⟩, x8⟩ := ex.1
    have a1' := a1
    have a2' := a2
    have a3' := a3
    unfold LA at a1'
    unfold RA at a2' a3'
    have ne : R ≠ S := i.1.1.2.2.2.2.2.1
    have gg : ∀ a, a ≠ 6607 → a ≠ 199 → a ≠ S → gi O a = gi M a := fun a n1 n2 n3 => by
      have := kO.2.2.1 a n1
      rw [this]; exact g a n2 n3
    refine ⟨⟨⟨a1, a2, a3⟩, ?_, ?_, fun i hi => ?_, fun i hi => ?_, fun b hb => ?_, ⟨x6, x7⟩, fun w hw i hi => ?_⟩, ez2 ex.2 (fun a ha => gg a (by omega) (by omega) (by omega)) (fun k _ => by rw [gg 6101 (by decide) (by decide) (by omega)]) (by rw [gg 6027 (by decide) (by decide) (by omega)]) (by rw [gg 6027 (by decide) (by decide) (by omega)]) (fun k _ => by rw [kO.2.1, pN.2.1]; exact ⟨rfl, rfl⟩) (fun rv => ⟨by rw [gg 6543 (by decide) (by decide) (by omega)]; exact rv.1, by rw [kO.2.2.2 3, if_pos (by decide), g 6543 (by decide) (by omega)]; exact rv.1.1, by rw [kO.2.2.2 6, if_pos (by decide), g 6543 (by decide) (by omega)]; exact rv.1.2.1, by rw [kO.2.2.2 5, if_pos (by decide), g 6543 (by decide) (by omega)]; exact rv.1.2.2⟩)⟩
    · rw [gg 10 (by decide) (by decide) (by omega), gg 6027 (by decide) (by decide) (by omega)]; exact x1
    · rw [gg 10 (by decide) (by decide) (by omega), gg 6027 (by decide) (by decide) (by omega)]; exact x2
    · rw [gg R (by omega) (by omega) ne, gg 6543 (by decide) (by decide) (by omega)]; exact x3 i hi
    · rw [kO.2.2.2 i, if_pos hi, kO.2.2.1 S (by omega), eN i hi, g 6543 (by decide) (by omega)]; exact x3 i hi
    · rw [gg _ (by omega) (by omega) (by omega), gg 6157 (by decide) (by decide) (by omega)]; exact x5 b hb
    · rw [gg _ (by omega) (by omega) (by omega), gg 6101 (by decide) (by decide) (by omega)]; exact x8 w hw i hi
theorem py_swap {Z : Int32 → Int32 → Mm → Prop} (i0 : INY M) (h : ∀ r s N, INY N → r = s → Z r s N) : CI mC_swap [.ref 10] M (fun r N => CI mM_swap [.ref 6027] N (fun s O => Z r s O)) := by
  obtain ⟨L, P, R, S, U, D, W, t, i, ex⟩ := i0
  refine lC_swap i.1.1 ?_
  have iN : IV (sr (sr M 10 6 (some S)) 10 7 (some R)) L P S R U D W t := by
    obtain ⟨i1, i2, i3, i4⟩ := i
    have gr' : ∀ a j, gr (sr (sr M 10 6 (some S)) 10 7 (some R)) a j = if a = 10 ∧ j = 7 then some R else if a = 10 ∧ j = 6 then some S else gr M a j := fun a j => by rw [gr_sr, gr_sr]
    have gn : ∀ a j, a ≠ 10 → gr (sr (sr M 10 6 (some S)) 10 7 (some R)) a j = gr M a j := fun a j n => by rw [gr', if_neg (fun e => n e.1), if_neg (fun e => n e.1)]
    obtain ⟨⟨x1, ⟨x2, x3, x4, x5, x6⟩, ⟨y1, y2, y3, y4, y5⟩, ⟨x8, x9⟩, ⟨z1, z2, z3, z4⟩⟩, c2⟩ := i1
    have lr : ∀ {L}, LA L → LR M L → LR (sr (sr M 10 6 (some S)) 10 7 (some R)) L := fun {L} hL h => by
      refine ⟨h.1, fun q hq => ?_, fun w hw => ?_⟩
      · rw [gn L q.1 (by unfold LA at hL; omega)]; exact h.2.1 q hq
      · rw [gn (L + 81) w (by omega)]; exact h.2.2 w hw
    have nq : ∀ q ∈ cgt, ¬ (q.1 = 10 ∧ q.2.1 = 7) ∧ ¬ (q.1 = 10 ∧ q.2.1 = 6) := by decide
    refine ⟨⟨⟨fun q hq => ?_, ⟨?_, ?_, ?_, ?_, ?_⟩, ⟨y1, y2, y4, y3, y5⟩, ⟨lr y1 x8, lr y2 x9⟩, ⟨z1, Ne.symm z2, z4, z3⟩⟩, c2⟩, mp_eq i2 (fun k => gn _ _ (by decide)) rfl rfl rfl rfl rfl, i3, i4⟩
    · rw [gr', if_neg (nq q hq).1, if_neg (nq q hq).2]; exact x1 q hq
    · rw [gr', if_neg (by decide), if_neg (by decide)]; exact x2
    · rw [gr', if_neg (by decide), if_neg (by decide)]; exact x3
    · rw [gr', if_neg (by decide), if_pos (by decide)]
    · rw [gr', if_pos (by decide)]
    · rw [gr', if_neg (by decide), if_neg (by decide)]; exact x6
  refine sM_swap iN.2.1.1.1 (fun O kO => h _ _ O ⟨L, P, S, R, U, D, W, t, ?_, ?_⟩ rfl)
  · obtain ⟨i1, i2, i3, i4⟩ := iN
    have g2 := kO.2.2.1
    refine ⟨cp_eq i1 (fun _ _ _ _ => by rw [kO.1]) (fun a ha => g2 a (by omega) (by omega)), ⟨jw_eq i2.1 (fun _ => by rw [kO.1]) (g2 _ (by decide) (by decide)) (by rw [g2 _ (by decide) (by decide)]) (by rw [g2 _ (by decide) (by decide)]), i2.2.1, ?_, ?_, ?_⟩, ja_eq i3 (g2 _ (by decide) (by decide)) (g2 _ (by decide) (by decide)) (by rw [g2 _ (by decide) (by decide)]) (g2 _ (by decide) (by decide)), js_eq i4 (fun e he => g2 _ (by unfold sa; omega) (by unfold sa; omega)) (fun e he => g2 _ (by omega) (by omega)) (g2 _ (by decide) (by decide)) (g2 _ (by decide) (by decide)) (g2 _ (by decide) (by decide))⟩
    · unfold HD; rw [kO.2.2.2.1 4, if_pos (by decide)]; exact i2.2.2.2.1
    · unfold HO; rw [kO.2.2.2.2 4, if_pos (by decide)]; exact i2.2.2.1
    · unfold UM; rw [g2 _ (by decide) (by decide)]; exact i2.2.2.2.2
  · obtain ⟨⟨a1, a2, a3⟩, x1, x2, x3, x4, x5, ⟨x6, x7⟩, x8⟩ := ex.1
    have a1' := a1
    have a2' := a2
    have a3' := a3
    unfold LA at a1'
    unfold RA at a2' a3'
    have gg : ∀ a, a ≠ 6543 → a ≠ 6607 → gi O a = gi M a := fun a n1 n2 => by
      have := kO.2.2.1 a n1 n2
      rw [this]; rfl
    refine ⟨⟨⟨a1, a3, a2⟩, ?_, ?_, fun i hi => ?_, fun i hi => ?_, fun b hb => ?_, ⟨x6, x7⟩, fun w hw i hi => ?_⟩, ez2 ex.2 (fun a ha => gg a (by omega) (by omega)) (fun k _ => by rw [gg 6101 (by decide) (by decide)]) (by rw [gg 6027 (by decide) (by decide)]) (by rw [gg 6027 (by decide) (by decide)]) (fun k _ => by rw [kO.2.1]; exact ⟨rfl, rfl⟩) (fun rv => ⟨⟨by rw [kO.2.2.2.1 3, if_pos (by decide)]; exact rv.2.1, by rw [kO.2.2.2.1 6, if_pos (by decide)]; exact rv.2.2.1, by rw [kO.2.2.2.1 5, if_pos (by decide)]; exact rv.2.2.2⟩, by rw [kO.2.2.2.2 3, if_pos (by decide)]; exact rv.1.1, by rw [kO.2.2.2.2 6, if_pos (by decide)]; exact rv.1.2.1, by rw [kO.2.2.2.2 5, if_pos (by decide)]; exact rv.1.2.2⟩)⟩
    · rw [gg 10 (by decide) (by decide), gg 6027 (by decide) (by decide)]; exact x1
    · rw [gg 10 (by decide) (by decide), gg 6027 (by decide) (by decide)]; exact x2
    · rw [gg S (by omega) (by omega), kO.2.2.2.1 i, if_pos hi]; exact x4 i hi
    · rw [gg R (by omega) (by omega), kO.2.2.2.2 i, if_pos hi]; exact x3 i hi
    · rw [gg _ (by omega) (by omega), gg 6157 (by decide) (by decide)]; exact x5 b hb
    · rw [gg _ (by omega) (by omega), gg 6101 (by decide) (by decide)]; exact x8 w hw i hi
theorem py_feed {v : Int64} {Z : Int32 → Int32 → Mm → Prop} (i0 : INY M) (h : ∀ r s N, INY N → r = s → Z r s N) : CI mC_feed [.ref 10, .long v] M (fun r N => CI mM_feed [.ref 6027, .long v] N (fun s O => Z r s O)) := by
  obtain ⟨L, P, R, S, U, D, W, t, i, ex⟩ := i0
  have i' := i
  obtain ⟨i1, i2, i3, i4⟩ := i
  refine sC_feed i1.1 i3.1 i3.2.1 (fun l => ?_) (fun l N fN => ?_)
  · exact tM_feed i2.1.1 i3.2.2.1 i3.2.1 (fun _ => h _ _ M ⟨L, P, R, S, U, D, W, t, i', ex⟩ rfl) (fun l2 => absurd l2 (by omega))
  · have g : ∀ a, a ≠ 145 → a ≠ 70 → gi (si N 70 1 (nI (t + 8))) a = gi M a := fun a n1 n2 => by rw [gi_ne n2]; exact fN.2.2.1 a n1
    have gR : gr (si N 70 1 (nI (t + 8))) = gr M := fN.1
    have hL := cxL i1.1
    have c1 : CP (si N 70 1 (nI (t + 8))) L P R S U D := cp_eq i1 (fun _ _ _ _ => by rw [gR]) (fun a ha => g a (by omega) (by omega))
    have m1 : MP (si N 70 1 (nI (t + 8))) W := mp_eq i2 (fun _ => by rw [gR]) (g _ (by decide) (by decide)) (by rw [g _ (by decide) (by decide)]) (by rw [g _ (by decide) (by decide)]) (by rw [g _ (by decide) (by decide)]) (by rw [g _ (by decide) (by decide)])
    have s1 : JS (si N 70 1 (nI (t + 8))) := js_eq i4 (fun e he => g _ (by unfold sa; omega) (by unfold sa; omega)) (fun e he => g _ (by omega) (by omega)) (g _ (by decide) (by decide)) (g _ (by decide) (by decide)) (g _ (by decide) (by decide))
    refine tM_feed m1.1.1 (by rw [g _ (by decide) (by decide)]; exact i3.2.2.1) i3.2.1 (fun l2 => absurd l2 (by omega)) (fun _ O fO => h _ _ O ⟨L, P, R, S, U, D, W, t + 8, ?_, ?_⟩ rfl)
    rotate_left
    · have g2 : ∀ a, a ≠ 6486 → a ≠ 6027 → gi O a = gi (si N 70 1 (nI (t + 8))) a := fO.2.2.1
      have f2 : ∀ k, k ≠ 11 → gi O 6027 k = gi (si N 70 1 (nI (t + 8))) 6027 k := fun k n => by rw [fO.2.2.2.1 k, if_neg n]
      exact ez_eq ex (fun a ha => by rw [g2 a (by omega) (by omega), g a (by omega) (by omega)]) (fun k _ => by rw [g2 6101 (by decide) (by decide), g 6101 (by decide) (by decide)]) (fun k hk => by rw [f2 k (by omega), g 6027 (by decide) (by decide)]) (fun k _ => by rw [fO.2.1]; show gl N 6874 k = _ ∧ gl N 6938 k = _; rw [fN.2.1]; exact ⟨rfl, rfl⟩)
    have g2 : ∀ a, a ≠ 6486 → a ≠ 6027 → gi O a = gi (si N 70 1 (nI (t + 8))) a := fO.2.2.1
    have f2 : ∀ k, k ≠ 11 → gi O 6027 k = gi (si N 70 1 (nI (t + 8))) 6027 k := fun k n => by rw [fO.2.2.2.1 k, if_neg n]
    refine ⟨cp_eq c1 (fun _ _ _ _ => by rw [fO.1]) (fun a ha => g2 a (by omega) (by omega)), mp_eq m1 (fun _ => by rw [fO.1]) (g2 _ (by decide) (by decide)) (f2 _ (by decide)) (f2 _ (by decide)) (by rw [g2 _ (by decide) (by decide)]) (by rw [g2 _ (by decide) (by decide)]), ⟨?_, by omega, ?_, fun k hk => ?_⟩, js_eq s1 (fun e he => g2 _ (by unfold sa; omega) (by unfold sa; omega)) (fun e he => g2 _ (by omega) (by omega)) (g2 _ (by decide) (by decide)) (g2 _ (by decide) (by decide)) (g2 _ (by decide) (by decide))⟩
    · rw [g2 _ (by decide) (by decide), gi_si, if_pos ⟨rfl, rfl⟩]
    · rw [fO.2.2.2.1 11, if_pos rfl]
    · rw [g2 145 (by decide) (by decide), gi_ne (show (145 : Nat) ≠ 70 by decide), fN.2.2.2 k, fO.2.2.2.2 k, g 6486 (by decide) (by decide)]
      by_cases q : t ≤ k ∧ k < t + 8
      · rw [if_pos q, if_pos q]; exact by_feed v (by omega)
      · rw [if_neg q, if_neg q]; exact i3.2.2.2 k hk
theorem py_end {n : Int32} {Z : Int32 → Int32 → Mm → Prop} (i0 : INY M) (h : ∀ r s N, INY N → r = s → Z r s N) : CI mC_end [.ref 10, .int n] M (fun r N => CI mM_end [.ref 6027, .int n] N (fun s O => Z r s O)) := by
  obtain ⟨L, P, R, S, U, D, W, t, i, ex⟩ := i0
  have i' := i
  obtain ⟨i1, i2, i3, i4⟩ := i
  have ht := i3.2.1
  refine sC_end i1.1 (fun q => tM_end (fun _ => h _ _ M ⟨L, P, R, S, U, D, W, t, i', ex⟩ rfl) (fun q1 q2 => ?_)) (fun q1 q2 => ?_)
  · rw [i3.1] at q
    rw [i3.2.2.1] at q2
    rcases q with q | q
    · exact absurd q q1
    · exact absurd (Int32.not_lt.mp q2) q
  · rw [i3.1] at q2
    obtain ⟨m, hm, rfl⟩ := nI_of q1
    rw [nle (by omega) hm] at q2
    have g : ∀ a, a ≠ 70 → gi (si M 70 1 (nI m)) a = gi M a := fun a n2 => gi_ne n2
    have e11 : gi (si M 70 1 (nI m)) 6027 11 = nI t := by rw [g _ (by decide)]; exact i3.2.2.1
    refine tM_end (fun q => ?_) (fun _ _ => h _ _ _ ⟨L, P, R, S, U, D, W, m, ?_, ez_eq ex (fun a ha => by rw [gi_ne (by omega), gi_ne (by omega)]) (fun k _ => by rw [gi_ne (by decide), gi_ne (by decide)]) (fun k hk => by rw [g6 _ _ _ _ (by omega), gi_ne (by decide)]) (fun k _ => ⟨rfl, rfl⟩)⟩ (by rw [i3.1, e11]))
    · exfalso
      rw [e11] at q
      rcases q with q | q
      · exact q1 q
      · rw [nlt (by omega) (by omega)] at q; omega
    · have g2 : ∀ a, a ≠ 70 → a ≠ 6027 → gi (si (si M 70 1 (nI m)) 6027 11 (nI m)) a = gi M a := fun a n1 n2 => by rw [gi_ne n2, gi_ne n1]
      have f2 : ∀ k, k ≠ 11 → gi (si (si M 70 1 (nI m)) 6027 11 (nI m)) 6027 k = gi M 6027 k := fun k n => by rw [g6 _ _ _ _ n, g _ (by decide)]
      refine ⟨cp_eq i1 (fun _ _ _ _ => rfl) (fun a ha => g2 a (by omega) (by omega)), mp_eq i2 (fun _ => rfl) (g2 _ (by decide) (by decide)) (f2 _ (by decide)) (f2 _ (by decide)) (by rw [g2 _ (by decide) (by decide)]) (by rw [g2 _ (by decide) (by decide)]), ⟨?_, by omega, g6s _ _ _, fun k hk => ?_⟩, js_eq i4 (fun e he => g2 _ (by unfold sa; omega) (by unfold sa; omega)) (fun e he => g2 _ (by omega) (by omega)) (g2 _ (by decide) (by decide)) (g2 _ (by decide) (by decide)) (g2 _ (by decide) (by decide))⟩
      · rw [gi_ne (by decide), gi_si, if_pos ⟨rfl, rfl⟩]
      · rw [g2 145 (by decide) (by decide), g2 6486 (by decide) (by decide)]; exact i3.2.2.2 k hk
theorem py_sheet {k l n : Int32} {Z : Int32 → Int32 → Mm → Prop} (i0 : INY M) (h : ∀ r s N, INY N → r = s → Z r s N) : CI mC_sheet [.ref 10, .int k, .int l, .int n] M (fun r N => CI mM_sheet [.ref 6027, .int k, .int l, .int n] N (fun s O => Z r s O)) := by
  obtain ⟨L, P, R, S, U, D, W, t, i, ex⟩ := i0
  have i' := i
  obtain ⟨i1, i2, i3, i4⟩ := i
  have hL := cxL i1.1
  refine lC_sheet i1.1 (fun q => ?_) (fun q1 q2 q3 => ?_) (fun e he ek il q2 q3 => ?_)
  · refine tM_sheet i2.1.1 (fun _ => h _ _ M ⟨L, P, R, S, U, D, W, t, i', ex⟩ rfl) (fun p1 p2 p3 => ?_) (fun e he ek il p2 p3 => ?_)
    · exfalso
      rcases q with q | q
      · rw [p1] at q; exact absurd q (by decide)
      · exact q p2
    · exfalso
      rcases q with q | q
      · rw [isS_e he ek, il] at q; exact absurd q (by decide)
      · exact q p2
  · refine tM_sheet i2.1.1 (fun p => ?_) (fun _ _ _ => h _ _ M ⟨L, P, R, S, U, D, W, t, i', ex⟩ rfl) (fun e he ek il p2 p3 => absurd p3 q3)
    exfalso
    rcases p with p | p
    · rw [q1] at p; exact absurd p (by decide)
    · exact p q2
  · generalize eA : fl (si (si M (sa e) 1 l) (sa e) 2 n) (5588 + 128 * e) 40 0 = A
    have sae : ∀ x, x < 4 → sa x = 5509 + 128 * x := fun x _ => rfl
    have g : ∀ a, a ≠ sa e → a ≠ 5588 + 128 * e → gi A a = gi M a := fun a n1 n2 => by
      rw [← eA]; funext j; rw [flR _ _ _ _ _ _ n2, giR _ _ _ _ _ _ n1, giR _ _ _ _ _ _ n1]
    have gR : gr A = gr M := by rw [← eA]; rfl
    have a1 : gi A (sa e) 1 = l := by rw [← eA, flR _ _ _ _ _ _ (by rw [sae e he]; omega), gi_si, if_neg (by omega), gi_si, if_pos ⟨rfl, rfl⟩]
    have a2 : gi A (sa e) 2 = n := by rw [← eA, flR _ _ _ _ _ _ (by rw [sae e he]; omega), gi_si, if_pos ⟨rfl, rfl⟩]
    have a3 : ∀ j, j < 40 → gi A (5588 + 128 * e) j = 0 := fun j hj => by rw [← eA, gi_fl, if_pos ⟨rfl, hj⟩]
    have sa' := sae e he
    have c1 : CP A L P R S U D := cp_eq i1 (fun _ _ _ _ => by rw [gR]) (fun a ha => g a (by omega) (by omega))
    have m1 : MP A W := mp_eq i2 (fun _ => by rw [gR]) (g _ (by omega) (by omega)) (by rw [g _ (by omega) (by omega)]) (by rw [g _ (by omega) (by omega)]) (by rw [g _ (by omega) (by omega)]) (by rw [g _ (by omega) (by omega)])
    have j1 : JA A t := ja_eq i3 (g _ (by omega) (by omega)) (g _ (by omega) (by omega)) (by rw [g _ (by omega) (by omega)]) (g _ (by omega) (by omega))
    refine tM_sheet m1.1.1 (fun p => ?_) (fun _ _ p => absurd q3 p) (fun e' he' ek' _ _ _ O fO => ?_)
    · exfalso
      rcases p with p | p
      · rw [isS_e he ek, il] at p; exact absurd p (by decide)
      · exact p q2
    · have ee : e' = e := (ninj (by omega) (by omega)).mp (ek'.symm.trans ek)
      subst ee
      have g2 : ∀ a, a ≠ 7644 → a ≠ 7708 → a ≠ 7773 → gi O a = gi A a := fO.2.2.1
      refine h _ _ O ⟨L, P, R, S, U, D, W, t, ⟨cp_eq c1 (fun _ _ _ _ => by rw [fO.1]) (fun a ha => g2 a (by omega) (by omega) (by omega)), mp_eq m1 (fun _ => by rw [fO.1]) (g2 _ (by decide) (by decide) (by decide)) (by rw [g2 _ (by decide) (by decide) (by decide)]) (by rw [g2 _ (by decide) (by decide) (by decide)]) (by rw [g2 _ (by decide) (by decide) (by decide)]) (by rw [g2 _ (by decide) (by decide) (by decide)]), ja_eq j1 (g2 _ (by decide) (by decide) (by decide)) (g2 _ (by decide) (by decide) (by decide)) (by rw [g2 _ (by decide) (by decide) (by decide)]) (g2 _ (by decide) (by decide) (by decide)), fun x hx => ?_⟩, ez_eq ex (fun a ha => by rw [g2 a (by omega) (by omega) (by omega), g a (by omega) (by omega)]) (fun k _ => by rw [g2 6101 (by decide) (by decide) (by decide), g 6101 (by omega) (by omega)]) (fun k _ => by rw [g2 6027 (by decide) (by decide) (by decide), g 6027 (by omega) (by omega)]) (fun k _ => by rw [fO.2.1, ← eA]; exact ⟨rfl, rfl⟩)⟩ rfl
      have sx := sae x hx
      by_cases z : x = e'
      · subst z
        have q3' : ¬ n < 0 := Int32.not_lt.mpr q3
        obtain ⟨m, hm, em⟩ := rngL (c := 40) (n := 40) rfl (by decide) q3' (Int32.not_lt.mpr q2)
        refine ⟨⟨m, by omega, ?_, ?_⟩, ?_, fun j hj => ?_⟩
        · rw [g2 _ (by omega) (by omega) (by omega), a2]; exact em
        · rw [fO.2.2.2.2.1 x, if_pos rfl]; exact em
        · rw [g2 _ (by omega) (by omega) (by omega), a1, fO.2.2.2.1 x, if_pos rfl]
        · rw [g2 _ (by omega) (by omega) (by omega), a3 j hj, fO.2.2.2.2.2, if_pos (by omega)]
      · obtain ⟨⟨m, b1, b2, b3⟩, b4, b5⟩ := i4 x hx
        refine ⟨⟨m, b1, ?_, ?_⟩, ?_, fun j hj => ?_⟩
        · rw [g2 _ (by omega) (by omega) (by omega), g _ (by omega) (by omega)]; exact b2
        · rw [fO.2.2.2.2.1 x, if_neg z, g _ (by omega) (by omega)]; exact b3
        · rw [g2 _ (by omega) (by omega) (by omega), g _ (by omega) (by omega), fO.2.2.2.1 x, if_neg z, g _ (by omega) (by omega)]; exact b4
        · rw [g2 _ (by omega) (by omega) (by omega), g _ (by omega) (by omega), fO.2.2.2.2.2, if_neg (by omega), g _ (by omega) (by omega)]; exact b5 j hj
theorem py_lay {k j v : Int32} {Z : Int32 → Int32 → Mm → Prop} (i0 : INY M) (h : ∀ r s N, INY N → r = s → Z r s N) : CI mC_lay [.ref 10, .int k, .int j, .int v] M (fun r N => CI mM_lay [.ref 6027, .int k, .int j, .int v] N (fun s O => Z r s O)) := by
  obtain ⟨L, P, R, S, U, D, W, t, i, ex⟩ := i0
  have i' := i
  obtain ⟨i1, i2, i3, i4⟩ := i
  have hI : INY M := ⟨L, P, R, S, U, D, W, t, i', ex⟩
  have hm := js_m i4
  have uq : ∀ {e e' : Nat}, e < 4 → e' < 4 → k = nI e → k = nI e' → e' = e := fun h1 h2 a b => (ninj (by omega) (by omega)).mp (b.symm.trans a)
  refine lC_lay i1.1 (js_n i4) (fun q => ?_) (fun e he ek q => ?_) (fun e he ek q1 q2 => ?_) (fun e c n he ek ec hn en hc q => ?_)
  · refine tM_lay i2.1.1 hm (fun _ => h _ _ M hI rfl) (fun e he ek _ => ?_) (fun e he ek _ _ => ?_) (fun e c n he ek _ _ _ _ _ => ?_)
    all_goals exact absurd (isS_e he ek) (by rw [q]; decide)
  · have b4 := (i4 e he).2.1
    refine tM_lay i2.1.1 hm (fun p => absurd (isS_e he ek) (by rw [p]; decide)) (fun e' _ _ _ => h _ _ M hI rfl) (fun e' he' ek' p _ => ?_) (fun e' c n he' ek' _ _ _ _ p => ?_)
    all_goals
      have := uq he he' ek ek'
      subst this
      exact absurd (b4.symm.trans q) p
  · obtain ⟨⟨m, b1, b2, b3⟩, b4, -⟩ := i4 e he
    refine tM_lay i2.1.1 hm (fun p => absurd (isS_e he ek) (by rw [p]; decide)) (fun e' he' ek' p => ?_) (fun e' _ _ _ _ => h _ _ M hI rfl) (fun e' c n he' ek' ec hn en hc p => ?_)
    · have := uq he he' ek ek'
      subst this
      exact absurd (b4.trans p) q1
    · have := uq he he' ek ek'
      subst this
      exfalso
      have mn : m = n := (ninj (by omega) (by omega)).mp (b3.symm.trans en)
      rw [b2, ec] at q2
      rcases q2 with q2 | q2
      · exact n0 c (by omega) q2
      · rw [nle (by omega) (by omega)] at q2; omega
  · obtain ⟨⟨m, b1, b2, b3⟩, b4, b5⟩ := i4 e he
    have mn : m = n := (ninj (by omega) (by omega)).mp (b2.symm.trans en)
    subst mn
    have sae : ∀ x, sa x = 5509 + 128 * x := fun x => rfl
    generalize ew : layv (gi M (sa e) 1) v = w
    have g : ∀ a, a ≠ 5588 + 128 * e → gi (si M (5588 + 128 * e) c w) a = gi M a := fun a n1 => gi_ne n1
    have se := sae e
    have c1 : CP (si M (5588 + 128 * e) c w) L P R S U D := cp_eq i1 (fun _ _ _ _ => rfl) (fun a ha => g a (by omega))
    have m1 : MP (si M (5588 + 128 * e) c w) W := mp_eq i2 (fun _ => rfl) (g _ (by omega)) (by rw [g _ (by omega)]) (by rw [g _ (by omega)]) (by rw [g _ (by omega)]) (by rw [g _ (by omega)])
    have j1 : JA (si M (5588 + 128 * e) c w) t := ja_eq i3 (g _ (by omega)) (g _ (by omega)) (by rw [g _ (by omega)]) (g _ (by omega))
    have h7708 : gi (si M (5588 + 128 * e) c w) 7708 = gi M 7708 := g _ (by omega)
    have h7644 : gi (si M (5588 + 128 * e) c w) 7644 = gi M 7644 := g _ (by omega)
    refine tM_lay m1.1.1 (fun x hx => by rw [h7708]; exact hm x hx) (fun p => absurd (isS_e he ek) (by rw [p]; decide)) (fun e' he' ek' p => ?_) (fun e' he' ek' p1 p2 => ?_) (fun e' c' n' he' ek' ec' hn' en' hc' p => ?_)
    · have := uq he he' ek ek'
      subst this
      rw [h7644] at p
      exact absurd (b4.trans p) q
    · have := uq he he' ek ek'
      subst this
      exfalso
      rw [h7708, b3, ec] at p2
      rcases p2 with p2 | p2
      · exact n0 c (by omega) p2
      · rw [nle (by omega) (by omega)] at p2; omega
    · have := uq he he' ek ek'
      subst this
      have cc : c' = c := (ninj (by omega) (by omega)).mp (ec'.symm.trans ec)
      subst cc
      rw [h7644, ← b4, ew]
      have g2 : ∀ a, a ≠ 7773 → gi (si (si M (5588 + 128 * e') c' w) 7773 (40 * e' + c') w) a = gi (si M (5588 + 128 * e') c' w) a := fun a n1 => gi_ne n1
      refine h _ _ _ ⟨L, P, R, S, U, D, W, t, ⟨cp_eq c1 (fun _ _ _ _ => rfl) (fun a ha => g2 a (by omega)), mp_eq m1 (fun _ => rfl) (g2 _ (by omega)) (by rw [g2 _ (by omega)]) (by rw [g2 _ (by omega)]) (by rw [g2 _ (by omega)]) (by rw [g2 _ (by omega)]), ja_eq j1 (g2 _ (by omega)) (g2 _ (by omega)) (by rw [g2 _ (by omega)]) (g2 _ (by omega)), fun x hx => ?_⟩, ez_eq ex (fun a ha => by rw [g2 a (by omega), g a (by omega)]) (fun k _ => by rw [g2 6101 (by omega), g 6101 (by omega)]) (fun k _ => by rw [g2 6027 (by omega), g 6027 (by omega)]) (fun k _ => ⟨rfl, rfl⟩)⟩ rfl
      have sx := sae x
      obtain ⟨⟨m2, d1, d2, d3⟩, d4, d5⟩ := i4 x hx
      refine ⟨⟨m2, d1, ?_, ?_⟩, ?_, fun a ha => ?_⟩
      · rw [g2 _ (by omega), g _ (by omega)]; exact d2
      · rw [g2 _ (by omega), h7708]; exact d3
      · rw [g2 _ (by omega), g _ (by omega), g2 _ (by omega), h7644]; exact d4
      · rw [g2 _ (by omega), gi_si, gi_si, g 7773 (by omega), d5 a ha]
        by_cases z : x = e' ∧ a = c'
        · rw [if_pos (by omega), if_pos (by omega)]
        · rw [if_neg (by omega), if_neg (by omega)]
end EQV2
/-! ===== library and rule on both sides: what was read is the same ===== -/
section EQV3
variable {M : Mm}
theorem py_library {Z : Int32 → Int32 → Mm → Prop} (i0 : INY M) (h : ∀ r s N, INY N → r = s → Z r s N) : CI mC_library [.ref 10] M (fun r N => CI mM_library [.ref 6027] N (fun s O => Z r s O)) := by
  obtain ⟨L, P, R, S, U, D, W, t, i, exx⟩ := i0
  obtain ⟨i1, i2, i3, i4⟩ := i
  have hP : LA P := i1.1.2.2.1.2.1
  have hL := cxL i1.1
  have hP' := hP
  have hL' := hL
  unfold LA at hP' hL'
  generalize eT : gi M 6486 = T
  generalize ex : gi M 6027 14 = x0
  generalize ev : gi M 6027 15 = v0
  generalize ep : gi M 6027 17 = p0
  have tcM : TC M T t := by rw [← eT]; exact tc_of i1.1 i3
  -- what stands of both behind the class's call
  have st : ∀ N, LCF P M N → TP N T t ∧ MP N W ∧ JS N ∧ (∀ k, k < 400 → BY (gi N 145 k) (gi N 6486 k)) ∧ gi N 6027 14 = x0 ∧ gi N 6027 15 = v0 ∧ gi N 6027 17 = p0 := by
    intro N f
    obtain ⟨f1, f2, f3, f4⟩ := f
    have g : ∀ a, a ≠ 199 → a ≠ 258 → a ≠ 70 → a ≠ 10 → ¬ (P ≤ a ∧ a < P + 2304) → gi N a = gi M a := f3
    have mN : MP N W := mp_eq i2 (fun k => by rw [f2 _ (by decide)]) (g _ (by decide) (by decide) (by decide) (by decide) (by omega)) (by rw [g _ (by decide) (by decide) (by decide) (by decide) (by omega)]) (by rw [g _ (by decide) (by decide) (by decide) (by decide) (by omega)]) (by rw [g _ (by decide) (by decide) (by decide) (by decide) (by omega)]) (by rw [g _ (by decide) (by decide) (by decide) (by decide) (by omega)])
    have sN : JS N := js_eq i4 (fun e he => g _ (by unfold sa; omega) (by unfold sa; omega) (by unfold sa; omega) (by unfold sa; omega) (by unfold sa; omega)) (fun e he => g _ (by omega) (by omega) (by omega) (by omega) (by omega)) (g _ (by decide) (by decide) (by decide) (by decide) (by omega)) (g _ (by decide) (by decide) (by decide) (by decide) (by omega)) (g _ (by decide) (by decide) (by decide) (by decide) (by omega))
    have e6 : gi N 6027 = gi M 6027 := g _ (by decide) (by decide) (by decide) (by decide) (by omega)
    have e8 : gi N 6486 = gi M 6486 := g _ (by decide) (by decide) (by decide) (by decide) (by omega)
    refine ⟨⟨mN.1.1, by rw [e6]; exact i3.2.2.1, i3.2.1, e8.trans eT⟩, mN, sN, fun k hk => ?_, by rw [e6]; exact ex, by rw [e6]; exact ev, by rw [e6]; exact ep⟩
    rw [g 145 (by decide) (by decide) (by decide) (by decide) (by omega), e8]
    exact i3.2.2.2 k hk
  have rr : ∀ {N}, LCF P M N → RN N 4995 ∧ RN N 5059 ∧ RN N 5123 := by
    intro N f
    refine ⟨?_, ?_, ?_⟩
    · unfold RN; rw [f.2.2.1 _ (by decide) (by decide) (by decide) (by decide) (by omega)]; exact i1.2.2.2.1
    · unfold RN; rw [f.2.2.1 _ (by decide) (by decide) (by decide) (by decide) (by omega)]; exact i1.2.2.2.2.1
    · unfold RN; rw [f.2.2.1 _ (by decide) (by decide) (by decide) (by decide) (by omega)]; exact i1.2.2.2.2.2
  have neq : L ≠ P := i1.1.2.2.2.2.1
  -- behind the reference's call
  have fin0 : ∀ N O L' P' D', LCF P M N → CP N L' P' R S U D' → OS N O → gi O 6027 11 = 0 → IV O L' P' R S U D' W 0 := by
    intro N O L' P' D' f cN fO o11
    obtain ⟨-, mN, sN, by', -⟩ := st N f
    have g2 : ∀ a, ¬ (a = 6027 ∨ a = 6423 ∨ a = 6229 ∨ a = 6285 ∨ a = 6360) → gi O a = gi N a := fO.2.1
    refine ⟨cp_eq cN (fun _ _ _ _ => by rw [fO.1]) (fun a ha => g2 a (by omega)), mp_eq mN (fun _ => by rw [fO.1]) (g2 _ (by decide)) (fO.2.2.1 0 (by decide)) (fO.2.2.1 24 (by decide)) (by rw [g2 _ (by decide)]) (by rw [g2 _ (by decide)]), ⟨?_, Nat.zero_le _, o11, fun k hk => ?_⟩, js_eq sN (fun e he => g2 _ (by unfold sa; omega)) (fun e he => g2 _ (by omega)) (g2 _ (by decide)) (g2 _ (by decide)) (g2 _ (by decide))⟩
    · rw [g2 _ (by decide)]; exact f.2.2.2
    · rw [g2 145 (by decide), g2 6486 (by decide)]; exact by' k hk
  have fin1 : ∀ N O L' P' D' W', LCF P M N → CP N L' P' R S U D' → NL N O → gi O 6027 11 = 0 → JW O W' → W' ≤ 24 → UM O W' → IV O L' P' R S U D' W' 0 := by
    intro N O L' P' D' W' f cN fO o11 jO hW uO
    obtain ⟨-, mN, sN, by', -⟩ := st N f
    have g2 : ∀ a, ¬ (a = 6027 ∨ a = 6423 ∨ a = 6229 ∨ a = 6285 ∨ a = 6360 ∨ a = 6101 ∨ a = 6157 ∨ a = 6807) → gi O a = gi N a := fO.2.1
    refine ⟨cp_eq cN (fun _ _ _ _ => by rw [fO.1]) (fun a ha => g2 a (by omega)), ⟨jO, hW, ?_, ?_, uO⟩, ⟨?_, Nat.zero_le _, o11, fun k hk => ?_⟩, js_eq sN (fun e he => g2 _ (by unfold sa; omega)) (fun e he => g2 _ (by omega)) (g2 _ (by decide)) (g2 _ (by decide)) (g2 _ (by decide))⟩
    · unfold HD; rw [g2 _ (by decide)]; exact mN.2.2.1
    · unfold HO; rw [g2 _ (by decide)]; exact mN.2.2.2.1
    · rw [g2 _ (by decide)]; exact f.2.2.2
    · rw [g2 145 (by decide), g2 6486 (by decide)]; exact by' k hk
  have cN0 : ∀ N, LCF P M N → gr N = gr M → CP N L P R S U D := by
    intro N f e
    refine ⟨cx_gr i1.1 (fun a j _ => by rw [e]), ?_, i1.2.2.1, rr f⟩
    rw [f.2.2.1 L (by omega) (by omega) (by omega) (by omega) (by omega)]; exact i1.2.1
  have cN1 : ∀ N D', LCF P M N → (∀ j, gr N 10 j = if j = 5 then some L else if j = 4 then some P else gr M 10 j) → gi N P 1 = nI D' → D' ≤ 24 → CP N P L R S U D' := by
    intro N D' f e hD hD2
    refine ⟨?_, hD, hD2, rr f⟩
    obtain ⟨⟨x1, ⟨x2, x3, x4, x5, x6⟩, ⟨y1, y2, y3, y4, y5⟩, ⟨x8, x9⟩, ⟨z1, z2, z3, z4⟩⟩, c2⟩ := i1
    have nq : ∀ q ∈ cgt, q.1 = 10 → q.2.1 ≠ 5 ∧ q.2.1 ≠ 4 := by decide
    have lr : ∀ {L}, LA L → LR M L → LR N L := fun {L} hL h => by
      refine ⟨h.1, fun q hq => ?_, fun w hw => ?_⟩
      · rw [f.2.1 L (by unfold LA at hL; omega)]; exact h.2.1 q hq
      · rw [f.2.1 (L + 81) (by omega)]; exact h.2.2 w hw
    refine ⟨fun q hq => ?_, ⟨?_, ?_, ?_, ?_, ?_⟩, ⟨y2, y1, y3, y4, y5⟩, ⟨lr y2 x9, lr y1 x8⟩, ⟨Ne.symm z1, z2, z3, z4⟩⟩
    · by_cases q10 : q.1 = 10
      · have := nq q hq q10
        rw [q10, e, if_neg this.1, if_neg this.2, ← q10]; exact x1 q hq
      · rw [f.2.1 _ q10]; exact x1 q hq
    · rw [e, if_neg (by decide), if_pos rfl]
    · rw [e, if_pos rfl]
    · rw [e, if_neg (by decide), if_neg (by decide)]; exact x4
    · rw [e, if_neg (by decide), if_neg (by decide)]; exact x5
    · rw [e, if_neg (by decide), if_neg (by decide)]; exact x6
  have neq2 : L ≠ P := i1.1.2.2.2.2.1
  obtain ⟨⟨a1, a2, a3⟩, x1, x2, x3, x4, x5, ⟨x6, x7⟩, x8⟩ := exx.1
  have a2' := a2
  have a3' := a3
  unfold RA at a2' a3'
  have rvM : RV M := by
    obtain ⟨G, ey⟩ := exx.2
    exact ey.2.2.2.2.2.2.2
  have exf : ∀ N O v, LCF P M N → OS N O → gi N 10 10 = v → gi N 10 9 = gi M 10 9 → gi O 6027 16 = v → EZ O L R S D W := by
    intro N O v f fO e10 e9 e16
    have g2 : ∀ a, ¬ (a = 6027 ∨ a = 6423 ∨ a = 6229 ∨ a = 6285 ∨ a = 6360) → gi O a = gi N a := fO.2.1
    have g : ∀ a, a ≠ 199 → a ≠ 258 → a ≠ 70 → a ≠ 10 → ¬ (P ≤ a ∧ a < P + 2304) → gi N a = gi M a := f.2.2.1
    have gg : ∀ a, ¬ (a = 6027 ∨ a = 6423 ∨ a = 6229 ∨ a = 6285 ∨ a = 6360) → a ≠ 199 → a ≠ 258 → a ≠ 70 → a ≠ 10 → ¬ (P ≤ a ∧ a < P + 2304) → gi O a = gi M a := fun a n1 n2 n3 n4 n5 n6 => (g2 a n1).trans (g a n2 n3 n4 n5 n6)
    refine ⟨⟨⟨a1, a2, a3⟩, ?_, ?_, fun i hi => ?_, fun i hi => ?_, fun b hb => ?_, ⟨x6, x7⟩, fun w hw i hi => ?_⟩, ez2 exx.2 (fun a ha => gg a (by omega) (by omega) (by omega) (by omega) (by omega) (by omega)) (fun k _ => by rw [gg 6101 (by decide) (by decide) (by decide) (by decide) (by decide) (by omega)]) (by rw [fO.2.2.1 23 (by decide), g 6027 (by decide) (by decide) (by decide) (by decide) (by omega)]) (by rw [fO.2.2.1 24 (by decide), g 6027 (by decide) (by decide) (by decide) (by decide) (by omega)]) (fun k _ => by rw [fO.2.2.2, f.1]; exact ⟨rfl, rfl⟩) (rv_eq (gg 6543 (by decide) (by decide) (by decide) (by decide) (by decide) (by omega)) (gg 6607 (by decide) (by decide) (by decide) (by decide) (by decide) (by omega)))⟩
    · rw [g2 10 (by decide), e9, x1, fO.2.2.1 9 (by decide), g 6027 (by decide) (by decide) (by decide) (by decide) (by omega)]
    · rw [g2 10 (by decide), e10, e16]
    · rw [gg R (by omega) (by omega) (by omega) (by omega) (by omega) (by omega), gg 6543 (by decide) (by decide) (by decide) (by decide) (by decide) (by omega)]; exact x3 i hi
    · rw [gg S (by omega) (by omega) (by omega) (by omega) (by omega) (by omega), gg 6607 (by decide) (by decide) (by decide) (by decide) (by decide) (by omega)]; exact x4 i hi
    · rw [gg (L + 140) (by omega) (by omega) (by omega) (by omega) (by omega) (by omega), gg 6157 (by decide) (by decide) (by decide) (by decide) (by decide) (by omega)]; exact x5 b hb
    · rw [gg (L + 776 + 64 * w) (by omega) (by omega) (by omega) (by omega) (by omega) (by omega), gg 6101 (by decide) (by decide) (by decide) (by decide) (by decide) (by omega)]; exact x8 w hw i hi
  have exs : ∀ (N O : Mm) (σ : LSt), LCF P M N → NL N O → gi N 10 10 = 0 → gi N 10 9 = 255 → gi O 6027 16 = 0 → gi O 6027 9 = 255 → σ.2.1 ≤ 24 → (∀ w, w < σ.2.1 → ∀ i, i < 8 → gi N (P + 776 + 64 * w) (cf i) = σ.2.2.1 w i) → (∀ b, b < 8 → gi N (P + 140) b = σ.2.2.2.1 b) → (∀ w, w < σ.2.1 → ∀ i, i < 8 → gi O 6101 (10 * w + i) = σ.2.2.1 w i) → (∀ b, b < 8 → gi O 6157 b = σ.2.2.2.1 b) → okS σ → okT σ → (∀ w, w < σ.2.1 → ¬ bdS σ w) → SE N P σ.2.2.1 σ.2.1 → (gi O 6027 23 = ring σ.2.2.1 σ.2.1 ∧ gi O 6027 24 = unsd σ.2.2.1 σ.2.1 ∧ RYZ O σ.2.1 (said σ.2.2.1 σ.2.1).2.1 (said σ.2.2.1 σ.2.1).2.2) → WL N P σ.2.2.1 σ.2.1 → EZ O P R S σ.2.1 σ.2.1 := by
    intro N O σ f fO e10 e9 o16 o9 hD c1 c2 d1 d2 ok kt nbs se ks wl
    have g2 : ∀ a, ¬ (a = 6027 ∨ a = 6423 ∨ a = 6229 ∨ a = 6285 ∨ a = 6360 ∨ a = 6101 ∨ a = 6157 ∨ a = 6807) → gi O a = gi N a := fO.2.1
    have g : ∀ a, a ≠ 199 → a ≠ 258 → a ≠ 70 → a ≠ 10 → ¬ (P ≤ a ∧ a < P + 2304) → gi N a = gi M a := f.2.2.1
    refine ⟨⟨⟨hP, a2, a3⟩, ?_, ?_, fun i hi => ?_, fun i hi => ?_, fun b hb => ?_, ⟨rfl, hD⟩, fun w hw i hi => ?_⟩, σ.2.2.1, d1, fun w hw => ⟨kt w hw, (rows_ok ok kt nbs w hw).1, (rows_ok ok kt nbs w hw).2.1⟩, se_eq (fun a ha => g2 a (by omega)) se, ks.1, ks.2.1, ks.2.2, wl_eq (fun a ha => g2 a (by omega)) wl, rv_eq ((g2 6543 (by decide)).trans (g 6543 (by decide) (by decide) (by decide) (by decide) (by omega))) ((g2 6607 (by decide)).trans (g 6607 (by decide) (by decide) (by decide) (by decide) (by omega))) rvM⟩
    · rw [g2 10 (by decide), e9, o9]
    · rw [g2 10 (by decide), e10, o16]
    · rw [g2 R (by omega), g R (by omega) (by omega) (by omega) (by omega) (by omega), g2 6543 (by decide), g 6543 (by decide) (by decide) (by decide) (by decide) (by omega)]; exact x3 i hi
    · rw [g2 S (by omega), g S (by omega) (by omega) (by omega) (by omega) (by omega), g2 6607 (by decide), g 6607 (by decide) (by decide) (by decide) (by decide) (by omega)]; exact x4 i hi
    · rw [g2 (P + 140) (by omega), c2 b hb, d2 b hb]
    · rw [g2 (P + 776 + 64 * w) (by omega), c1 w hw i hi, d1 w hw i hi]
  have eM : ∀ {N : Mm} {K : Int32 → Mm → Prop}, _ := fun {N} {K} => eM_library2 (M := N) (T := T) (t := t) (K := K) (x0 := x0) (v0 := v0) (p0 := p0)
  have eC := eC_library2 (T := T) (t := t) (x0 := x0) (v0 := v0) (p0 := p0) (K := fun r N => CI mM_library [.ref 6027] N (fun s O => Z r s O)) i1.1 tcM
  generalize lpS T t 401 (lS0 T t x0 v0 p0) 0 = F at eM eC
  refine eC (fun N f e nf e10 e9 => ?_) (fun N w f e zf hw b1 b2 e10 e9 => ?_) (fun N f e zf nb e10 e9 hD hD2 ok rows cps se kt wl => ?_)
  · obtain ⟨tp, -, -, -, q1, q2, q3⟩ := st N f
    exact eM tp q1 q2 q3 (fun O fO o11 _ o16 _ => h _ _ O ⟨L, P, R, S, U, D, W, 0, fin0 N O L P D f (cN0 N f e) fO o11, exf N O _ f fO e10 e9 o16⟩ rfl) (fun O w _ _ z => absurd z nf) (fun O _ _ z => absurd z nf)
  · obtain ⟨tp, -, -, -, q1, q2, q3⟩ := st N f
    refine eM tp q1 q2 q3 (fun O _ _ nf => absurd zf nf) (fun O w' fO o11 _ hw' b1' b2' o16 _ => ?_) (fun O _ _ _ nb => absurd b1 (nb w hw))
    have ww : w' = w := by
      by_cases l : w' < w
      · exact absurd b1' (b2 w' l)
      · by_cases l2 : w < w'
        · exact absurd b1 (b2' w l2)
        · omega
    subst ww
    exact h _ _ O ⟨L, P, R, S, U, D, W, 0, fin0 N O L P D f (cN0 N f e) fO o11, exf N O _ f fO e10 e9 o16⟩ rfl
  · obtain ⟨tp, -, -, -, q1, q2, q3⟩ := st N f
    exact eM tp q1 q2 q3 (fun O _ _ nf => absurd zf nf) (fun O w _ _ _ hw b => absurd b (nb w hw)) (fun O fO o11 _ _ o16 jO hW uO _ d1 d2 o9 ks => h _ _ O ⟨P, L, R, S, U, _, _, 0, fin1 N O P L _ _ f (cN1 N _ f e hD hD2) fO o11 jO hW uO, exs N O F.1 f fO e10 e9 o16 o9 hD2 rows cps d1 d2 ok kt nb se ks wl⟩ rfl)
theorem py_rule {Z : Int32 → Int32 → Mm → Prop} (i0 : INY M) (h : ∀ r s N, INY N → r = s → Z r s N) : CI mC_rule [.ref 10] M (fun r N => CI mM_rule [.ref 6027] N (fun s O => Z r s O)) := by
  obtain ⟨L, P, R, S, U, D, W, t, i, exx⟩ := i0
  obtain ⟨i1, i2, i3, i4⟩ := i
  have hU : RA U := i1.1.2.2.1.2.2.2.2
  have hL := cxL i1.1
  have hU' := hU
  have hL' := hL
  unfold RA at hU'
  unfold LA at hL'
  generalize eT : gi M 6486 = T
  generalize ex : gi M 6027 14 = x0
  generalize ev : gi M 6027 15 = v0
  generalize ep : gi M 6027 17 = p0
  have tcM : TC M T t := by rw [← eT]; exact tc_of i1.1 i3
  have st : ∀ N, RCF U M N → TP N T t ∧ MP N W ∧ JS N ∧ (∀ k, k < 400 → BY (gi N 145 k) (gi N 6486 k)) ∧ gi N 6027 14 = x0 ∧ gi N 6027 15 = v0 ∧ gi N 6027 17 = p0 := by
    intro N f
    obtain ⟨f1, f2, f3, f4, f5⟩ := f
    have g : ∀ a, a ≠ 199 → a ≠ 70 → a ≠ 10 → a ≠ U → gi N a = gi M a := f3
    have mN : MP N W := mp_eq i2 (fun k => by rw [f2 _ (by decide)]) (g _ (by decide) (by decide) (by decide) (by omega)) (by rw [g _ (by decide) (by decide) (by decide) (by omega)]) (by rw [g _ (by decide) (by decide) (by decide) (by omega)]) (by rw [g _ (by decide) (by decide) (by decide) (by omega)]) (by rw [g _ (by decide) (by decide) (by decide) (by omega)])
    have sN : JS N := js_eq i4 (fun e he => g _ (by unfold sa; omega) (by unfold sa; omega) (by unfold sa; omega) (by unfold sa; omega)) (fun e he => g _ (by omega) (by omega) (by omega) (by omega)) (g _ (by decide) (by decide) (by decide) (by omega)) (g _ (by decide) (by decide) (by decide) (by omega)) (g _ (by decide) (by decide) (by decide) (by omega))
    have e6 : gi N 6027 = gi M 6027 := g _ (by decide) (by decide) (by decide) (by omega)
    have e8 : gi N 6486 = gi M 6486 := g _ (by decide) (by decide) (by decide) (by omega)
    refine ⟨⟨mN.1.1, by rw [e6]; exact i3.2.2.1, i3.2.1, e8.trans eT⟩, mN, sN, fun k hk => ?_, by rw [e6]; exact ex, by rw [e6]; exact ev, by rw [e6]; exact ep⟩
    rw [g 145 (by decide) (by decide) (by decide) (by omega), e8]
    exact i3.2.2.2 k hk
  have fin : ∀ N O R' U', RCF U M N → CP N L P R' S U' D → NR N O → HD O → gi O 6027 11 = 0 → IV O L P R' S U' D W 0 := by
    intro N O R' U' f cN fO hO o11
    obtain ⟨-, mN, sN, by', -⟩ := st N f
    have g2 : ∀ a, ¬ (a = 6027 ∨ a = 6671 ∨ a = 6745 ∨ a = 6543) → gi O a = gi N a := fO.2.2.1
    refine ⟨cp_eq cN (fun _ _ _ _ => by rw [fO.1]) (fun a ha => g2 a (by omega)), ⟨jw_eq mN.1 (fun _ => by rw [fO.1]) (g2 _ (by decide)) (fO.2.2.2 0 (by decide)) (fO.2.2.2 24 (by decide)), mN.2.1, hO, ?_, ?_⟩, ⟨?_, Nat.zero_le _, o11, fun k hk => ?_⟩, js_eq sN (fun e he => g2 _ (by unfold sa; omega)) (fun e he => g2 _ (by omega)) (g2 _ (by decide)) (g2 _ (by decide)) (g2 _ (by decide))⟩
    · unfold HO; rw [g2 _ (by decide)]; exact mN.2.2.2.1
    · unfold UM; rw [fO.2.2.2 24 (by decide)]; exact mN.2.2.2.2
    · rw [g2 _ (by decide)]; exact f.2.2.2.1
    · rw [g2 145 (by decide), g2 6486 (by decide)]; exact by' k hk
  have rr : ∀ {N}, RCF U M N → ∀ X, RA X → RN N X := by
    intro N f X hX
    by_cases e : X = U
    · rw [e]; exact f.2.2.2.2
    · unfold RN
      rw [f.2.2.1 X (by unfold RA at hX; omega) (by unfold RA at hX; omega) (by unfold RA at hX; omega) e]
      exact rn_of i1 hX
  have r3 : ∀ {N}, RCF U M N → RN N 4995 ∧ RN N 5059 ∧ RN N 5123 := fun f => ⟨rr f _ (Or.inl rfl), rr f _ (Or.inr (Or.inl rfl)), rr f _ (Or.inr (Or.inr rfl))⟩
  have dd : ∀ {N}, RCF U M N → gi N L 1 = nI D := fun f => by rw [f.2.2.1 L (by omega) (by omega) (by omega) (by omega)]; exact i1.2.1
  have cN0 : ∀ N, RCF U M N → gr N = gr M → CP N L P R S U D := fun N f e => ⟨cx_gr i1.1 (fun a j _ => by rw [e]), dd f, i1.2.2.1, r3 f⟩
  have cN1 : ∀ N, RCF U M N → (∀ j, gr N 10 j = if j = 8 then some R else if j = 6 then some U else gr M 10 j) → CP N L P U S R D := by
    intro N f e
    refine ⟨?_, dd f, i1.2.2.1, r3 f⟩
    obtain ⟨⟨x1, ⟨x2, x3, x4, x5, x6⟩, ⟨y1, y2, y3, y4, y5⟩, ⟨x8, x9⟩, ⟨z1, z2, z3, z4⟩⟩, c2⟩ := i1
    have nq : ∀ q ∈ cgt, q.1 = 10 → q.2.1 ≠ 8 ∧ q.2.1 ≠ 6 := by decide
    have lr : ∀ {L}, LA L → LR M L → LR N L := fun {L} hL h => by
      refine ⟨h.1, fun q hq => ?_, fun w hw => ?_⟩
      · rw [f.2.1 L (by unfold LA at hL; omega)]; exact h.2.1 q hq
      · rw [f.2.1 (L + 81) (by omega)]; exact h.2.2 w hw
    refine ⟨fun q hq => ?_, ⟨?_, ?_, ?_, ?_, ?_⟩, ⟨y1, y2, y5, y4, y3⟩, ⟨lr y1 x8, lr y2 x9⟩, ⟨z1, Ne.symm z4, Ne.symm z3, Ne.symm z2⟩⟩
    · by_cases q10 : q.1 = 10
      · have := nq q hq q10
        rw [q10, e, if_neg this.1, if_neg this.2, ← q10]; exact x1 q hq
      · rw [f.2.1 _ q10]; exact x1 q hq
    · rw [e, if_neg (by decide), if_neg (by decide)]; exact x2
    · rw [e, if_neg (by decide), if_neg (by decide)]; exact x3
    · rw [e, if_neg (by decide), if_pos rfl]
    · rw [e, if_neg (by decide), if_neg (by decide)]; exact x5
    · rw [e, if_pos rfl]
  have neRU : R ≠ U := i1.1.2.2.2.2.2.2.1
  have neSU : S ≠ U := i1.1.2.2.2.2.2.2.2
  obtain ⟨⟨a1, a2, a3⟩, x1, x2, x3, x4, x5, ⟨x6, x7⟩, x8⟩ := exx.1
  have a2' := a2
  have a3' := a3
  unfold RA at a2' a3'
  have rvM : RV M := by
    obtain ⟨G, ey⟩ := exx.2
    exact ey.2.2.2.2.2.2.2
  have exf : ∀ N O v R', RA R' → RCF U M N → NR N O → gi N 10 10 = v → gi N 10 9 = gi M 10 9 → gi O 6027 16 = v → (∀ i, i < 7 → gi O R' i = gi O 6543 i) → (T3 (gi O 6543 3) ∧ T3 (gi O 6543 6) ∧ T5 (gi O 6543 5)) → EZ O L R' S D W := by
    intro N O v R' hR' f fO e10 e9 e16 eR t3
    have g2 : ∀ a, ¬ (a = 6027 ∨ a = 6671 ∨ a = 6745 ∨ a = 6543) → gi O a = gi N a := fO.2.2.1
    have g : ∀ a, a ≠ 199 → a ≠ 70 → a ≠ 10 → a ≠ U → gi N a = gi M a := f.2.2.1
    have gg : ∀ a, ¬ (a = 6027 ∨ a = 6671 ∨ a = 6745 ∨ a = 6543) → a ≠ 199 → a ≠ 70 → a ≠ 10 → a ≠ U → gi O a = gi M a := fun a n1 n2 n3 n4 n5 => (g2 a n1).trans (g a n2 n3 n4 n5)
    refine ⟨⟨⟨a1, hR', a3⟩, ?_, ?_, eR, fun i hi => ?_, fun b hb => ?_, ⟨x6, x7⟩, fun w hw i hi => ?_⟩, ez2 exx.2 (fun a ha => gg a (by omega) (by omega) (by omega) (by omega) (by omega)) (fun k _ => by rw [gg 6101 (by decide) (by decide) (by decide) (by decide) (by omega)]) (by rw [fO.2.2.2 23 (by decide), g 6027 (by decide) (by decide) (by decide) (by omega)]) (by rw [fO.2.2.2 24 (by decide), g 6027 (by decide) (by decide) (by decide) (by omega)]) (fun k _ => by rw [fO.2.1, f.1]; exact ⟨rfl, rfl⟩) (fun rv => ⟨t3, by rw [gg 6607 (by decide) (by decide) (by decide) (by decide) (by omega)]; exact rv.2⟩)⟩
    · rw [g2 10 (by decide), e9, x1, fO.2.2.2 9 (by decide), g 6027 (by decide) (by decide) (by decide) (by omega)]
    · rw [g2 10 (by decide), e10, e16]
    · rw [gg S (by omega) (by omega) (by omega) (by omega) neSU, gg 6607 (by decide) (by decide) (by decide) (by decide) (by omega)]; exact x4 i hi
    · rw [gg (L + 140) (by omega) (by omega) (by omega) (by omega) (by omega), gg 6157 (by decide) (by decide) (by decide) (by decide) (by omega)]; exact x5 b hb
    · rw [gg (L + 776 + 64 * w) (by omega) (by omega) (by omega) (by omega) (by omega), gg 6101 (by decide) (by decide) (by decide) (by decide) (by omega)]; exact x8 w hw i hi
  have eM : ∀ {N : Mm} {K : Int32 → Mm → Prop}, _ := fun {N} {K} => eM_rule (M := N) (T := T) (t := t) (K := K) (x0 := x0) (v0 := v0) (p0 := p0)
  have eC := eC_rule (T := T) (t := t) (x0 := x0) (v0 := v0) (p0 := p0) (K := fun r N => CI mM_rule [.ref 6027] N (fun s O => Z r s O)) i1.1 tcM
  have kq : okQ (qpS T t 401 (qS0 T t x0 v0 p0) 0).1 := qpS_ok 401 _ 0 okQ0
  generalize qpS T t 401 (qS0 T t x0 v0 p0) 0 = F at eM eC kq
  refine eC (fun N f e nf e10 e9 => ?_) (fun N f e zf e10 e9 vals => ?_)
  · obtain ⟨tp, mN, -, -, q1, q2, q3⟩ := st N f
    exact eM tp q1 q2 q3 (fun O fO e5 o11 _ o16 _ => h _ _ O ⟨L, P, R, S, U, D, W, 0, fin N O R U f (cN0 N f e) fO (by unfold HD; rw [e5]; exact mN.2.2.1) o11, exf N O _ R a2 f fO e10 e9 o16 (fun i hi => by rw [e5, fO.2.2.1 R (by omega), f.2.2.1 R (by omega) (by omega) (by omega) neRU, f.2.2.1 6543 (by decide) (by decide) (by decide) (by omega)]; exact x3 i hi) (by rw [e5, f.2.2.1 6543 (by decide) (by decide) (by decide) (by omega)]; exact rvM.1)⟩ rfl) (fun O _ _ _ z => absurd z nf)
  · obtain ⟨tp, mN, -, -, q1, q2, q3⟩ := st N f
    exact eM tp q1 q2 q3 (fun O _ _ _ nf => absurd zf nf) (fun O fO hO o11 _ o16 ov => h _ _ O ⟨L, P, U, S, R, D, W, 0, fin N O U R f (cN1 N f e) fO hO o11, exf N O _ U hU f fO e10 e9 o16 (fun i hi => by rw [fO.2.2.1 U (by omega), vals i hi, ov i hi]) (by rw [ov 3 (by decide), ov 6 (by decide), ov 5 (by decide)]; exact kq)⟩ rfl)
end EQV3
end MG83
section MG84
/-! ===== words that count, the same on both sides ===== -/
section EQX
variable {M : Mm} {L R W : Nat}
theorem mwd_b : ∀ k, k ≤ 8 → ∀ v, v < 32 → (bt (mwd M L R k) v = true ↔ ∃ d, d < k ∧ bt (gi M R 0) d = true ∧ bt (gi M (L + 460) d) v = true)
  | 0, _, v, _ => by
    rw [mwd, b_0]
    exact ⟨fun h => absurd h (by decide), fun ⟨d, h, _⟩ => absurd h (by omega)⟩
  | k + 1, hk, v, hv => by
    have ih := mwd_b k (by omega) v hv
    rw [mwd]
    by_cases q : bt (gi M R 0) k = true
    · have q1 : ((ushr (gi M R 0) (nI k)) &&& 1) = 1 := (bitu _ (by omega)).mpr q
      rw [if_pos q1, b_or, Bool.or_eq_true, ih]
      constructor
      · rintro (⟨d, h1, h2⟩ | h)
        · exact ⟨d, by omega, h2⟩
        · exact ⟨k, by omega, q, h⟩
      · rintro ⟨d, h1, h2⟩
        by_cases e : d = k
        · subst e; exact Or.inr h2.2
        · exact Or.inl ⟨d, by omega, h2⟩
    · have q1 : ¬ ((ushr (gi M R 0) (nI k)) &&& 1) = 1 := fun z => q ((bitu _ (by omega)).mp z)
      rw [if_neg q1]
      have e0 : bt (mwd M L R k ||| 0) v = bt (mwd M L R k) v := by rw [or_032]
      first | rw [e0, ih] | rw [ih]
      constructor
      · rintro ⟨d, h1, h2⟩; exact ⟨d, by omega, h2⟩
      · rintro ⟨d, h1, h2⟩
        by_cases e : d = k
        · subst e; exact absurd h2.1 q
        · exact ⟨d, by omega, h2⟩
theorem cto_b {b : Int32} : ∀ k, k ≤ 8 → ∀ v, v < 32 → (bt (cto M L R b k) v = true ↔ bt (mwd M L R 8) v = true ∨ ∃ d, d < k ∧ (bt b d = true ∧ ¬ gi M (L + 140) d < gi M R 1) ∧ bt (gi M (L + 524) d) v = true)
  | 0, _, v, _ => by
    rw [cto]
    exact ⟨Or.inl, fun h => h.elim id (fun ⟨d, h, _⟩ => absurd h (by omega))⟩
  | k + 1, hk, v, hv => by
    have ih := cto_b (b := b) k (by omega) v hv
    rw [cto]
    by_cases q : bt b k = true ∧ ¬ gi M (L + 140) k < gi M R 1
    · have q1 : ((ushr b (nI k)) &&& 1) = 1 ∧ ¬ gi M (L + 140) k < gi M R 1 := ⟨(bitu _ (by omega)).mpr q.1, q.2⟩
      rw [if_pos q1, b_or, Bool.or_eq_true, ih]
      constructor
      · rintro ((h | ⟨d, h1, h2⟩) | h)
        · exact Or.inl h
        · exact Or.inr ⟨d, by omega, h2⟩
        · exact Or.inr ⟨k, by omega, q, h⟩
      · rintro (h | ⟨d, h1, h2⟩)
        · exact Or.inl (Or.inl h)
        · by_cases e : d = k
          · subst e; exact Or.inr h2.2
          · exact Or.inl (Or.inr ⟨d, by omega, h2⟩)
    · have q1 : ¬ (((ushr b (nI k)) &&& 1) = 1 ∧ ¬ gi M (L + 140) k < gi M R 1) := fun z => q ⟨(bitu _ (by omega)).mp z.1, z.2⟩
      rw [if_neg q1, ih]
      constructor
      · rintro (h | ⟨d, h1, h2⟩)
        · exact Or.inl h
        · exact Or.inr ⟨d, by omega, h2⟩
      · rintro (h | ⟨d, h1, h2⟩)
        · exact Or.inl h
        · by_cases e : d = k
          · subst e; exact absurd h2.1 q
          · exact Or.inr ⟨d, by omega, h2⟩
theorem cnt_b {S D : Nat} {G : Nat → Nat → Int32} (ex : EX M L R S D W) (ey : EY M L W G) (rk : ∀ w, w < W → ∃ b, b < 8 ∧ wd M w 2 = nI b) {v : Nat} (hv : v < 32) : bt (ctg M L R (gi M 10 9)) v = true ↔ v < W ∧ ¬ cw M v = 0 := by
  obtain ⟨-, x1, x2, x3, x4, x5, ⟨x6, x7⟩, x8⟩ := ex
  obtain ⟨y1, y2, ⟨⟨s1, s2, s3, s4⟩, -⟩, -⟩ := ey
  have nn : ∀ x : Int32, bt (x ^^^ (-1)) v = true ↔ ¬ bt x v = true := fun x => by
    rw [b_not x hv]
    cases bt x v <;> decide
  have m1 : bt (-1) v = true := by
    have : ∀ v, v < 32 → bt (-1) v = true := by decide +kernel
    exact this v hv
  have n2 : bt (if gi M R 2 = 0 then gi M L 11 ^^^ (-1) else -1) v = true ↔ ¬ (gi M R 2 = 0 ∧ bt (gi M L 11) v = true) := by
    by_cases q : gi M R 2 = 0
    · rw [if_pos q, nn]; exact ⟨fun h z => h z.2, fun h z => h ⟨q, z⟩⟩
    · rw [if_neg q, m1]; exact ⟨fun _ z => q z.1, fun _ => rfl⟩
  unfold ctg
  rw [b_and, b_and, Bool.and_eq_true, Bool.and_eq_true, n2, nn, cto_b 8 (Nat.le_refl 8) v hv, mwd_b 8 (Nat.le_refl 8) v hv, s3 v hv, s4 v hv]
  by_cases lv : v < W
  · have wd_ : ∀ k, k < 8 → wd M v k = G v k := fun k hk => y1 v lv k hk
    obtain ⟨⟨t1, t2, -⟩, -⟩ := y2 v lv
    obtain ⟨b, hb, eb⟩ := rk v lv
    have eb' : G v 2 = nI b := by rw [← wd_ 2 (by decide)]; exact eb
    unfold cw
    rw [wd_ 0 (by decide), wd_ 1 (by decide), eb, ← x3 0 (by decide), ← x3 1 (by decide), ← x3 2 (by decide), ← x1, ncl (by omega), ← x5 b hb]
    by_cases k5 : G v 0 = 5
    · rw [if_pos k5]
      exact ⟨fun h => absurd ⟨lv, k5⟩ h.1.2, fun h => absurd rfl h.2⟩
    · rw [if_neg k5]
      obtain ⟨d, hd, ed⟩ := t2 k5
      by_cases k3 : G v 0 = 3 ∧ gi M R 2 = 0
      · rw [if_pos k3]
        exact ⟨fun h => absurd ⟨k3.2, lv, k3.1⟩ h.2, fun h => absurd rfl h.2⟩
      · rw [if_neg k3, ed]
        have c : (((gi M R 0 >>> (nI d &&& 31)) &&& 1) = 1 ∨ (((gi M 10 9 >>> (nI b &&& 31)) &&& 1) = 1 ∧ ¬ gi M (L + 140) b < gi M R 1)) ↔ (bt (gi M R 0) d = true ∨ (bt (gi M 10 9) b = true ∧ ¬ gi M (L + 140) b < gi M R 1)) := by rw [bit1 _ (by omega), bit1 _ (by omega)]
        have rhs : ¬ (if ((gi M R 0 >>> (nI d &&& 31)) &&& 1) = 1 ∨ (((gi M 10 9 >>> (nI b &&& 31)) &&& 1) = 1 ∧ ¬ gi M (L + 140) b < gi M R 1) then (1 : Int32) else 0) = 0 ↔ (bt (gi M R 0) d = true ∨ (bt (gi M 10 9) b = true ∧ ¬ gi M (L + 140) b < gi M R 1)) := by
          rw [← c]
          by_cases z : ((gi M R 0 >>> (nI d &&& 31)) &&& 1) = 1 ∨ (((gi M 10 9 >>> (nI b &&& 31)) &&& 1) = 1 ∧ ¬ gi M (L + 140) b < gi M R 1)
          · rw [if_pos z]; exact ⟨fun _ => z, fun _ => by decide⟩
          · rw [if_neg z]; exact ⟨fun y => absurd rfl y, fun y => absurd y z⟩
        rw [rhs]
        constructor
        · rintro ⟨⟨h, -⟩, -⟩
          refine ⟨lv, ?_⟩
          rcases h with ⟨d', hd', z1, z2⟩ | ⟨b', hb', z1, z2⟩
          · have := ((s1 d' hd' v hv).mp z2).2
            rw [ed, ninj (by omega) (by omega)] at this
            subst this
            exact Or.inl z1
          · have := ((s2 b' hb' v hv).mp z2).2
            rw [eb', ninj (by omega) (by omega)] at this
            subst this
            exact Or.inr z1
        · rintro ⟨-, h⟩
          refine ⟨⟨?_, fun z => k5 z.2⟩, fun z => k3 ⟨z.2.2, z.1⟩⟩
          rcases h with h | h
          · exact Or.inl ⟨d, hd, h, (s1 d hd v hv).mpr ⟨lv, ed⟩⟩
          · exact Or.inr ⟨b, hb, h, (s2 b hb v hv).mpr ⟨lv, eb'⟩⟩
  · constructor
    · rintro ⟨⟨h, -⟩, -⟩
      exfalso
      rcases h with ⟨d', hd', z1, z2⟩ | ⟨b', hb', z1, z2⟩
      · exact lv ((s1 d' hd' v hv).mp z2).1
      · exact lv ((s2 b' hb' v hv).mp z2).1
    · rintro ⟨h, -⟩; exact absurd h lv
end EQX
end MG84
section MG85
/-! ===== two words of one doctor: the reference's walk, and what the class makes of bits ===== -/
/-- of what speaks, the weightiest: who, how weighty, whether there are two of them that differ -/
def TRs (f μ : Nat → Int32) (k : Nat) (s : Int32 × Int32 × Int32) : Prop :=
  ((∀ v, v < k → f v = -4) ∧ s = (-4, -1, 0)) ∨
  ((∀ v, v < k → ¬ f v = -4 → μ v ≤ s.2.1) ∧ (∃ v, v < k ∧ ¬ f v = -4 ∧ μ v = s.2.1 ∧ f v = s.1) ∧ ((s.2.2 = 0 ∧ ∀ v, v < k → ¬ f v = -4 → μ v = s.2.1 → f v = s.1) ∨ (¬ s.2.2 = 0 ∧ ∃ v, v < k ∧ ¬ f v = -4 ∧ μ v = s.2.1 ∧ ¬ f v = s.1)))
def tst (f μ : Nat → Int32) (k : Nat) (s : Int32 × Int32 × Int32) : Int32 × Int32 × Int32 := if f k = -4 ∨ μ k < s.2.1 then s else (f k, μ k, if μ k = s.2.1 ∧ (¬ s.2.2 = 0 ∨ ¬ f k = s.1) then 1 else 0)
theorem trs_s {f μ : Nat → Int32} {k : Nat} {s : Int32 × Int32 × Int32} (hp : ¬ f k = -4 → ¬ μ k < 0) (h : TRs f μ k s) : TRs f μ (k + 1) (tst f μ k s) := by
  unfold tst
  by_cases c : f k = -4 ∨ μ k < s.2.1
  · rw [if_pos c]
    rcases h with ⟨h1, h2⟩ | ⟨h1, ⟨w, w1, w2, w3, w4⟩, h3⟩
    · left
      refine ⟨fun v hv => ?_, h2⟩
      by_cases e : v = k
      · subst e
        rcases c with c | c
        · exact c
        · by_cases z : f v = -4
          · exact z
          · exfalso
            rw [h2, Int32.lt_iff_toInt_lt] at c
            have := hp z
            rw [Int32.lt_iff_toInt_lt] at this
            have e1 : (-1 : Int32).toInt = -1 := by decide
            have e0 : (0 : Int32).toInt = 0 := by decide
            have c' : (μ v).toInt < (-1 : Int32).toInt := c
            omega
      · exact h1 v (by omega)
    · right
      have nk : ∀ v, v < k + 1 → ¬ f v = -4 → v < k ∨ (v = k ∧ μ v < s.2.1) := fun v hv z => by
        by_cases e : v = k
        · subst e
          exact Or.inr ⟨rfl, c.resolve_left z⟩
        · exact Or.inl (by omega)
      refine ⟨fun v hv z => ?_, ⟨w, by omega, w2, w3, w4⟩, ?_⟩
      · rcases nk v hv z with y | y
        · exact h1 v y z
        · exact Int32.le_of_lt y.2
      · rcases h3 with ⟨a, b⟩ | ⟨a, v, b⟩
        · refine Or.inl ⟨a, fun v hv z e => ?_⟩
          rcases nk v hv z with y | y
          · exact b v y z e
          · exfalso
            rw [e] at y
            exact Int32.lt_irrefl y.2
        · exact Or.inr ⟨a, v, by omega, b.2⟩
  · rw [if_neg c]
    have c1 : ¬ f k = -4 := fun z => c (Or.inl z)
    have c2 : ¬ μ k < s.2.1 := fun z => c (Or.inr z)
    right
    rcases h with ⟨h1, h2⟩ | ⟨h1, ⟨w, w1, w2, w3, w4⟩, h3⟩
    · have only : ∀ v, v < k + 1 → ¬ f v = -4 → v = k := fun v hv z => by
        by_cases e : v = k
        · exact e
        · exact absurd (h1 v (by omega)) z
      refine ⟨fun v hv z => ?_, ⟨k, by omega, c1, rfl, rfl⟩, Or.inl ⟨if_neg (fun z => ?_), fun v hv z _ => ?_⟩⟩
      · rw [only v hv z]; exact Int32.le_refl _
      · rw [h2] at z
        have := hp c1
        have z1 : μ k = -1 := z.1
        rw [z1] at this
        exact this (by decide)
      · rw [only v hv z]
    · by_cases e : μ k = s.2.1
      · refine ⟨fun v hv z => ?_, ⟨k, by omega, c1, rfl, rfl⟩, ?_⟩
        · show μ v ≤ μ k
          by_cases q : v = k
          · rw [q]; exact Int32.le_refl _
          · rw [e]; exact h1 v (by omega) z
        · show ((if μ k = s.2.1 ∧ (¬ s.2.2 = 0 ∨ ¬ f k = s.1) then (1 : Int32) else 0) = 0 ∧ ∀ v, v < k + 1 → ¬ f v = -4 → μ v = μ k → f v = f k) ∨ (¬ (if μ k = s.2.1 ∧ (¬ s.2.2 = 0 ∨ ¬ f k = s.1) then (1 : Int32) else 0) = 0 ∧ ∃ v, v < k + 1 ∧ ¬ f v = -4 ∧ μ v = μ k ∧ ¬ f v = f k)
          by_cases z : ¬ s.2.2 = 0 ∨ ¬ f k = s.1
          · right
            rw [if_pos ⟨e, z⟩]
            refine ⟨by decide, ?_⟩
            by_cases y : f k = s.1
            · rcases h3 with ⟨a, b⟩ | ⟨a, v, b1, b2, b3, b4⟩
              · rcases z with z | z
                · exact absurd a z
                · exact absurd y z
              · exact ⟨v, by omega, b2, b3.trans e.symm, fun q => b4 (q.trans y)⟩
            · exact ⟨w, by omega, w2, w3.trans e.symm, fun q => y (q.symm.trans w4)⟩
          · left
            rw [if_neg (fun q => z q.2)]
            have z1 : s.2.2 = 0 := by
              by_cases y : s.2.2 = 0
              · exact y
              · exact absurd (Or.inl y) z
            have z2 : f k = s.1 := by
              by_cases y : f k = s.1
              · exact y
              · exact absurd (Or.inr y) z
            refine ⟨rfl, fun v hv q r => ?_⟩
            by_cases y : v = k
            · rw [y]
            · rcases h3 with ⟨a, b⟩ | ⟨a, -⟩
              · rw [b v (by omega) q (r.trans e), z2]
              · exact absurd z1 a
      · have lt : s.2.1.toInt < (μ k).toInt := by
          rw [Int32.lt_iff_toInt_lt] at c2
          have : ¬ (μ k).toInt = s.2.1.toInt := fun q => e (Int32.toInt_inj.mp q)
          omega
        have old : ∀ v, v < k → ¬ f v = -4 → (μ v).toInt < (μ k).toInt := fun v hv z => by
          have := h1 v hv z
          rw [Int32.le_iff_toInt_le] at this
          omega
        refine ⟨fun v hv z => ?_, ⟨k, by omega, c1, rfl, rfl⟩, Or.inl ⟨if_neg (fun z => e z.1), fun v hv z r => ?_⟩⟩
        · show μ v ≤ μ k
          by_cases q : v = k
          · rw [q]; exact Int32.le_refl _
          · rw [Int32.le_iff_toInt_le]
            have := old v (by omega) z
            omega
        · have r' : μ v = μ k := r
          show f v = f k
          by_cases q : v = k
          · rw [q]
          · have := old v (by omega) z
            rw [r'] at this
            omega
theorem tw_st (M : Mm) (d c : Int32) (i : Nat) : tw M d c (i + 1) = tst (twv M d c) (twt M) i (tw M d c i) := by rw [tw]; rfl
theorem trs_tw {M : Mm} {d c : Int32} : ∀ k, (∀ v, v < k → ¬ twv M d c v = -4 → ¬ twt M v < 0) → TRs (twv M d c) (twt M) k (tw M d c k)
  | 0, _ => Or.inl ⟨fun v hv => absurd hv (by omega), rfl⟩
  | k + 1, h => by rw [tw_st]; exact trs_s (h k (by omega)) (trs_tw k (fun v hv => h v (by omega)))
/-- numbers by their greatest bit -/
theorem bt_tb (x : Int32) (i : Nat) : bt x i = (tN x).testBit i := by unfold bt tN; rw [BitVec.testBit_toNat]
theorem tN_lt_p {x : Int32} {p : Nat} (h : ∀ i, i < 32 → bt x i = true → i < p) : tN x < 2 ^ p := by
  refine Nat.lt_pow_two_of_testBit (tN x) (fun i hi => ?_)
  rw [← bt_tb]
  by_cases l : i < 32
  · cases z : bt x i
    · rfl
    · have := h i l z
      omega
  · unfold bt
    exact BitVec.getLsbD_of_ge _ _ (by omega)
theorem tN_ge_p {x : Int32} {p : Nat} (h : bt x p = true) : 2 ^ p ≤ tN x := Nat.ge_two_pow_of_testBit (by rw [← bt_tb]; exact h)
theorem tI_of {x : Int32} (h : ∀ i, i < 32 → bt x i = true → i < 31) : x.toInt = (tN x : Int) := by
  have := tN_lt_p h
  show x.toBitVec.toInt = _
  rw [BitVec.toInt_eq_toNat_of_lt (by unfold tN at this; omega)]
  rfl
theorem cmp_b {y n : Int32} {p : Nat} (hp : p < 31) (h1 : ∀ i, i < 32 → bt n i = true → i < p) (h2 : bt y p = true) (h3 : ∀ i, i < 32 → bt y i = true → i < 31) : ¬ y ≤ n ∧ n ≤ y := by
  have a := tN_lt_p h1
  have b := tN_ge_p h2
  have e1 := tI_of h3
  have e2 := tI_of (x := n) (fun i hi z => by have := h1 i hi z; omega)
  rw [Int32.le_iff_toInt_le, Int32.le_iff_toInt_le, e1, e2]
  omega
/-- words of weight k, and the found one -/
def owk (M : Mm) (L : Nat) (fw : Int32) (k : Nat) : Int32 := gi M (L + 590) k ||| (if nI k = fw then 16777216 else 0)
theorem hvs_at {M : Mm} {L : Nat} {ws fw : Int32} {q : Nat} (hq : ¬ (ws &&& owk M L fw q) = 0) : ∀ k, q < k → (∀ j, q < j → j < k → (ws &&& owk M L fw j) = 0) → hvs M L ws fw k = ws &&& owk M L fw q
  | 0, h, _ => absurd h (by omega)
  | k + 1, h, h2 => by
    show (if (ws &&& owk M L fw k) = 0 then hvs M L ws fw k else ws &&& owk M L fw k) = _
    by_cases e : q = k
    · subst e
      rw [if_neg hq]
    · rw [if_pos (h2 k (by omega) (by omega))]
      exact hvs_at hq k (by omega) (fun j h3 h4 => h2 j h3 (by omega))
/-- what the class makes of two words is what the walk says -/
theorem stl_tr {A : Mm} {L R K : Nat} {y n fw : Int32} {f μ : Nat → Int32} {β : Nat → Nat} {s : Int32 × Int32 × Int32} (hβ : ∀ v, v < K → β v < 31) (hm : ∀ v w, v < w → w < K → β v < β w) (hf : ∀ v, v < K → f v = 1 ∨ f v = 0 ∨ f v = -4)
    (hy : ∀ x, x < 32 → (bt y x = true ↔ ∃ v, v < K ∧ β v = x ∧ f v = 1)) (hn : ∀ x, x < 32 → (bt n x = true ↔ ∃ v, v < K ∧ β v = x ∧ f v = 0))
    (y0 : ¬ y = 0) (n0 : ¬ n = 0) (r3 : gi A R 3 = 1 ∨ gi A R 3 = 2) (tr : TRs f μ K s)
    (h1 : gi A R 3 = 1 → ∀ v, v < K → μ v = nI v) (h2 : gi A R 3 = 2 → (∀ v, v < K → ¬ f v = -4 → ∃ k, k < 7 ∧ μ v = nI k) ∧ ∀ k, k < 7 → ∀ v, v < K → ¬ f v = -4 → (bt (owk A L fw k) (β v) = true ↔ μ v = nI k)) (hK : K ≤ 25) :
    stl A L R y n fw = if s.2.2 = 0 then s.1 else -4 := by
  have inj : ∀ v w, v < K → w < K → β v = β w → v = w := fun v w hv hw e => by
    by_cases a : v < w
    · have := hm v w a hw; omega
    · by_cases b : w < v
      · have := hm w v b hv; omega
      · omega
  have ny : ∃ v, v < K ∧ f v = 1 := by
    obtain ⟨x, hx, e⟩ := nz_b.mp y0
    obtain ⟨v, hv, -, e⟩ := (hy x hx).mp e
    exact ⟨v, hv, e⟩
  obtain ⟨vy, hvy, ey⟩ := ny
  have t2 := tr.resolve_left (fun z => by have := z.1 vy hvy; rw [ey] at this; exact absurd this (by decide))
  obtain ⟨t1, ⟨w, w1, w2, w3, w4⟩, t3⟩ := t2
  unfold stl
  rw [if_neg (fun z => z.elim y0 n0)]
  rcases r3 with r | r
  · rw [if_pos r]
    have mu := h1 r
    have wmax : ∀ v, v < K → ¬ f v = -4 → v ≤ w := fun v hv z => by
      have := t1 v hv z
      rw [← w3, mu v hv, mu w w1, nle (by omega) (by omega)] at this
      exact this
    have s0 : s.2.2 = 0 := by
      rcases t3 with ⟨a, -⟩ | ⟨-, v, v1, v2, v3, v4⟩
      · exact a
      · exfalso
        rw [← w3, mu v v1, mu w w1, ninj (by omega) (by omega)] at v3
        subst v3
        exact v4 w4
    rw [if_pos s0, ← w4]
    have bl : ∀ (x : Int32) (a : Int32), ¬ a = -4 → (∀ i, i < 32 → (bt x i = true ↔ ∃ v, v < K ∧ β v = i ∧ f v = a)) → ¬ f w = a → ∀ i, i < 32 → bt x i = true → i < β w := fun x a na hx nw i hi z => by
      obtain ⟨v, hv, e, ef⟩ := (hx i hi).mp z
      have le := wmax v hv (by rw [ef]; exact na)
      have ne : v ≠ w := fun q => nw (by rw [← q]; exact ef)
      rw [← e]
      exact hm v w (by omega) w1
    have b31 : ∀ (x : Int32) (a : Int32), (∀ i, i < 32 → (bt x i = true ↔ ∃ v, v < K ∧ β v = i ∧ f v = a)) → ∀ i, i < 32 → bt x i = true → i < 31 := fun x a hx i hi z => by
      obtain ⟨v, hv, e, -⟩ := (hx i hi).mp z
      rw [← e]; exact hβ v hv
    have bw := hβ w w1
    rcases hf w w1 with e | e | e
    · have := cmp_b (y := y) (n := n) (p := β w) bw (bl n 0 (by decide) hn (by rw [e]; decide)) ((hy _ (by omega)).mpr ⟨w, w1, rfl, e⟩) (b31 y 1 hy)
      rw [if_neg this.1, e]
    · have := cmp_b (y := n) (n := y) (p := β w) bw (bl y 1 (by decide) hy (by rw [e]; decide)) ((hn _ (by omega)).mpr ⟨w, w1, rfl, e⟩) (b31 n 0 hn)
      rw [if_pos this.2, e]
    · exact absurd e w2
  · rw [if_neg (by rw [r]; decide), if_pos r]
    obtain ⟨m1, m2⟩ := h2 r
    obtain ⟨q, hq, eq⟩ := m1 w w1 w2
    have bor : ∀ x, x < 32 → (bt (y ||| n) x = true ↔ ∃ v, v < K ∧ β v = x ∧ ¬ f v = -4) := fun x hx => by
      rw [b_or, Bool.or_eq_true, hy x hx, hn x hx]
      constructor
      · rintro (⟨v, a, b, c⟩ | ⟨v, a, b, c⟩)
        · exact ⟨v, a, b, by rw [c]; decide⟩
        · exact ⟨v, a, b, by rw [c]; decide⟩
      · rintro ⟨v, a, b, c⟩
        rcases hf v a with e | e | e
        · exact Or.inl ⟨v, a, b, e⟩
        · exact Or.inr ⟨v, a, b, e⟩
        · exact absurd e c
    have hvy : hvs A L (y ||| n) fw 7 = (y ||| n) &&& owk A L fw q := by
      refine hvs_at ?_ 7 hq (fun j h3 h4 => ?_)
      · refine nz_b.mpr ⟨β w, by have := hβ w w1; omega, ?_⟩
        rw [b_and, Bool.and_eq_true]
        exact ⟨(bor _ (by have := hβ w w1; omega)).mpr ⟨w, w1, rfl, w2⟩, (m2 q hq w w1 w2).mpr eq⟩
      · by_cases z : ((y ||| n) &&& owk A L fw j) = 0
        · exact z
        · exfalso
          obtain ⟨x, hx, e⟩ := nz_b.mp z
          rw [b_and, Bool.and_eq_true] at e
          obtain ⟨v, a, b, c⟩ := (bor x hx).mp e.1
          have e2 := e.2
          rw [← b] at e2
          have mj := (m2 j h4 v a c).mp e2
          have := t1 v a c
          rw [← w3, eq, mj, nle (by omega) (by omega)] at this
          omega
    have pick : ∀ (x a : Int32), ¬ a = -4 → (∀ i, i < 32 → (bt x i = true ↔ ∃ v, v < K ∧ β v = i ∧ f v = a)) → (¬ (x &&& hvs A L (y ||| n) fw 7) = 0 ↔ ∃ v, v < K ∧ f v = a ∧ μ v = s.2.1) := by
      intro x a na hx
      rw [hvy, nz_b]
      constructor
      · rintro ⟨i, hi, e⟩
        rw [b_and, b_and, Bool.and_eq_true, Bool.and_eq_true] at e
        obtain ⟨v, v1, v2, v3⟩ := (hx i hi).mp e.1
        have e2 := e.2.2
        rw [← v2] at e2
        exact ⟨v, v1, v3, by rw [(m2 q hq v v1 (by rw [v3]; exact na)).mp e2, ← w3, eq]⟩
      · rintro ⟨v, v1, v2, v3⟩
        have nf : ¬ f v = -4 := by rw [v2]; exact na
        refine ⟨β v, by have := hβ v v1; omega, ?_⟩
        rw [b_and, b_and, Bool.and_eq_true, Bool.and_eq_true]
        exact ⟨(hx _ (by have := hβ v v1; omega)).mpr ⟨v, v1, rfl, v2⟩, (bor _ (by have := hβ v v1; omega)).mpr ⟨v, v1, rfl, nf⟩, (m2 q hq v v1 nf).mpr (by rw [v3, ← w3, eq])⟩
    have py := pick y 1 (by decide) hy
    have pn := pick n 0 (by decide) hn
    generalize hvs A L (y ||| n) fw 7 = H at py pn
    unfold agr
    rcases t3 with ⟨a, b⟩ | ⟨a, v, v1, v2, v3, v4⟩
    · rw [if_pos a]
      rcases hf w w1 with e | e | e
      · have nz : (n &&& H) = 0 := by
          by_cases z : (n &&& H) = 0
          · exact z
          · obtain ⟨x, x1, x2, x3⟩ := pn.mp z
            have := b x x1 (by rw [x2]; decide) x3
            rw [x2, ← w4, e] at this
            exact absurd this (by decide)
        rw [if_pos nz, if_neg (py.mpr ⟨w, w1, e, w3⟩), ← w4, e]
      · have yz : (y &&& H) = 0 := by
          by_cases z : (y &&& H) = 0
          · exact z
          · obtain ⟨x, x1, x2, x3⟩ := py.mp z
            have := b x x1 (by rw [x2]; decide) x3
            rw [x2, ← w4, e] at this
            exact absurd this (by decide)
        rw [if_neg (pn.mpr ⟨w, w1, e, w3⟩), if_pos yz, ← w4, e]
      · exact absurd e w2
    · rw [if_neg a]
      have both : (∃ x, x < K ∧ f x = 1 ∧ μ x = s.2.1) ∧ ∃ x, x < K ∧ f x = 0 ∧ μ x = s.2.1 := by
        rcases hf w w1 with e | e | e
        · rcases hf v v1 with e' | e' | e'
          · exact absurd (e'.trans (e.symm.trans w4)) v4
          · exact ⟨⟨w, w1, e, w3⟩, v, v1, e', v3⟩
          · exact absurd e' v2
        · rcases hf v v1 with e' | e' | e'
          · exact ⟨⟨v, v1, e', v3⟩, w, w1, e, w3⟩
          · exact absurd (e'.trans (e.symm.trans w4)) v4
          · exact absurd e' v2
        · exact absurd e w2
      rw [if_neg (pn.mpr both.2), if_neg (py.mpr both.1)]
end MG85
section MG86
/-! ===== weighing: the class's and the reference's ===== -/
/-- the class's memory A, with some words counting, and the reference's memory N are about the same -/
def CMP (A N : Mm) (L R W : Nat) (G : Nat → Nat → Int32) : Prop :=
  (∀ v, v < 32 → (bt (gi A 5192 2) v = true ↔ v < W ∧ ¬ cw N v = 0)) ∧
  (∀ d, d < 8 → ∀ v, v < 32 → (bt (gi A (L + 460) d) v = true ↔ v < W ∧ G v 1 = nI d)) ∧
  CY A L (said G W).2.1 (said G W).2.2 ∧ RYZ N W (said G W).2.1 (said G W).2.2 ∧ (∀ w, w < W → ∀ i, i < 8 → wd N w i = G w i) ∧ WL A L G W ∧ gi N 6027 24 = unsd G W ∧
  (∀ i, i < 7 → gi A R i = gi N 6543 i) ∧ (T3 (gi N 6543 3) ∧ T3 (gi N 6543 6) ∧ T5 (gi N 6543 5)) ∧ JW N W ∧ (∀ w, w < W → RS6 G W w) ∧ ∀ w, w < W → RT (G w)
section EU2
variable {A N : Mm} {L R W : Nat} {G : Nat → Nat → Int32}
/-- what a word of the reference says -/
theorem td_v {Y Z : Nat → Nat → Bool} {v c : Nat} (hc : c < 64) (b1 : lb (gl N 6874 v) c = Y v c) (b2 : lb (gl N 6938 v) c = Z v c) : td (gl N 6874 v) (gl N 6938 v) (nI c) = vl2 (Y v c) (Z v c) := by
  unfold td vl2
  by_cases p : Y v c = true
  · rw [if_pos p, if_pos ((lbit _ hc).mpr (b1.trans p))]
  · rw [if_neg p, if_neg (fun z => p (b1.symm.trans ((lbit _ hc).mp z)))]
    by_cases q : Z v c = true
    · rw [if_pos q, if_pos ((lbit _ hc).mpr (b2.trans q))]
    · rw [if_neg q, if_neg (fun z => q (b2.symm.trans ((lbit _ hc).mp z)))]
theorem twv_c (N : Mm) (d c : Int32) (v : Nat) : twv N d c v = 1 ∨ twv N d c v = 0 ∨ twv N d c v = -4 := by
  unfold twv
  by_cases q : wd N v 1 = d ∧ ¬ cw N v = 0
  · rw [if_pos q]
    unfold td
    split
    · exact Or.inl rfl
    · split
      · exact Or.inr (Or.inl rfl)
      · exact Or.inr (Or.inr rfl)
  · rw [if_neg q]; exact Or.inr (Or.inr rfl)
/-- a doctor's words for yes and for no -/
theorem his_b (m : CMP A N L R W G) (hW : W ≤ 24) {d c : Nat} (hd : d < 8) (hc : c < 64) : (∀ x, x < 32 → (bt (his A L d &&& gi A (L + 205) c) x = true ↔ x < W ∧ twv N (nI d) (nI c) x = 1)) ∧ ∀ x, x < 32 → (bt (his A L d &&& gi A (L + 269) c) x = true ↔ x < W ∧ twv N (nI d) (nI c) x = 0) := by
  obtain ⟨m1, m2, cy, ry, rows, -⟩ := m
  have key : ∀ x, x < 32 → (bt (his A L d) x = true ↔ x < W ∧ (wd N x 1 = nI d ∧ ¬ cw N x = 0)) := fun x hx => by
    unfold his
    rw [b_and, Bool.and_eq_true, m2 d hd x hx, m1 x hx]
    constructor
    · rintro ⟨⟨a, b⟩, -, e⟩
      exact ⟨a, by rw [rows x a 1 (by decide)]; exact b, e⟩
    · rintro ⟨a, b, e⟩
      exact ⟨⟨a, by rw [← rows x a 1 (by decide)]; exact b⟩, a, e⟩
  have xx := said_x G hW
  refine ⟨fun x hx => ?_, fun x hx => ?_⟩
  · rw [b_and, Bool.and_eq_true, key x hx, (cy c hc x hx).1]
    unfold twv
    constructor
    · rintro ⟨⟨a, b⟩, e⟩
      obtain ⟨r1, r2⟩ := ry x a c hc
      rw [if_pos b, td_v hc r1 r2, e]
      exact ⟨a, rfl⟩
    · rintro ⟨a, b⟩
      obtain ⟨r1, r2⟩ := ry x a c hc
      by_cases q : wd N x 1 = nI d ∧ ¬ cw N x = 0
      · rw [if_pos q, td_v hc r1 r2] at b
        exact ⟨⟨a, q⟩, (fsv _ _ (xx x c)).1.mp b⟩
      · rw [if_neg q] at b; exact absurd b (by decide)
  · rw [b_and, Bool.and_eq_true, key x hx, (cy c hc x hx).2]
    unfold twv
    constructor
    · rintro ⟨⟨a, b⟩, e⟩
      obtain ⟨r1, r2⟩ := ry x a c hc
      rw [if_pos b, td_v hc r1 r2]
      exact ⟨a, (fsv _ _ (xx x c)).2.1.mpr e⟩
    · rintro ⟨a, b⟩
      obtain ⟨r1, r2⟩ := ry x a c hc
      by_cases q : wd N x 1 = nI d ∧ ¬ cw N x = 0
      · rw [if_pos q, td_v hc r1 r2] at b
        exact ⟨⟨a, q⟩, (fsv _ _ (xx x c)).2.1.mp b⟩
      · rw [if_neg q] at b; exact absurd b (by decide)
/-- the reference's union of a doctor's words -/
theorem fyn_b (m : CMP A N L R W G) (hW : W ≤ 24) {d c : Nat} (hc : c < 64) : ∀ k, k ≤ W → (lb (fyn N (nI d) k).1 c = true ↔ ∃ v, v < k ∧ twv N (nI d) (nI c) v = 1) ∧ (lb (fyn N (nI d) k).2 c = true ↔ ∃ v, v < k ∧ twv N (nI d) (nI c) v = 0)
  | 0, _ => by
    rw [fyn]
    exact ⟨⟨fun z => absurd ((l_0 c).symm.trans z) (by decide), fun ⟨v, h, _⟩ => absurd h (by omega)⟩, ⟨fun z => absurd ((l_0 c).symm.trans z) (by decide), fun ⟨v, h, _⟩ => absurd h (by omega)⟩⟩
  | k + 1, hk => by
    obtain ⟨i1, i2⟩ := fyn_b m hW (d := d) hc k (by omega)
    obtain ⟨m1, m2, cy, ry, rows, -⟩ := m
    obtain ⟨r1, r2⟩ := ry k (by omega) c hc
    have xx := said_x G hW k c
    rw [fyn]
    by_cases q : wd N k 1 = nI d ∧ ¬ cw N k = 0
    · have e : twv N (nI d) (nI c) k = vl2 ((said G W).2.1 k c) ((said G W).2.2 k c) := by unfold twv; rw [if_pos q, td_v hc r1 r2]
      obtain ⟨f1, f2, -⟩ := fsv _ _ xx
      rw [if_pos q]
      refine ⟨?_, ?_⟩
      · show lb ((fyn N (nI d) k).1 ||| gl N 6874 k) c = true ↔ _
        rw [l_or, Bool.or_eq_true, i1, r1]
        constructor
        · rintro (⟨v, a, b⟩ | z)
          · exact ⟨v, by omega, b⟩
          · exact ⟨k, by omega, by rw [e]; exact f1.mpr z⟩
        · rintro ⟨v, a, b⟩
          by_cases ev : v = k
          · subst ev
            rw [e] at b
            exact Or.inr (f1.mp b)
          · exact Or.inl ⟨v, by omega, b⟩
      · show lb ((fyn N (nI d) k).2 ||| gl N 6938 k) c = true ↔ _
        rw [l_or, Bool.or_eq_true, i2, r2]
        constructor
        · rintro (⟨v, a, b⟩ | z)
          · exact ⟨v, by omega, b⟩
          · exact ⟨k, by omega, by rw [e]; exact f2.mpr z⟩
        · rintro ⟨v, a, b⟩
          by_cases ev : v = k
          · subst ev
            rw [e] at b
            exact Or.inr (f2.mp b)
          · exact Or.inl ⟨v, by omega, b⟩
    · have e : twv N (nI d) (nI c) k = -4 := by unfold twv; rw [if_neg q]
      rw [if_neg q, i1, i2]
      have st : ∀ x : Int32, ¬ x = -4 → ((∃ v, v < k ∧ twv N (nI d) (nI c) v = x) ↔ ∃ v, v < k + 1 ∧ twv N (nI d) (nI c) v = x) := fun x nx => by
        constructor
        · rintro ⟨v, a, b⟩; exact ⟨v, by omega, b⟩
        · rintro ⟨v, a, b⟩
          by_cases ev : v = k
          · subst ev
            exact absurd (b.symm.trans e) nx
          · exact ⟨v, by omega, b⟩
      exact ⟨st 1 (by decide), st 0 (by decide)⟩
theorem l_not (x : Int64) {c : Nat} (hc : c < 64) : lb (x ^^^ (-1)) c = !lb x c := by
  have e : lb (-1) c = true := by
    have : ∀ v, v < 64 → lb (-1) v = true := by decide +kernel
    exact this c hc
  have : lb (x ^^^ (-1)) c = (lb x c ^^ lb (-1) c) := by unfold lb; rw [Int64.toBitVec_xor, BitVec.getLsbD_xor]
  rw [this, e, Bool.xor_true]
theorem l_orp (x : Int64) {p : Prop} [Decidable p] {i c : Nat} (hi : i < 64) (hc : c < 64) : lb (x ||| (if p then ((1 : Int64) <<< ((nI i).toInt64 &&& 63)) else 0)) c = true ↔ lb x c = true ∨ (p ∧ c = i) := by
  rw [l_or, Bool.or_eq_true]
  by_cases q : p
  · rw [if_pos q, l_one i hi c hc, decide_eq_true_eq]
    exact ⟨fun h => h.imp id (fun e => ⟨q, e⟩), fun h => h.imp id (fun e => e.2)⟩
  · rw [if_neg q, l_0]
    exact ⟨fun h => h.imp id (fun e => absurd e (by decide)), fun h => h.imp id (fun e => absurd e.1 q)⟩
theorem clv_b {d : Int32} {c : Nat} : lb (clv N W d) c = true ↔ lb (fyn N d W).1 c = true ∧ lb (fyn N d W).2 c = true := by unfold clv; rw [l_and, Bool.and_eq_true]
theorem eyv_b {d : Int32} {c : Nat} (hc : c < 64) : ∀ k, k ≤ 64 → (lb (eyv N W d k) c = true ↔ (lb (fyn N d W).1 c = true ∧ lb (fyn N d W).2 c = false) ∨ (c < k ∧ lb (clv N W d) c = true ∧ o2 N W d (nI c) = 1)) ∧ (lb (enw N W d k) c = true ↔ (lb (fyn N d W).2 c = true ∧ lb (fyn N d W).1 c = false) ∨ (c < k ∧ lb (clv N W d) c = true ∧ o2 N W d (nI c) = 0))
  | 0, _ => by
    rw [eyv, enw, l_and, l_and, l_not _ hc, l_not _ hc, Bool.and_eq_true, Bool.and_eq_true, Bool.not_eq_true', Bool.not_eq_true']
    exact ⟨⟨Or.inl, fun h => h.elim id (fun z => absurd z.1 (by omega))⟩, ⟨Or.inl, fun h => h.elim id (fun z => absurd z.1 (by omega))⟩⟩
  | k + 1, hk => by
    obtain ⟨i1, i2⟩ := eyv_b (d := d) hc k (by omega)
    rw [eyv, enw]
    have ext : ∀ (p q : Prop), ((p ∨ (c < k ∧ q)) ∨ (q ∧ c = k)) ↔ (p ∨ (c < k + 1 ∧ q)) := fun p q => by
      constructor
      · rintro ((z | z) | z)
        · exact Or.inl z
        · exact Or.inr ⟨by omega, z.2⟩
        · exact Or.inr ⟨by omega, z.1⟩
      · rintro (z | z)
        · exact Or.inl (Or.inl z)
        · by_cases e : c = k
          · exact Or.inr ⟨z.2, e⟩
          · exact Or.inl (Or.inr ⟨by omega, z.2⟩)
    by_cases q : ((clv N W d >>> ((nI k).toInt64 &&& 63)) &&& 1) = 1
    · rw [if_pos q, if_pos q, l_orp _ (by omega) hc, l_orp _ (by omega) hc, i1, i2]
      have cl : c = k → lb (clv N W d) c = true := fun e => by rw [e]; exact (lbit _ (by omega)).mp q
      refine ⟨?_, ?_⟩
      · rw [← ext]
        exact ⟨fun z => z.imp id (fun z => ⟨⟨cl z.2, by rw [z.2]; exact z.1⟩, z.2⟩), fun z => z.imp id (fun z => ⟨by rw [← z.2]; exact z.1.2, z.2⟩)⟩
      · rw [← ext]
        exact ⟨fun z => z.imp id (fun z => ⟨⟨cl z.2, by rw [z.2]; exact z.1⟩, z.2⟩), fun z => z.imp id (fun z => ⟨by rw [← z.2]; exact z.1.2, z.2⟩)⟩
    · rw [if_neg q, if_neg q, i1, i2]
      have nc : c = k → ¬ lb (clv N W d) c = true := fun e z => q (by rw [e] at z; exact (lbit _ (by omega)).mpr z)
      have st : ∀ (p : Prop) (x : Int32), (p ∨ (c < k ∧ lb (clv N W d) c = true ∧ o2 N W d (nI c) = x)) ↔ (p ∨ (c < k + 1 ∧ lb (clv N W d) c = true ∧ o2 N W d (nI c) = x)) := fun p x => by
        constructor
        · rintro (z | z)
          · exact Or.inl z
          · exact Or.inr ⟨by omega, z.2⟩
        · rintro (z | z)
          · exact Or.inl z
          · by_cases e : c = k
            · exact absurd z.2.1 (nc e)
            · exact Or.inr ⟨by omega, z.2⟩
      exact ⟨st _ 1, st _ 0⟩
/-- an opinion, the same on both sides -/
theorem wt_e (m : CMP A N L R W G) {v : Nat} (hv : v < W) (hW : W ≤ 24) (hs : bt (unsd G W) v = false) : wt N v = wgv G v := by
  obtain ⟨-, -, -, -, rows, -, hu, -, -, -, rs, -⟩ := m
  have nu : ¬ uns N v := fun z => by
    unfold uns at z
    rw [bit1 _ (by omega), hu, hs] at z
    exact absurd z (by decide)
  have r6 : ∀ w, w < W → G w 6 = -4 ∨ ∃ f, f < W ∧ G w 6 = nI f := fun w hw => by
    rcases (rs w hw).1 with z | ⟨-, f, hf, -, e⟩
    · exact Or.inl z.2
    · exact Or.inr ⟨f, hf, e⟩
  obtain ⟨e1, e2⟩ := eng_cg (g := G) (g' := wd N) hW (fun w hw => (rows w hw 6 (by decide)).symm) r6 25 v hv
  unfold wt wgv
  rw [if_neg nu, eng_e, ← e1, rows _ e2 3 (by decide), rows _ e2 4 (by decide)]
/-- who speaks is sound -/
theorem sp_sound {g : Nat → Nat → Int32} {u : Int32} {D v : Nat} (hD : D ≤ 32) (hv : v < 32) (hu : bt u v = true) : ∀ n, bt (spR g u sq0 D n).1 v = false
  | 0 => by show bt 0 v = false; exact b_0 v
  | n + 1 => by
    have ih := sp_sound (g := g) (u := u) (D := D) hD hv hu n
    rw [spR]
    generalize spR g u sq0 D n = q at ih
    have key : ∀ w, w ≤ D → bt (spr g u q w).1 v = false := by
      intro w
      induction w with
      | zero => intro _; exact ih
      | succ w ihw =>
        intro hw
        have i := ihw (by omega)
        rw [spr]
        generalize spr g u q w = p at i
        unfold sp1
        by_cases c : bt p.1 w = false ∧ bt u w = false ∧ (fowg g w &&& (p.1 ^^^ (-1))) = 0
        · rw [if_pos c]
          show bt (p.1 ||| ((1 : Int32) <<< (nI w &&& 31))) v = false
          cases z : bt (p.1 ||| ((1 : Int32) <<< (nI w &&& 31))) v
          · rfl
          · rcases (bt_or1 _ (by omega) hv).mp z with y | y
            · rw [i] at y; exact absurd y (by decide)
            · subst y
              rw [hu] at c
              exact absurd c.2.1 (by decide)
        · rw [if_neg c]; exact i
    exact key D (Nat.le_refl D)
theorem said_sound {v c : Nat} (hW : W ≤ 24) (hv : v < W) (h : (said G W).2.1 v c = true ∨ (said G W).2.2 v c = true) : bt (unsd G W) v = false := by
  cases z : bt (unsd G W) v
  · rfl
  · exfalso
    have q := sp_sound (g := G) (D := W) (by omega) (show v < 32 by omega) z W
    have := (si_spR (g := G) (u := unsd G W) (W := W) (by omega) si_0 W).1 v c (fun y => by rw [q] at y; exact absurd y.2 (by decide))
    have e1 : (said G W).2.1 v c = false := this.1
    have e2 : (said G W).2.2 v c = false := this.2
    rw [e1, e2] at h
    rcases h with h | h <;> exact absurd h (by decide)
theorem twv_s (m : CMP A N L R W G) (hW : W ≤ 24) {d c v : Nat} (hc : c < 64) (hv : v < W) (h : ¬ twv N (nI d) (nI c) v = -4) : bt (unsd G W) v = false := by
  obtain ⟨-, -, -, ry, -⟩ := m
  obtain ⟨r1, r2⟩ := ry v hv c hc
  unfold twv at h
  by_cases q : wd N v 1 = nI d ∧ ¬ cw N v = 0
  · rw [if_pos q, td_v hc r1 r2] at h
    refine said_sound (c := c) hW hv ?_
    revert h
    cases (said G W).2.1 v c <;> cases (said G W).2.2 v c <;> decide
  · rw [if_neg q] at h; exact absurd rfl h
theorem wgv_k (m : CMP A N L R W G) {v : Nat} (hv : v < W) (hs : bt (unsd G W) v = false) : ∃ k, k < 7 ∧ wgv G v = nI k := ((m.2.2.2.2.2.1.2.2.2 v hv).2 hs).1
end EU2
end MG86
section MG87
/-! ===== opinions, laws, what holds: the same on both sides ===== -/
section EU3
variable {A N : Mm} {L R W : Nat} {G : Nat → Nat → Int32}
/-- what becomes of words of one doctor, on both sides -/
theorem two_e (m : CMP A N L R W G) (hW : W ≤ 24) {d c : Nat} (hd : d < 8) (hc : c < 64) (y0 : ¬ (his A L d &&& gi A (L + 205) c) = 0) (n0' : ¬ (his A L d &&& gi A (L + 269) c) = 0) : stl A L R (his A L d &&& gi A (L + 205) c) (his A L d &&& gi A (L + 269) c) 0 = o2 N W (nI d) (nI c) := by
  obtain ⟨hy, hn⟩ := his_b m hW hd hc
  have e3 : gi A R 3 = gi N 6543 3 := m.2.2.2.2.2.2.2.1 3 (by decide)
  have t3 := m.2.2.2.2.2.2.2.2.1.1
  have ws := m.2.2.2.2.2.1.2.1
  unfold o2
  rcases t3 with r | r | r
  · have z : gi N 6543 3 ≤ 0 := by rw [r]; exact Int32.le_refl _
    rw [if_pos z]
    unfold stl
    rw [if_neg (fun z => z.elim y0 n0'), e3, r, if_neg (by decide), if_neg (by decide)]
  · have nz : ¬ gi N 6543 3 ≤ 0 := by rw [r]; decide
    rw [if_neg nz]
    have mu : ∀ v, twt N v = nI v := fun v => by unfold twt; rw [if_pos r]
    refine stl_tr (K := W) (f := twv N (nI d) (nI c)) (μ := twt N) (β := fun v => v) (fun v hv => by omega) (fun v w h _ => h) (fun v _ => twv_c N _ _ v) (fun x hx => ?_) (fun x hx => ?_) y0 n0' (Or.inl (by rw [e3]; exact r)) (trs_tw W (fun v hv _ => ?_)) (fun _ v _ => mu v) (fun q => ?_) (by omega)
    · rw [hy x hx]
      exact ⟨fun z => ⟨x, z.1, rfl, z.2⟩, fun ⟨v, a, b, e⟩ => by subst b; exact ⟨a, e⟩⟩
    · rw [hn x hx]
      exact ⟨fun z => ⟨x, z.1, rfl, z.2⟩, fun ⟨v, a, b, e⟩ => by subst b; exact ⟨a, e⟩⟩
    · rw [mu]; exact n0 v (by omega)
    · exfalso
      rw [e3, r] at q
      exact absurd q (by decide)
  · have nz : ¬ gi N 6543 3 ≤ 0 := by rw [r]; decide
    rw [if_neg nz]
    have mu : ∀ v, v < W → ¬ twv N (nI d) (nI c) v = -4 → twt N v = wgv G v := fun v hv z => by
      unfold twt
      rw [if_neg (by rw [r]; decide)]
      exact wt_e m hv hW (twv_s m hW hc hv z)
    have wk : ∀ v, v < W → ¬ twv N (nI d) (nI c) v = -4 → ∃ k, k < 7 ∧ twt N v = nI k := fun v hv z => by
      rw [mu v hv z]; exact wgv_k m hv (twv_s m hW hc hv z)
    refine stl_tr (K := W) (f := twv N (nI d) (nI c)) (μ := twt N) (β := fun v => v) (fun v hv => by omega) (fun v w h _ => h) (fun v _ => twv_c N _ _ v) (fun x hx => ?_) (fun x hx => ?_) y0 n0' (Or.inr (by rw [e3]; exact r)) (trs_tw W (fun v hv z => ?_)) (fun q => ?_) (fun _ => ⟨wk, fun k hk v hv z => ?_⟩) (by omega)
    · rw [hy x hx]
      exact ⟨fun z => ⟨x, z.1, rfl, z.2⟩, fun ⟨v, a, b, e⟩ => by subst b; exact ⟨a, e⟩⟩
    · rw [hn x hx]
      exact ⟨fun z => ⟨x, z.1, rfl, z.2⟩, fun ⟨v, a, b, e⟩ => by subst b; exact ⟨a, e⟩⟩
    · obtain ⟨k, hk, e⟩ := wk v hv z
      rw [e]; exact n0 k (by omega)
    · exfalso
      rw [e3, r] at q
      exact absurd q (by decide)
    · show bt (owk A L 0 k) v = true ↔ twt N v = nI k
      rw [mu v hv z, ← (ws k hk v (by omega)).2 hv (twv_s m hW hc hv z)]
      unfold owk
      rw [b_or, Bool.or_eq_true]
      refine ⟨fun q => q.elim id (fun q => ?_), Or.inl⟩
      exfalso
      have b24 : ∀ v, v < 24 → bt 16777216 v = false := by decide +kernel
      by_cases z : nI k = 0
      · rw [if_pos z, b24 v (by omega)] at q; exact absurd q (by decide)
      · rw [if_neg z, b_0] at q; exact absurd q (by decide)
theorem opn_e (m : CMP A N L R W G) (hW : W ≤ 24) {d c : Nat} (hd : d < 8) (hc : c < 64) : opn A L R d c = td (eyv N W (nI d) 64) (enw N W (nI d) 64) (nI c) ∧ ¬ (lb (eyv N W (nI d) 64) c = true ∧ lb (enw N W (nI d) 64) c = true) := by
  obtain ⟨hy, hn⟩ := his_b m hW hd hc
  obtain ⟨f1, f2⟩ := fyn_b m hW (d := d) hc W (Nat.le_refl W)
  obtain ⟨b1, b2⟩ := eyv_b (N := N) (W := W) (d := nI d) hc 64 (Nat.le_refl 64)
  have ny : ¬ (his A L d &&& gi A (L + 205) c) = 0 ↔ lb (fyn N (nI d) W).1 c = true := by
    rw [nz_b, f1]
    constructor
    · rintro ⟨v, hv, e⟩; exact ⟨v, (hy v hv).mp e⟩
    · rintro ⟨v, a, b⟩; exact ⟨v, by omega, (hy v (by omega)).mpr ⟨a, b⟩⟩
  have nn : ¬ (his A L d &&& gi A (L + 269) c) = 0 ↔ lb (fyn N (nI d) W).2 c = true := by
    rw [nz_b, f2]
    constructor
    · rintro ⟨v, hv, e⟩; exact ⟨v, (hn v hv).mp e⟩
    · rintro ⟨v, a, b⟩; exact ⟨v, by omega, (hn v (by omega)).mpr ⟨a, b⟩⟩
  have twe := two_e m hW hd hc
  rw [clv_b] at b1 b2
  have tdd : ∀ y z : Int64, td y z (nI c) = vl2 (lb y c) (lb z c) := fun y z => by
    unfold td vl2
    by_cases p : lb y c = true
    · rw [if_pos p, if_pos ((lbit _ hc).mpr p)]
    · rw [if_neg p, if_neg (fun z => p ((lbit _ hc).mp z))]
      by_cases q : lb z c = true
      · rw [if_pos q, if_pos ((lbit _ hc).mpr q)]
      · rw [if_neg q, if_neg (fun z => q ((lbit _ hc).mp z))]
  rw [tdd]
  unfold opn
  generalize his A L d &&& gi A (L + 205) c = y at ny twe
  generalize his A L d &&& gi A (L + 269) c = n at nn twe
  generalize lb (fyn N (nI d) W).1 c = p at *
  generalize lb (fyn N (nI d) W).2 c = q at *
  have bf : ∀ {b : Bool}, ¬ b = true → b = false := fun h => by simpa using h
  cases ep : p
  · have y0 : y = 0 := by
      by_cases z : y = 0
      · exact z
      · have := ny.mp z; rw [ep] at this; exact absurd this (by decide)
    have e1 : lb (eyv N W (nI d) 64) c = false := bf (fun z => by
      rcases b1.mp z with w | w
      · rw [ep] at w; exact absurd w.1 (by decide)
      · rw [ep] at w; exact absurd w.2.1.1 (by decide))
    refine ⟨?_, fun z => by rw [e1] at z; exact absurd z.1 (by decide)⟩
    unfold stl
    rw [if_pos (Or.inl y0), e1]
    unfold agr
    rw [if_pos y0, if_pos y0]
    cases eq : q
    · have n0' : n = 0 := by
        by_cases z : n = 0
        · exact z
        · have := nn.mp z; rw [eq] at this; exact absurd this (by decide)
      have e2 : lb (enw N W (nI d) 64) c = false := bf (fun z => by
        rcases b2.mp z with w | w
        · rw [eq] at w; exact absurd w.1 (by decide)
        · rw [eq] at w; exact absurd w.2.1.2 (by decide))
      rw [if_pos n0', e2]; rfl
    · have n1 : ¬ n = 0 := nn.mpr eq
      have e2 : lb (enw N W (nI d) 64) c = true := b2.mpr (Or.inl ⟨eq, ep⟩)
      rw [if_neg n1, e2]; rfl
  · have y1 : ¬ y = 0 := ny.mpr ep
    cases eq : q
    · have n0' : n = 0 := by
        by_cases z : n = 0
        · exact z
        · have := nn.mp z; rw [eq] at this; exact absurd this (by decide)
      have e1 : lb (eyv N W (nI d) 64) c = true := b1.mpr (Or.inl ⟨ep, eq⟩)
      have e2 : lb (enw N W (nI d) 64) c = false := bf (fun z => by
        rcases b2.mp z with w | w
        · rw [eq] at w; exact absurd w.1 (by decide)
        · rw [eq] at w; exact absurd w.2.1.2 (by decide))
      refine ⟨?_, fun z => by rw [e2] at z; exact absurd z.2 (by decide)⟩
      unfold stl
      rw [if_pos (Or.inr n0'), e1]
      unfold agr
      rw [if_pos n0', if_neg y1]; rfl
    · have n1 : ¬ n = 0 := nn.mpr eq
      rw [twe y1 n1]
      have k1 : lb (eyv N W (nI d) 64) c = true ↔ o2 N W (nI d) (nI c) = 1 := by
        rw [b1, ep, eq]
        exact ⟨fun z => z.elim (fun z => absurd z.2 (by decide)) (fun z => z.2.2), fun z => Or.inr ⟨hc, ⟨rfl, rfl⟩, z⟩⟩
      have k2 : lb (enw N W (nI d) 64) c = true ↔ o2 N W (nI d) (nI c) = 0 := by
        rw [b2, ep, eq]
        exact ⟨fun z => z.elim (fun z => absurd z.2 (by decide)) (fun z => z.2.2), fun z => Or.inr ⟨hc, ⟨rfl, rfl⟩, z⟩⟩
      have oc : o2 N W (nI d) (nI c) = 1 ∨ o2 N W (nI d) (nI c) = 0 ∨ o2 N W (nI d) (nI c) = -4 := by
        unfold o2
        have key : ∀ k, (tw N (nI d) (nI c) k).1 = 1 ∨ (tw N (nI d) (nI c) k).1 = 0 ∨ (tw N (nI d) (nI c) k).1 = -4 := by
          intro k
          induction k with
          | zero => exact Or.inr (Or.inr rfl)
          | succ k ih =>
            rw [tw_st]
            unfold tst
            split
            · exact ih
            · exact twv_c N _ _ k
        split
        · exact Or.inr (Or.inr rfl)
        · split
          · exact key W
          · exact Or.inr (Or.inr rfl)
      refine ⟨?_, fun z => ?_⟩
      · unfold vl2
        rcases oc with e | e | e
        · rw [if_pos (k1.mpr e), e]
        · rw [if_neg (fun z => by rw [k1.mp z] at e; exact absurd e (by decide)), if_pos (k2.mpr e), e]
        · rw [if_neg (fun z => by rw [k1.mp z] at e; exact absurd e (by decide)), if_neg (fun z => by rw [k2.mp z] at e; exact absurd e (by decide)), e]
      · have a := k1.mp z.1
        have b := k2.mp z.2
        rw [a] at b
        exact absurd b (by decide)
/-- the law of a case, on both sides -/
theorem law_e (m : CMP A N L R W G) {c : Nat} (hc : c < 64) : lwI A L R c = laV N W (nI c) := by
  obtain ⟨-, -, -, ry, rows, wl, -, e7, ⟨-, t6, -⟩, -⟩ := m
  have e6 : gi A R 6 = gi N 6543 6 := e7 6 (by decide)
  have lv : ∀ i, i < W → lav N (nI c) i = lsv G (said G W).2.1 (said G W).2.2 c i := fun i hi => by
    obtain ⟨r1, r2⟩ := ry i hi c hc
    unfold lav lsv
    rw [rows i hi 0 (by decide), td_v hc r1 r2]
  have key : ∀ lt : Bool, (gi N 6543 6 = 1 ↔ lt = true) → ∀ i, i ≤ W → laS N (nI c) i = lsS G (said G W).2.1 (said G W).2.2 lt c i := by
    intro lt hl i
    induction i with
    | zero => intro _; rfl
    | succ i ih =>
      intro hi
      have ih' := ih (by omega)
      have r7 := rows i (by omega) 7 (by decide)
      have lab' : lab N i (laS N (nI c) i) ↔ lsb G lt i (lsS G (said G W).2.1 (said G W).2.2 lt c i) := by
        unfold lab lsb
        rw [ih', r7, hl]
      rw [laS, lsS, lv i (by omega)]
      by_cases a : lsv G (said G W).2.1 (said G W).2.2 c i = -4 ∨ (¬ lsb G lt i (lsS G (said G W).2.1 (said G W).2.2 lt c i) ∧ ¬ G i 7 = (lsS G (said G W).2.1 (said G W).2.2 lt c i).2.1)
      · have a' : lsv G (said G W).2.1 (said G W).2.2 c i = -4 ∨ (¬ lab N i (laS N (nI c) i) ∧ ¬ wd N i 7 = (laS N (nI c) i).2.1) := by rw [lab', ih', r7]; exact a
        rw [if_pos a, if_pos a', ih']
      · have a' : ¬ (lsv G (said G W).2.1 (said G W).2.2 c i = -4 ∨ (¬ lab N i (laS N (nI c) i) ∧ ¬ wd N i 7 = (laS N (nI c) i).2.1)) := by rw [lab', ih', r7]; exact a
        rw [if_neg a, if_neg a']
        by_cases b : lsb G lt i (lsS G (said G W).2.1 (said G W).2.2 lt c i) ∨ ((lsS G (said G W).2.1 (said G W).2.2 lt c i).2.2 = 0 ∧ lsv G (said G W).2.1 (said G W).2.2 c i = (lsS G (said G W).2.1 (said G W).2.2 lt c i).1)
        · have b' : lab N i (laS N (nI c) i) ∨ ((laS N (nI c) i).2.2 = 0 ∧ lsv G (said G W).2.1 (said G W).2.2 c i = (laS N (nI c) i).1) := by rw [lab', ih']; exact b
          rw [if_pos b, if_pos b', r7]
        · have b' : ¬ (lab N i (laS N (nI c) i) ∨ ((laS N (nI c) i).2.2 = 0 ∧ lsv G (said G W).2.1 (said G W).2.2 c i = (laS N (nI c) i).1)) := by rw [lab', ih']; exact b
          rw [if_neg b, if_neg b', r7]
  obtain ⟨w1, w2⟩ := wl.2.2.1 c hc
  unfold lwI laV
  rw [e6]
  rcases t6 with r | r | r
  · rw [if_pos r, if_pos (by rw [r]; exact Int32.le_refl _)]
  · rw [if_neg (by rw [r]; decide), if_neg (by rw [r]; decide), if_neg (by rw [r]; decide), w1, key true (by rw [r]; exact ⟨fun _ => rfl, fun _ => rfl⟩) W (Nat.le_refl W)]
    rfl
  · rw [if_neg (by rw [r]; decide), if_pos r, if_neg (by rw [r]; decide), w2, key false (by rw [r]; exact ⟨fun z => absurd z (by decide), fun z => absurd z (by decide)⟩) W (Nat.le_refl W)]
    rfl
end EU3
end MG87
section MG88
/-! ===== each, held, cases, reckon: the same on both sides ===== -/
section EV1
variable {M N : Mm} {L P R S U D W t : Nat} {G : Nat → Nat → Int32}
theorem gi_bgn (M : Mm) (L R : Nat) (b : Int32) {a : Nat} (h : a ≠ 5192) : gi (bgn M L R b) a = gi M a := by
  unfold bgn
  rw [gi_ne h]; rfl
theorem gi_bgn2 (M : Mm) (L R : Nat) (b : Int32) : gi (bgn M L R b) 5192 2 = ctg M L R b := by
  unfold bgn
  rw [gi_si, if_pos ⟨rfl, rfl⟩]
/-- what the class weighs, and the reference, stand for the same -/
theorem cmp_of (i : IV M L P R S U D W t) (ex : EX M L R S D W) (ey : EY M L W G) (f : CQ M N) : CMP (bgn M L R (gi M 10 9)) N L R W G := by
  have hL := i.1.1.2.2.1.1
  have hR := i.1.1.2.2.1.2.2.1
  have hL' := hL
  have hR' := hR
  unfold LA at hL'
  unfold RA at hR'
  have g : ∀ a, ¬ (a = 5192 ∨ a = 5261 ∨ a = 5392) → gi N a = gi M a := f.2.2
  have rk : ∀ w, w < W → ∃ b, b < 8 ∧ wd M w 2 = nI b := fun w hw => (i.2.1.1.2.2.2 w hw).1
  have hb : ∀ o, o < 2304 → gi (bgn M L R (gi M 10 9)) (L + o) = gi M (L + o) := fun o ho => gi_bgn _ _ _ _ (by omega)
  have ew : ∀ w k, wd N w k = wd M w k := fun w k => by unfold wd; rw [g 6101 (by decide)]
  have ecw : ∀ w, cw N w = cw M w := fun w => by
    unfold cw
    rw [ew, ew, ew, g 6543 (by decide), g 6027 (by decide), g 6157 (by decide)]
  have x3 : ∀ i, i < 7 → gi M R i = gi M 6543 i := ex.2.2.2.1
  have ey' := ey
  obtain ⟨y1, y2, ⟨⟨s1, -⟩, -, -, cy⟩, -, y5, ry, wl, rv⟩ := ey
  refine ⟨fun v hv => ?_, fun d hd v hv => ?_, fun c hc v hv => ?_, fun v hv c hc => ?_, fun w hw k hk => ?_, wl_eq (fun a ha => gi_bgn _ _ _ _ (by omega)) wl, ?_, fun k hk => ?_, ?_, (iv_cq f i).2.1.1, fun w hw => (y2 w hw).2.2, fun w hw => (y2 w hw).1⟩
  · rw [gi_bgn2, cnt_b ex ey' rk hv, ecw]
  · rw [hb 460 (by decide)]; exact s1 d hd v hv
  · rw [hb 205 (by decide), hb 269 (by decide)]; exact cy c hc v hv
  · rw [f.1]; exact ry v hv c hc
  · rw [ew]; exact y1 w hw k hk
  · rw [g 6027 (by decide)]; exact y5
  · rw [gi_bgn _ _ _ _ (by omega), g 6543 (by decide)]; exact x3 k hk
  · rw [g 6543 (by decide)]; exact rv.1
end EV1
end MG88
section MG89
/-! ===== bits of a long counted: the JDK's way and the reference's loop ===== -/
theorem hv2 {lo hi : Nat} (hl : lo < 2 ^ 32) : (lo + 4294967296 * hi) / 2 = (lo / 2 + 2147483648 * (hi % 2)) + 4294967296 * (hi / 2) ∧ lo / 2 + 2147483648 * (hi % 2) < 2 ^ 32 := by omega
theorem hsub {p q r s : Nat} (h1 : r ≤ p) (h2 : s ≤ q) : p + 4294967296 * q - (r + 4294967296 * s) = (p - r) + 4294967296 * (q - s) ∧ r + 4294967296 * s ≤ p + 4294967296 * q := by omega
theorem hlt {p q : Nat} (h1 : p < 2 ^ 32) (h2 : q < 2 ^ 32) : p + 4294967296 * q < 2 ^ 64 := by omega
end MG89
section MG90
/-! ===== the least bit of a long: the JDK's way and the reference's loop; sets of cases counted ===== -/
/-- how many of the first k -/
def nbp (p : Nat → Bool) : Nat → Int32
  | 0 => 0
  | k + 1 => nbp p k + (if p k = true then 1 else 0)
theorem nbp_cg {p q : Nat → Bool} : ∀ k, (∀ c, c < k → p c = q c) → nbp p k = nbp q k
  | 0, _ => rfl
  | k + 1, h => by rw [nbp, nbp, nbp_cg k (fun c hc => h c (by omega)), h k (by omega)]
theorem nbp_n (p : Nat → Bool) : ∀ k, ∃ n, n ≤ k ∧ nbp p k = nI n
  | 0 => ⟨0, by omega, rfl⟩
  | k + 1 => by
    obtain ⟨n, hn, e⟩ := nbp_n p k
    rw [nbp, e]
    by_cases q : p k = true
    · rw [if_pos q]; exact ⟨n + 1, by omega, nI_s n⟩
    · rw [if_neg q]; exact ⟨n, by omega, by rw [Int32.add_zero]⟩
/-- the way down comes to the same -/
def nq (H W : Nat → Int32) (c : Nat) : Bool := decide (¬ H c = W c)
theorem cnt_dn (H W : Nat → Int32) : ∀ j, j ≤ 64 → nbp (nq H W) (64 - j) + cnt H W j = nbp (nq H W) 64
  | 0, _ => Int32.add_zero _
  | j + 1, hj => by
    have ih := cnt_dn H W j (by omega)
    rw [show 64 - j = (64 - (j + 1)) + 1 by omega, nbp] at ih
    rw [cnt, ← ih, show 63 - j = 64 - (j + 1) by omega]
    have e : (if H (64 - (j + 1)) = W (64 - (j + 1)) then (0 : Int32) else 1) = if nq H W (64 - (j + 1)) = true then 1 else 0 := by
      unfold nq
      by_cases q : H (64 - (j + 1)) = W (64 - (j + 1))
      · rw [if_pos q, decide_eq_false (fun z => z q), if_neg (by decide)]
      · rw [if_neg q, decide_eq_true q, if_pos rfl]
    rw [e]
    generalize (if nq H W (64 - (j + 1)) = true then (1 : Int32) else 0) = t
    generalize nbp (nq H W) (64 - (j + 1)) = a
    generalize cnt H W j = b
    rw [Int32.add_assoc, Int32.add_comm t b]
theorem cnt_p (H W : Nat → Int32) : cnt H W 64 = nbp (nq H W) 64 := by
  have := cnt_dn H W 64 (Nat.le_refl _)
  rw [show nbp (nq H W) (64 - 64) = 0 from rfl, Int32.zero_add] at this
  exact this
end MG90
section MG91
/-! ===== many, clash, sides: the same on both sides ===== -/
theorem td_b (y z : Int64) {c : Nat} (hc : c < 64) : td y z (nI c) = vl2 (lb y c) (lb z c) := by
  unfold td vl2
  by_cases p : lb y c = true
  · rw [if_pos p, if_pos ((lbit _ hc).mpr p)]
  · rw [if_neg p, if_neg (fun z => p ((lbit _ hc).mp z))]
    by_cases q : lb z c = true
    · rw [if_pos q, if_pos ((lbit _ hc).mpr q)]
    · rw [if_neg q, if_neg (fun z => q ((lbit _ hc).mp z))]
section EW3
variable {A M N : Mm} {L P R S U D W t : Nat} {G : Nat → Nat → Int32}
theorem opv_e (m : CMP A N L R W G) (hW : W ≤ 24) {d c : Nat} (hd : d < 8) (hc : c < 64) : opn A L R d c = vl2 (lb (eyv N W (nI d) 64) c) (lb (enw N W (nI d) 64) c) := by
  rw [(opn_e m hW hd hc).1, td_b _ _ hc]
end EW3
end MG91
section MG92
/-! ===== what holds, of opinions alone; hangs ===== -/
/-- the opinions, one of them another -/
def oud (o : Nat → Int32) (d : Nat) (x : Int32) (e : Nat) : Int32 := if e = d then x else o e
/-- what is held, by a law, opinions, a head and silence -/
def hof (l : Int32) (o : Nat → Int32) (hd si : Int32) : Int32 := anb (byf l (ocn o 1 8) (ocn o 0 8) (hds hd o) si) l (ocn o 1 8) (ocn o 0 8) (hds hd o) si
theorem ocn_cg {o o' : Nat → Int32} {v : Int32} : ∀ k, (∀ d, d < k → o d = o' d) → ocn o v k = ocn o' v k
  | 0, _ => rfl
  | k + 1, h => by rw [ocn, ocn, ocn_cg k (fun d hd => h d (by omega)), h k (by omega)]
theorem hof_cg {l hd si : Int32} {o o' : Nat → Int32} (h : ∀ d, d < 8 → o d = o' d) : hof l o hd si = hof l o' hd si := by
  unfold hof
  rw [ocn_cg 8 h, ocn_cg 8 h, hds_cg h]
theorem ocn_ud {o : Nat → Int32} {d : Nat} {x v : Int32} : ∀ k, d < k → ocn (oud o d x) v k = (ocn o v k - (if o d = v then 1 else 0)) + (if x = v then 1 else 0)
  | 0, h => absurd h (by omega)
  | k + 1, h => by
    rw [ocn, ocn]
    by_cases e : d = k
    · subst e
      have q : ocn (oud o d x) v d = ocn o v d := ocn_cg d (fun f hf => by unfold oud; rw [if_neg (by omega)])
      have y : oud o d x d = x := by unfold oud; rw [if_pos rfl]
      rw [q, y, Int32.add_sub_cancel]
    · have y : oud o d x k = o k := by unfold oud; rw [if_neg (fun z => e z.symm)]
      rw [ocn_ud k (by omega), y]
      generalize ocn o v k = p
      generalize (if o d = v then (1 : Int32) else 0) = q
      generalize (if x = v then (1 : Int32) else 0) = r
      generalize (if o k = v then (1 : Int32) else 0) = s
      rw [Int32.sub_eq_add_neg, Int32.sub_eq_add_neg]
      ac_rfl
theorem hds_ud {hd : Int32} {o : Nat → Int32} {d : Nat} {x : Int32} (h8 : d < 8) : hds hd (oud o d x) = if hd = nI d then x else hds hd o := by
  by_cases q : hd = nI d
  · rw [if_pos q, q]
    unfold hds oud
    have n1 : ¬ (nI d < 0 ∨ 8 ≤ nI d) := fun z => by
      rcases z with z | z
      · exact n0 d (by omega) z
      · exact nge (c := 8) (n := 8) rfl (by decide) h8 z
    rw [if_neg n1, if_pos (ncl (by omega))]
  · rw [if_neg q]
    unfold hds
    by_cases z : hd < 0 ∨ 8 ≤ hd
    · rw [if_pos z, if_pos z]
    · rw [if_neg z, if_neg z]
      obtain ⟨k, hk, ek⟩ := rng (c := 8) (n := 8) rfl (by decide) (fun y => z (Or.inl y)) (fun y => z (Or.inr y))
      rw [ek, ncl (by omega)]
      unfold oud
      rw [if_neg (fun y => q (by rw [ek, y]))]
section EW4
variable {A M N : Mm} {L P R S U D W t : Nat} {G : Nat → Nat → Int32}
theorem heC_h (A : Mm) (L R c : Nat) : heC A L R c = hof (lwI A L R c) (fun d => opn A L R d c) (gi A R 4) (gi A R 5) := rfl
theorem eWe_heldIf {d : Nat} {o : Nat → Int32} {l x : Int32} {K : Int32 → Mm → Prop} (w : WH M L R) (hd : d < 8) (f5 : gi M 5192 5 = l) (f6 : gi M 5192 6 = ocn o 1 8) (f7 : gi M 5192 7 = ocn o 0 8) (fo : ∀ e, e < 8 → gi M 5261 e = o e) (h : K (hof l (oud o d x) (gi M R 4) (gi M R 5)) M) : CI mWe_heldIf [.ref 5192, .int (nI d), .int x] M K := by
  have b82 : ∀ z, z = hds (gi M R 4) (oud o d x) → X mWe_heldIf 82 [(0, .ref 5192), (3, .int ((gi M 5192 6 - (if gi M 5261 d = 1 then 1 else 0)) + (if x = 1 then 1 else 0))), (4, .int ((gi M 5192 7 - (if gi M 5261 d = 0 then 1 else 0)) + (if x = 0 then 1 else 0)))] [.int z] M (mC mWe_heldIf, mS mWe_heldIf) (QI K) := by
    intro z ez
    rw [f6, f7, fo d hd, ← ocn_ud 8 hd, ← ocn_ud 8 hd, ez]
    refine vWe_heldIf_82 rfl (sWe_decider w (vWe_heldIf_94 rfl (sWe_answerBy w (vWe_heldIf_102 ?_))))
    rw [f5]; exact h
  have e := hds_ud (hd := gi M R 4) (o := o) (x := x) hd
  have cl : (nI d).toNatClampNeg = d := ncl (by omega)
  refine call_of rfl (Nat.le_of_ble_eq_true rfl) rfl (vWe_heldIf_0 rfl w.2.2.1 w.2.1 ⟨vin hd (by decide), vin hd (by decide), fun q => sWe_headSaying w ?_, fun q => ?_⟩)
  · rw [cl]
    refine b82 _ ?_
    rw [e, if_neg q]
    exact hds_cg fo
  · rw [cl]
    refine b82 _ ?_
    rw [e, if_pos q]
/-- the reference: what is held, of opinions alone -/
theorem sum_o {H : Nat → Nat → Int64} {c : Nat} {o : Nat → Int32} (hc : c < 64) (ho : ∀ d, d < 8 → o d = vl2 (lb (H 7003 d) c) (lb (H 7067 d) c) ∧ ¬ (lb (H 7003 d) c = true ∧ lb (H 7067 d) c = true)) : ∀ k, k ≤ 8 → ocn o 1 k = sb H 7003 c k ∧ ocn o 0 k = sb H 7067 c k
  | 0, _ => ⟨rfl, rfl⟩
  | k + 1, hk => by
    obtain ⟨i1, i2⟩ := sum_o hc ho k (by omega)
    obtain ⟨e, x⟩ := ho k (by omega)
    have t1 : ∀ z : Int64, ((z >>> ((nI c).toInt64 &&& 63)) &&& 1).toInt32 = if lb z c = true then 1 else 0 := fun z => by
      by_cases q : lb z c = true
      · rw [if_pos q, (lbit _ hc).mpr q]; rfl
      · rw [if_neg q]
        have qf : lb z c = false := by simpa using q
        have e0 : ((z >>> ((nI c).toInt64 &&& 63)) &&& 1) = 0 := by
          refine l_ext (fun j hj => ?_)
          rw [l_and, l_1 j hj, l_0]
          by_cases ej : j = 0
          · subst ej
            rw [l_shr c hc, qf]; rfl
          · rw [decide_eq_false ej, Bool.and_false]
        rw [e0]; rfl
    rw [ocn, ocn, sb, sb, i1, i2, t1, t1, e]
    revert x
    cases lb (H 7003 k) c <;> cases lb (H 7067 k) c <;> intro x
    · exact ⟨rfl, rfl⟩
    · exact ⟨rfl, rfl⟩
    · exact ⟨rfl, rfl⟩
    · exact absurd ⟨rfl, rfl⟩ x
theorem hev_of {Q : Mm} {c : Nat} {o : Nat → Int32} (hc : c < 64) (hh : HD Q) (ho : ∀ d, d < 8 → o d = vl2 (lb (gl Q 7003 d) c) (lb (gl Q 7067 d) c) ∧ ¬ (lb (gl Q 7003 d) c = true ∧ lb (gl Q 7067 d) c = true)) : hev Q W c = hof (laV Q W (nI c)) o (gi Q 6543 4) (gi Q 6543 5) := by
  obtain ⟨s1, s2⟩ := sum_o (H := gl Q) hc ho 8 (Nat.le_refl 8)
  have hd : hdv Q c = hds (gi Q 6543 4) o := by
    unfold hds hdv
    rcases hh with h | ⟨e, he, h⟩
    · rw [h, if_pos (Or.inl (by decide)), if_pos rfl]
    · have n1 : ¬ (nI e < 0 ∨ 8 ≤ nI e) := fun z => by
        rcases z with z | z
        · exact n0 e (by omega) z
        · exact nge (c := 8) (n := 8) rfl (by decide) he z
      rw [h, if_neg n1, if_neg (nI4 (by omega)), ncl (by omega), td_b _ _ hc]
      exact (ho e he).1.symm
  unfold hev hof
  rw [s1, s2, hd]
  generalize laV Q W (nI c) = x1
  generalize sb (gl Q) 7003 c 8 = x2
  generalize sb (gl Q) 7067 c 8 = x3
  generalize hds (gi Q 6543 4) o = x4
  generalize gi Q 6543 5 = x5
  unfold anb hef byf
  by_cases q1 : x1 = -4
  · by_cases q2 : x2 = x3
    · by_cases q3 : x4 = -4
      · by_cases q4 : x5 = -4
        · simp [q1, q2, q3, q4]
        · simp [q1, q2, q3, q4]
      · simp [q1, q2, q3]
    · simp [q1, q2]
  · simp [q1]
theorem eyn_x {d : Int32} {c : Nat} (hc : c < 64) : ¬ (lb (eyv N W d 64) c = true ∧ lb (enw N W d 64) c = true) := by
  obtain ⟨b1, b2⟩ := eyv_b (N := N) (W := W) (d := d) hc 64 (Nat.le_refl 64)
  rw [b1, b2, clv_b]
  rintro ⟨z | z, y | y⟩
  · rw [z.1] at y; exact absurd y.2 (by decide)
  · rw [z.2] at y; exact absurd y.2.1.2 (by decide)
  · rw [y.2] at z; exact absurd z.2.1.1 (by decide)
  · rw [z.2.2] at y; exact absurd y.2.2 (by decide)
/-- what the reference's doctors say -/
def rop (M : Mm) (W c d : Nat) : Int32 := vl2 (lb (eyv M W (nI d) 64) c) (lb (enw M W (nI d) 64) c)
/-- what is held, by the reference -/
def rhe (M : Mm) (W c : Nat) : Int32 := hof (laV M W (nI c)) (rop M W c) (gi M 6543 4) (gi M 6543 5)
theorem hev_eo (hh : HD M) {c : Nat} (hc : c < 64) : hev (EO M W) W c = rhe M W c := by
  unfold rhe
  rw [← laV_sm (eo_sm M W)]
  refine hev_of (Q := EO M W) (o := rop M W c) hc hh (fun d hd => ?_)
  have g3 : gl (EO M W) 7003 d = eyv M W (nI d) 64 := by rw [gl_eo, if_pos ⟨rfl, hd⟩]
  have g6 : gl (EO M W) 7067 d = enw M W (nI d) 64 := by rw [gl_eo, if_neg (by simp), if_pos ⟨rfl, hd⟩]
  rw [g3, g6]
  exact ⟨rfl, eyn_x hc⟩
/-- both sides: law, opinions, head, silence -/
theorem hold_e (m : CMP A N L R W G) (hW : W ≤ 24) {c : Nat} (hc : c < 64) : lwI A L R c = laV N W (nI c) ∧ (∀ d, d < 8 → opn A L R d c = rop N W c d) ∧ gi A R 4 = gi N 6543 4 ∧ gi A R 5 = gi N 6543 5 :=
  ⟨law_e m hc, fun d hd => opv_e m hW hd hc, m.2.2.2.2.2.2.2.1 4 (by decide), m.2.2.2.2.2.2.2.1 5 (by decide)⟩
theorem heC_e (m : CMP A N L R W G) (hW : W ≤ 24) {c : Nat} (hc : c < 64) : heC A L R c = rhe N W c := by
  obtain ⟨e1, e2, e3, e4⟩ := hold_e m hW hc
  rw [heC_h, rhe, e1, e3, e4]
  exact hof_cg e2
/-- what would be held if one said another thing -/
def rhu (M : Mm) (W d : Nat) (x : Nat → Int32) (c : Nat) : Int32 := hof (laV M W (nI c)) (oud (rop M W c) d (x c)) (gi M 6543 4) (gi M 6543 5)
theorem nq_cg {H H' Q Q' : Nat → Int32} {c : Nat} (h1 : H c = H' c) (h2 : Q c = Q' c) : nq H Q c = nq H' Q' c := by unfold nq; rw [h1, h2]
end EW4
end MG92
section MG93
/-! ===== any rule, any books: the same on both sides; differ ===== -/
section EW5
variable {A B M N O : Mm} {L P R S U D W t : Nat} {G : Nat → Nat → Int32}
/-- what is held depends on the library, the rule and what counts -/
theorem hvs_eq (h : ∀ o, o < 2304 → gi B (L + o) = gi A (L + o)) (ws fw : Int32) : ∀ k, hvs B L ws fw k = hvs A L ws fw k
  | 0 => rfl
  | k + 1 => by rw [hvs, hvs, hvs_eq h ws fw k, h 590 (by decide)]
theorem stl_eq (h : ∀ o, o < 2304 → gi B (L + o) = gi A (L + o)) (hr : gi B R = gi A R) (y n fw : Int32) : stl B L R y n fw = stl A L R y n fw := by
  unfold stl; rw [hvs_eq h, hr]
theorem opn_eq (h : ∀ o, o < 2304 → gi B (L + o) = gi A (L + o)) (hr : gi B R = gi A R) (h2 : gi B 5192 2 = gi A 5192 2) (d c : Nat) : opn B L R d c = opn A L R d c := by
  unfold opn his; rw [stl_eq h hr, h 460 (by decide), h 205 (by decide), h 269 (by decide), h2]
theorem heC_eq (h : ∀ o, o < 2304 → gi B (L + o) = gi A (L + o)) (hr : gi B R = gi A R) (h2 : gi B 5192 2 = gi A 5192 2) (c : Nat) : heC B L R c = heC A L R c := by
  have l : lwI B L R c = lwI A L R c := by unfold lwI; rw [h 397 (by decide), h 333 (by decide), hr]
  rw [heC_h, heC_h, l, hr]
  exact hof_cg (fun d _ => opn_eq h hr h2 d c)
theorem rop_sm (s : SM W M N) (j : JW M W) (c d : Nat) : rop N W c d = rop M W c d := by unfold rop; rw [eyv_sm s j, enw_sm s j]
end EW5
end MG93
section MG94
/-! ===== brief: the same on both sides ===== -/
theorem an_64 : ∀ a, a < 64 → ∀ b, b < 64 → (nI a &&& nI b) = nI (a &&& b) := by decide +kernel
section EW6
variable {M N : Mm} {L P R S U D W t : Nat} {G : Nat → Nat → Int32}
end EW6
end MG94
section MG95
/-! ===== near, widest: the same on both sides (draft, never compiled) ===== -/
theorem pc_6 : ∀ x, x < 64 → pc8 x ≤ 6 := by decide +kernel
section EV2
variable {M N : Mm} {L P R S U D W t : Nat} {G : Nat → Nat → Int32}
end EV2
end MG95
