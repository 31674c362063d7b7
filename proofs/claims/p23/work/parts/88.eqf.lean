/-! ===== pairs of calls: queries, with what was read the same ===== -/
section EQF
variable {M : Mm}
theorem px_word {v w : Int32} {Z : Int32 → Int32 → Mm → Prop} (i0 : INX M) (h : ∀ r s N, INX N → Z r s N) : CI mC_word [.ref 10, .int v, .int w] M (fun r N => CI mM_word [.ref 6027, .int v, .int w] N (fun s O => Z r s O)) := by
  obtain ⟨L, P, R, S, U, D, W, t, i, ex⟩ := i0
  have c := i.1.1
  have i0 : INX M := ⟨L, P, R, S, U, D, W, t, i, ex⟩
  refine lC_word c i.1.2.1 i.1.2.2.1 (fun r => ?_)
  exact tM_word i.2.1.1 (fun s => h r s M i0)
theorem px_says {v w : Int32} {Z : Int32 → Int32 → Mm → Prop} (i0 : INX M) (h : ∀ r s N, INX N → Z r s N) : CI mC_says [.ref 10, .int v, .int w] M (fun r N => CI mM_says [.ref 6027, .int v, .int w] N (fun s O => Z r s O)) := by
  obtain ⟨L, P, R, S, U, D, W, t, i, ex⟩ := i0
  have c := i.1.1
  have i0 : INX M := ⟨L, P, R, S, U, D, W, t, i, ex⟩
  refine lC_says c i.1.2.1 i.1.2.2.1 (fun r => ?_)
  exact tM_says i.2.1.1 (h r _ M i0)
theorem px_words {v : Int32} {Z : Int32 → Int32 → Mm → Prop} (i0 : INX M) (h : ∀ r s N, INX N → Z r s N) : CI mC_words [.ref 10, .int v] M (fun r N => CI mM_words [.ref 6027, .int v] N (fun s O => Z r s O)) := by
  obtain ⟨L, P, R, S, U, D, W, t, i, ex⟩ := i0
  have c := i.1.1
  have i0 : INX M := ⟨L, P, R, S, U, D, W, t, i, ex⟩
  refine lC_words c (fun r => ?_)
  exact tM_words i.2.1.1 (h r _ M i0)
theorem px_meets {v w : Int32} {Z : Int32 → Int32 → Mm → Prop} (i0 : INX M) (h : ∀ r s N, INX N → Z r s N) : CI mC_meets [.ref 10, .int v, .int w] M (fun r N => CI mM_meets [.ref 6027, .int v, .int w] N (fun s O => Z r s O)) := by
  obtain ⟨L, P, R, S, U, D, W, t, i, ex⟩ := i0
  have c := i.1.1
  have i0 : INX M := ⟨L, P, R, S, U, D, W, t, i, ex⟩
  refine lC_meets c (fun r => ?_)
  exact tM_meets i.2.1.1 (fun s => h r s M i0)
theorem px_steps {v : Int32} {Z : Int32 → Int32 → Mm → Prop} (i0 : INX M) (h : ∀ r s N, INX N → Z r s N) : CI mC_steps [.ref 10, .int v] M (fun r N => CI mM_steps [.ref 6027, .int v] N (fun s O => Z r s O)) := by
  obtain ⟨L, P, R, S, U, D, W, t, i, ex⟩ := i0
  have c := i.1.1
  have i0 : INX M := ⟨L, P, R, S, U, D, W, t, i, ex⟩
  refine lC_steps c i.1.2.1 i.1.2.2.1 (fun r => ?_)
  exact tM_steps i.2.1.1 (fun s => h r s M i0)
theorem px_count {v : Int32} {Z : Int32 → Int32 → Mm → Prop} (i0 : INX M) (h : ∀ r s N, INX N → Z r s N) : CI mC_count [.ref 10, .int v] M (fun r N => CI mM_count [.ref 6027, .int v] N (fun s O => Z r s O)) := by
  obtain ⟨L, P, R, S, U, D, W, t, i, ex⟩ := i0
  have c := i.1.1
  have i0 : INX M := ⟨L, P, R, S, U, D, W, t, i, ex⟩
  refine lC_count c (fun r => ?_)
  exact tM_count i.2.1.1 (fun s => h r s M i0)
theorem px_each {v w : Int32} {Z : Int32 → Int32 → Mm → Prop} (i0 : INX M) (h : ∀ r s N, INX N → Z r s N) : CI mC_each [.ref 10, .int v, .int w] M (fun r N => CI mM_each [.ref 6027, .int v, .int w] N (fun s O => Z r s O)) := by
  obtain ⟨L, P, R, S, U, D, W, t, i, ex⟩ := i0
  have c := i.1.1
  refine lC_each c (fun r N f => ?_)
  have iN := iv_cq f i
  have xN := ex_cq f ex
  have jN := iN.2.1
  exact tM_each jN.1 (fun O g => h r _ O ⟨L, P, R, S, U, D, W, t, iv_af g iN, ex_af g xN⟩)
theorem px_clash {v w : Int32} {Z : Int32 → Int32 → Mm → Prop} (i0 : INX M) (h : ∀ r s N, INX N → Z r s N) : CI mC_clash [.ref 10, .int v, .int w] M (fun r N => CI mM_clash [.ref 6027, .int v, .int w] N (fun s O => Z r s O)) := by
  obtain ⟨L, P, R, S, U, D, W, t, i, ex⟩ := i0
  have c := i.1.1
  refine lC_clash c (fun r N f => ?_)
  have iN := iv_cq f i
  have xN := ex_cq f ex
  have jN := iN.2.1
  exact tM_clash jN.1 (fun O g => h r _ O ⟨L, P, R, S, U, D, W, t, iv_af g iN, ex_af g xN⟩)
theorem px_sides {v w x : Int32} {Z : Int32 → Int32 → Mm → Prop} (i0 : INX M) (h : ∀ r s N, INX N → Z r s N) : CI mC_sides [.ref 10, .int v, .int w, .int x] M (fun r N => CI mM_sides [.ref 6027, .int v, .int w, .int x] N (fun s O => Z r s O)) := by
  obtain ⟨L, P, R, S, U, D, W, t, i, ex⟩ := i0
  have c := i.1.1
  refine lC_sides c (fun r N f => ?_)
  have iN := iv_cq f i
  have xN := ex_cq f ex
  have jN := iN.2.1
  exact tM_sides jN.1 (fun O g => h r _ O ⟨L, P, R, S, U, D, W, t, iv_af g iN, ex_af g xN⟩)
theorem px_hangs {v w : Int32} {Z : Int32 → Int32 → Mm → Prop} (i0 : INX M) (h : ∀ r s N, INX N → Z r s N) : CI mC_hangs [.ref 10, .int v, .int w] M (fun r N => CI mM_hangs [.ref 6027, .int v, .int w] N (fun s O => Z r s O)) := by
  obtain ⟨L, P, R, S, U, D, W, t, i, ex⟩ := i0
  have c := i.1.1
  refine lC_hangs c (fun r N f => ?_)
  have iN := iv_cq f i
  have xN := ex_cq f ex
  have jN := iN.2.1
  exact tM_hangs jN.1 jN.2.2.1 (fun s O g => h r s O ⟨L, P, R, S, U, D, W, t, iv_qf g iN, ex_qf g xN⟩)
theorem px_held {v w : Int32} {Z : Int32 → Int32 → Mm → Prop} (i0 : INX M) (h : ∀ r s N, INX N → Z r s N) : CI mC_held [.ref 10, .int v, .int w] M (fun r N => CI mM_held [.ref 6027, .int v, .int w] N (fun s O => Z r s O)) := by
  obtain ⟨L, P, R, S, U, D, W, t, i, ex⟩ := i0
  have c := i.1.1
  refine lC_held c (fun r N f => ?_)
  have iN := iv_cq f i
  have xN := ex_cq f ex
  have jN := iN.2.1
  exact tM_held jN.1 jN.2.2.1 (fun O g => h r _ O ⟨L, P, R, S, U, D, W, t, iv_af g iN, ex_af g xN⟩)
theorem px_cases {v : Int32} {Z : Int64 → Int64 → Mm → Prop} (i0 : INX M) (h : ∀ r s N, INX N → Z r s N) : CJ mC_cases [.ref 10, .int v] M (fun r N => CJ mM_cases [.ref 6027, .int v] N (fun s O => Z r s O)) := by
  obtain ⟨L, P, R, S, U, D, W, t, i, ex⟩ := i0
  have c := i.1.1
  refine lC_cases c (fun r N f => ?_)
  have iN := iv_cq f i
  have xN := ex_cq f ex
  have jN := iN.2.1
  exact tM_cases jN.1 jN.2.2.1 (fun O g => h r _ O ⟨L, P, R, S, U, D, W, t, iv_af g iN, ex_af g xN⟩)
theorem px_many {v : Int32} {Z : Int32 → Int32 → Mm → Prop} (i0 : INX M) (h : ∀ r s N, INX N → Z r s N) : CI mC_many [.ref 10, .int v] M (fun r N => CI mM_many [.ref 6027, .int v] N (fun s O => Z r s O)) := by
  obtain ⟨L, P, R, S, U, D, W, t, i, ex⟩ := i0
  have c := i.1.1
  refine lC_many c (fun r N f => ?_)
  have iN := iv_cq f i
  have xN := ex_cq f ex
  have jN := iN.2.1
  exact tM_many jN.1 jN.2.2.1 (fun O g => h r _ O ⟨L, P, R, S, U, D, W, t, iv_af g iN, ex_af g xN⟩)
theorem px_reckon {v w x y z : Int32} {Z : Int32 → Int32 → Mm → Prop} (i0 : INX M) (h : ∀ r s N, INX N → Z r s N) : CI mC_reckon [.ref 10, .int v, .int w, .int x, .int y, .int z] M (fun r N => CI mM_reckon [.ref 6027, .int v, .int w, .int x, .int y, .int z] N (fun s O => Z r s O)) := by
  obtain ⟨L, P, R, S, U, D, W, t, i, ex⟩ := i0
  have c := i.1.1
  refine lC_reckon c (fun r N f => ?_)
  have iN := iv_cq f i
  have xN := ex_cq f ex
  have jN := iN.2.1
  exact tM_reckon jN.1 jN.2.2.1 (fun O g => h r _ O ⟨L, P, R, S, U, D, W, t, iv_af g iN, ex_af g xN⟩)
theorem px_widest {v : Int32} {Z : Int32 → Int32 → Mm → Prop} (i0 : INX M) (h : ∀ r s N, INX N → Z r s N) : CI mC_widest [.ref 10, .int v] M (fun r N => CI mM_widest [.ref 6027, .int v] N (fun s O => Z r s O)) := by
  obtain ⟨L, P, R, S, U, D, W, t, i, ex⟩ := i0
  have c := i.1.1
  refine lC_widest c (fun r N f => ?_)
  have iN := iv_cq f i
  have xN := ex_cq f ex
  have jN := iN.2.1
  exact tM_widest jN.1 jN.2.2.1 (fun O g => h r _ O ⟨L, P, R, S, U, D, W, t, iv_af g iN, ex_af g xN⟩)
theorem px_near {v w x : Int32} {Z : Int32 → Int32 → Mm → Prop} (i0 : INX M) (h : ∀ r s N, INX N → Z r s N) : CI mC_near [.ref 10, .int v, .int w, .int x] M (fun r N => CI mM_near [.ref 6027, .int v, .int w, .int x] N (fun s O => Z r s O)) := by
  obtain ⟨L, P, R, S, U, D, W, t, i, ex⟩ := i0
  have c := i.1.1
  refine lC_near c (fun r N f => ?_)
  have iN := iv_cq f i
  have xN := ex_cq f ex
  have jN := iN.2.1
  exact tM_near jN.1 jN.2.2.1 (fun O g => h r _ O ⟨L, P, R, S, U, D, W, t, iv_af g iN, ex_af g xN⟩)
theorem px_argue {v w x : Int32} {Z : Int32 → Int32 → Mm → Prop} (i0 : INX M) (h : ∀ r s N, INX N → Z r s N) : CI mC_argue [.ref 10, .int v, .int w, .int x] M (fun r N => CI mM_argue [.ref 6027, .int v, .int w, .int x] N (fun s O => Z r s O)) := by
  obtain ⟨L, P, R, S, U, D, W, t, i, ex⟩ := i0
  have c := i.1.1
  refine lC_argue c (fun r N f => ?_)
  have iN := iv_cq f i
  have xN := ex_cq f ex
  have jN := iN.2.1
  exact tM_argue jN.1 jN.2.2.1 (fun s O g => h r s O ⟨L, P, R, S, U, D, W, t, iv_qf g iN, ex_qf g xN⟩)
theorem px_game {v w x : Int32} {Z : Int32 → Int32 → Mm → Prop} (i0 : INX M) (h : ∀ r s N, INX N → Z r s N) : CI mC_game [.ref 10, .int v, .int w, .int x] M (fun r N => CI mM_game [.ref 6027, .int v, .int w, .int x] N (fun s O => Z r s O)) := by
  obtain ⟨L, P, R, S, U, D, W, t, i, ex⟩ := i0
  have c := i.1.1
  refine lC_game c (fun r N f => ?_)
  have iN := iv_cq f i
  have xN := ex_cq f ex
  have jN := iN.2.1
  exact tM_game jN.1 jN.2.2.1 (fun s O g => h r s O ⟨L, P, R, S, U, D, W, t, iv_qf g iN, ex_qf g xN⟩)
theorem px_turn {v : Int32} {Z : Int32 → Int32 → Mm → Prop} (i0 : INX M) (h : ∀ r s N, INX N → Z r s N) : CI mC_turn [.ref 10, .int v] M (fun r N => CI mM_turn [.ref 6027, .int v] N (fun s O => Z r s O)) := by
  obtain ⟨L, P, R, S, U, D, W, t, i, ex⟩ := i0
  have c := i.1.1
  refine lC_turn c (fun r N f => ?_)
  have iN := iv_cq f i
  have xN := ex_cq f ex
  have jN := iN.2.1
  exact tM_turn jN.1 jN.2.1 jN.2.2.1 jN.2.2.2.2 (fun s O g => h r s O ⟨L, P, R, S, U, D, W, t, iv_qf g iN, ex_qf g xN⟩)
theorem px_turns {v w x : Int32} {Z : Int32 → Int32 → Mm → Prop} (i0 : INX M) (h : ∀ r s N, INX N → Z r s N) : CI mC_turns [.ref 10, .int v, .int w, .int x] M (fun r N => CI mM_turns [.ref 6027, .int v, .int w, .int x] N (fun s O => Z r s O)) := by
  obtain ⟨L, P, R, S, U, D, W, t, i, ex⟩ := i0
  have c := i.1.1
  refine lC_turns c (fun r N f => ?_)
  have iN := iv_cq f i
  have xN := ex_cq f ex
  have jN := iN.2.1
  exact tM_turns jN.1 jN.2.1 jN.2.2.1 jN.2.2.2.2 (fun s O g => h r s O ⟨L, P, R, S, U, D, W, t, iv_qf g iN, ex_qf g xN⟩)
theorem px_differ {v : Int32} {Z : Int32 → Int32 → Mm → Prop} (i0 : INX M) (h : ∀ r s N, INX N → Z r s N) : CI mC_differ [.ref 10, .int v] M (fun r N => CI mM_differ [.ref 6027, .int v] N (fun s O => Z r s O)) := by
  obtain ⟨L, P, R, S, U, D, W, t, i, ex⟩ := i0
  have c := i.1.1
  refine lC_differ c (fun r N f => ?_)
  have iN := iv_cq f i
  have xN := ex_cq f ex
  have jN := iN.2.1
  exact tM_differ jN.1 jN.2.2.1 jN.2.2.2.1 (fun s O g => h r s O ⟨L, P, R, S, U, D, W, t, iv_qf g iN, ex_qf g xN⟩)
theorem px_brief {v : Int32} {Z : Int32 → Int32 → Mm → Prop} (i0 : INX M) (h : ∀ r s N, INX N → Z r s N) : CI mC_brief [.ref 10, .int v] M (fun r N => CI mM_brief [.ref 6027, .int v] N (fun s O => Z r s O)) := by
  obtain ⟨L, P, R, S, U, D, W, t, i, ex⟩ := i0
  have c := i.1.1
  refine lC_brief c (fun r N f => ?_)
  have iN := iv_cq f i
  have xN := ex_cq f ex
  have jN := iN.2.1
  exact tM_brief jN.1 jN.2.2.1 (fun s O g => h r s O ⟨L, P, R, S, U, D, W, t, iv_qf g iN, ex_qf g xN⟩)
theorem px_read {v w x y z : Int32} {Z : Int32 → Int32 → Mm → Prop} (i0 : INX M) (h : ∀ r s N, INX N → Z r s N) : CI mC_read [.ref 10, .int v, .int w, .int x, .int y, .int z] M (fun r N => CI mM_read [.ref 6027, .int v, .int w, .int x, .int y, .int z] N (fun s O => Z r s O)) := by
  obtain ⟨L, P, R, S, U, D, W, t, i, ex⟩ := i0
  have c := i.1.1
  refine lC_read c (js_n i.2.2.2) (fun r N f => ?_)
  have iN := iv_cq f i
  have xN := ex_cq f ex
  have jN := iN.2.1
  exact tM_read jN.1 jN.2.2.1 (js_m iN.2.2.2) (fun s O g => h r s O ⟨L, P, R, S, U, D, W, t, iv_qf g iN, ex_qf g xN⟩)
end EQF
