/-! ===== the reference at any state: rules, brief, count, sheets, tape ===== -/
section GM9
variable {M N O : Mm} {W : Nat}
/-- rules and others so far swapped -/
def SP (i : Nat) (M N : Mm) : Prop := gr N = gr M ∧ gl N = gl M ∧ (∀ a, a ≠ 6543 → a ≠ 6607 → gi N a = gi M a) ∧ (∀ k, gi N 6543 k = if k < i then gi M 6607 k else gi M 6543 k) ∧ ∀ k, gi N 6607 k = if k < i then gi M 6543 k else gi M 6607 k
theorem sp_s {i : Nat} (s : SP i M N) : SP (i + 1) M (si (si N 6607 i (gi N 6543 i)) 6543 i (gi N 6607 i)) := by
  obtain ⟨s1, s2, s3, s4, s5⟩ := s
  refine ⟨s1, s2, fun a h1 h2 => ?_, fun k => ?_, fun k => ?_⟩
  · rw [← s3 a h1 h2]; funext k; rw [giR _ _ _ _ _ _ h1, giR _ _ _ _ _ _ h2]
  · rw [gi_si]
    by_cases e : k = i
    · rw [if_pos ⟨rfl, e⟩, s5, e, if_neg (Nat.lt_irrefl i), if_pos (Nat.lt_succ_self i)]
    · rw [if_neg (fun q => e q.2), giR _ _ _ _ _ _ (by decide), s4]
      by_cases l : k < i
      · rw [if_pos l, if_pos (by omega)]
      · rw [if_neg l, if_neg (by omega)]
  · rw [giR _ _ _ _ _ _ (by decide), gi_si]
    by_cases e : k = i
    · rw [if_pos ⟨rfl, e⟩, s4, e, if_neg (Nat.lt_irrefl i), if_pos (Nat.lt_succ_self i)]
    · rw [if_neg (fun q => e q.2), s5]
      by_cases l : k < i
      · rw [if_pos l, if_pos (by omega)]
      · rw [if_neg l, if_neg (by omega)]
theorem sM_swap {K : Int32 → Mm → Prop} (hm : MR M) (h : ∀ N, SP 7 M N → K 1 N) : CI mM_swap [.ref 6027] M K := by
  refine call_of rfl (Nat.le_of_ble_eq_true rfl) rfl (vM_swap_0 ?_)
  have key := lp 7 (P := fun i => ∀ N, SP i M N → X mM_swap 2 [(0, .ref 6027), (1, .int (nI i))] [] N (mC mM_swap, mS mM_swap) (QI K)) (fun i hi ih N s => ?_) (fun N s => ?_)
  · exact key M ⟨rfl, rfl, fun _ _ _ => rfl, fun k => by rw [if_neg (Nat.not_lt_zero k)], fun k => by rw [if_neg (Nat.not_lt_zero k)]⟩
  · have hmN := mr_w hm s.1
    refine vM_swap_2 rfl (mr19 hmN) (mr18 hmN) ⟨fun _ => vin hi (by decide), fun q => absurd q (nge rfl (by decide) hi), fun _ => ⟨vin hi (by decide), vin hi (by decide), vin hi (by decide), ?_⟩⟩
    rw [ncl (by omega), nI_s]; exact ih _ (sp_s s)
  · have hmN := mr_w hm s.1
    exact vM_swap_2 rfl (mr19 hmN) (mr18 hmN) ⟨fun q => absurd (nself rfl) q, fun _ => h N s, fun q => absurd (nself rfl) q⟩
/-- the others become the rules -/
def KP (i : Nat) (M N : Mm) : Prop := gr N = gr M ∧ gl N = gl M ∧ (∀ a, a ≠ 6607 → gi N a = gi M a) ∧ ∀ k, gi N 6607 k = if k < i then gi M 6543 k else gi M 6607 k
theorem tM_keep {K : Int32 → Mm → Prop} (hm : MR M) (h : ∀ N, KP 7 M N → K 1 N) : CI mM_keep [.ref 6027] M K := by
  refine call_of rfl (Nat.le_of_ble_eq_true rfl) rfl (vM_keep_0 ?_)
  have key := lp 7 (P := fun i => ∀ N, KP i M N → X mM_keep 2 [(0, .ref 6027), (1, .int (nI i))] [] N (mC mM_keep, mS mM_keep) (QI K)) (fun i hi ih N s => ?_) (fun N s => ?_)
  · exact key M ⟨rfl, rfl, fun _ _ => rfl, fun k => by rw [if_neg (Nat.not_lt_zero k)]⟩
  · have hmN := mr_w hm s.1
    refine vM_keep_2 rfl (mr19 hmN) (mr18 hmN) ⟨fun _ => vin hi (by decide), fun q => absurd q (nge rfl (by decide) hi), fun _ => ⟨vin hi (by decide), ?_⟩⟩
    rw [ncl (by omega), nI_s]
    refine ih _ ⟨s.1, s.2.1, fun a ha => ?_, fun k => ?_⟩
    · rw [← s.2.2.1 a ha]; funext k; rw [giR _ _ _ _ _ _ ha]
    · rw [gi_si]
      by_cases e : k = i
      · rw [if_pos ⟨rfl, e⟩, s.2.2.1 6543 (by decide), e, if_pos (Nat.lt_succ_self i)]
      · rw [if_neg (fun q => e q.2), s.2.2.2]
        by_cases l : k < i
        · rw [if_pos l, if_pos (by omega)]
        · rw [if_neg l, if_neg (by omega)]
  · have hmN := mr_w hm s.1
    exact vM_keep_2 rfl (mr19 hmN) (mr18 hmN) ⟨fun q => absurd (nself rfl) q, fun _ => h N s, fun q => absurd (nself rfl) q⟩
/-- the head of the others -/
def HO (M : Mm) : Prop := gi M 6607 4 = -4 ∨ ∃ e, e < 8 ∧ gi M 6607 4 = nI e
theorem jw_sp {i : Nat} (s : SP i M N) (j : JW M W) : JW N W := by
  have e1 := s.2.2.1 6101 (by decide) (by decide)
  have e2 := s.2.2.1 6027 (by decide) (by decide)
  have e : ∀ v k, wd N v k = wd M v k := fun v k => by unfold wd; rw [e1]
  refine ⟨mr_w j.1 s.1, by rw [e2]; exact j.2.1, j.2.2.1, fun w hw => ?_⟩
  obtain ⟨⟨c, hc, ec⟩, ch⟩ := j.2.2.2 w hw
  refine ⟨⟨c, hc, (e _ _).trans ec⟩, fun u => chn_wd (fun v _ => e v 6) _ _ hw (ch ?_)⟩
  unfold uns at u ⊢
  rwa [e2] at u
theorem qf_sp (f : SP 7 M N) (g : AF N O) {P : Mm} (k : SP 7 O P) : QF W M P := by
  have kk : ∀ a, a ≠ 7310 → a ≠ 7374 → a ≠ 7246 → a ≠ 7182 → gi O a = gi N a := g.1
  refine ⟨(k.1.trans g.2.1).trans f.1, fun a q => ?_, fun i _ => ?_, fun i _ => ?_, fun a i q _ => ?_⟩
  · by_cases e1 : a = 6543
    · subst e1
      funext i
      rw [k.2.2.2.1, kk 6607 (by decide) (by decide) (by decide) (by decide), kk 6543 (by decide) (by decide) (by decide) (by decide), f.2.2.2.2, f.2.2.2.1]
      by_cases l : i < 7
      · rw [if_pos l, if_pos l]
      · rw [if_neg l, if_neg l]
    · by_cases e2 : a = 6607
      · subst e2
        funext i
        rw [k.2.2.2.2, kk 6607 (by decide) (by decide) (by decide) (by decide), kk 6543 (by decide) (by decide) (by decide) (by decide), f.2.2.2.2, f.2.2.2.1]
        by_cases l : i < 7
        · rw [if_pos l, if_pos l]
        · rw [if_neg l, if_neg l]
      · rw [k.2.2.1 a e1 e2, kk a (fun e => q (by omega)) (fun e => q (by omega)) (fun e => q (by omega)) (fun e => q (by omega)), f.2.2.1 a e1 e2]
  · rw [k.2.2.1 6101 (by decide) (by decide), kk 6101 (by decide) (by decide) (by decide) (by decide), f.2.2.1 6101 (by decide) (by decide)]
  · rw [k.2.2.1 6027 (by decide) (by decide), kk 6027 (by decide) (by decide) (by decide) (by decide), f.2.2.1 6027 (by decide) (by decide)]
  · rw [k.2.1, g.2.2 a i q, f.2.1]
theorem tM_differ {w : Int32} {K : Int32 → Mm → Prop} (j : JW M W) (hh : HD M) (ho : HO M) (h : ∀ r N, QF W M N → K r N) : CI mM_differ [.ref 6027, .int w] M K := by
  refine call_of rfl (Nat.le_of_ble_eq_true rfl) rfl (vM_differ_0 (sM_inE (fun q => vM_differ_7 rfl ⟨fun q => absurd rfl q, fun _ => h _ _ (qf_rf W M)⟩) (fun q => vM_differ_7 rfl ⟨fun _ => tM_findAll j hh (fun N f _ _ => ?_), fun q => absurd q (by decide)⟩)))
  have f1 : QF W M N := qf_af f
  refine vM_differ_16 rfl (kh_row (mr_w j.1 f1.1) ?_)
  have f2 := qf_tr f1 (qf_row (M := N) (n := 64) (g := gi N 7182))
  generalize rwm N 7438 64 (gi N 7182) = O at f2 ⊢
  refine vM_differ_20 rfl (sM_swap (mr_w j.1 f2.1) (fun P s => vM_differ_24 rfl ?_))
  have hP : HD P := by
    have : gi P 6543 4 = gi M 6607 4 := by rw [s.2.2.2.1, if_pos (by decide), f2.2.1 6607 (by decide)]
    unfold HD; rw [this]; exact ho
  refine tM_findAll (jw_sp s (jw_sm (qf_sm f2) j)) hP (fun R g _ _ => vM_differ_29 rfl ?_)
  refine sM_swap (mr_w j.1 ((g.2.1.trans s.1).trans f2.1)) (fun S t => vM_differ_33 rfl ?_)
  have f3 : QF W M S := qf_tr f2 (qf_sp s g t)
  exact sM_findChanged (mr_w j.1 f3.1) (fun N3 c1 c2 c3 c4 _ _ => vM_differ_38 rfl (h _ _ (qf_tr f3 (qf_ch c1 c2 c3 c4))))
theorem tM_brief {w : Int32} {K : Int32 → Mm → Prop} (j : JW M W) (hh : HD M) (h : ∀ r N, QF W M N → K r N) : CI mM_brief [.ref 6027, .int w] M K := by
  refine call_of rfl (Nat.le_of_ble_eq_true rfl) rfl (vM_brief_0 (sM_inE (fun q => vM_brief_7 rfl ⟨fun q => absurd rfl q, fun _ => h _ _ (qf_rf W M)⟩) (fun q => vM_brief_7 rfl ⟨fun _ => tM_findAll j hh (fun N f _ _ => vM_brief_16 ?_), fun q => absurd q (by decide)⟩)))
  have hm := mr_w j.1 f.2.1
  have f1 : QF W M N := qf_af f
  have key := lp 63 (P := fun s => ∀ x, X mM_brief 21 [(0, .ref 6027), (1, .int w), (2, .int x), (3, .int (nI s))] [] N (mC mM_brief, mS mM_brief) (QI K)) (fun s hs ih x => ?_) (fun x => ?_)
  · exact key 63
  · have loop : ∀ y, X mM_brief 64 [(0, .ref 6027), (1, .int w), (2, .int x), (3, .int (nI s)), (4, .int y), (5, .int 0)] [] N (mC mM_brief, mS mM_brief) (QI K) := by
      have k2 := lp 64 (P := fun c => ∀ y, X mM_brief 64 [(0, .ref 6027), (1, .int w), (2, .int x), (3, .int (nI s)), (4, .int y), (5, .int (nI c))] [] N (mC mM_brief, mS mM_brief) (QI K)) (fun c hc ih2 y => ?_) (fun y => ?_)
      · exact k2
      · refine vM_brief_64 ⟨fun _ => by rw [nI_s]; exact ih _, fun _ => ?_⟩
        have k3 := lp c (P := fun e => ∀ y, X mM_brief 79 [(0, .ref 6027), (1, .int w), (2, .int x), (3, .int (nI s)), (4, .int y), (5, .int (nI c)), (6, .int (nI e))] [] N (mC mM_brief, mS mM_brief) (QI K)) (fun e he ih3 y => ?_) (fun y => ?_)
        · exact k3 y
        · have go : ∀ z, X mM_brief 152 [(0, .ref 6027), (1, .int w), (2, .int x), (3, .int (nI s)), (5, .int (nI c)), (6, .int (nI e))] [.int z] N (mC mM_brief, mS mM_brief) (QI K) := fun z => vM_brief_152 (by rw [nI_s]; exact ih3 z)
          have he2 : e < 64 := by omega
          exact vM_brief_79 rfl (mr30 hm) ⟨fun _ => vin hc (by decide), fun _ => vin he2 (by decide), fun _ => vin hc (by decide), fun _ => vin he2 (by decide), fun q => absurd q (nge rfl (by omega) he), fun _ => go y, fun _ => go 0, fun _ => go 1⟩
        · refine vM_brief_79 rfl (mr30 hm) ⟨fun q => absurd (nself rfl) q.1, fun q => absurd (nself rfl) q.1, fun q => absurd (nself rfl) q.1, fun q => absurd (nself rfl) q.1, fun _ => ?_, fun q => ?_, fun q => absurd (nself rfl) q.1, fun q => absurd (nself rfl) q.1⟩
          · rw [nI_s]; exact ih2 y
          · rcases q with q | q | q | q <;> exact absurd (nself rfl) q.1
      · exact vM_brief_64 ⟨fun _ => by rw [nI_s]; exact ih _, fun q => absurd (nself rfl) q.1⟩
    have nq := nge (c := 63) (i := s) (n := 63) rfl (by decide) hs
    exact vM_brief_21 ⟨fun q => absurd q.1 nq, fun q => absurd q.1 nq, fun _ => sM_countOf (vM_brief_31 (sM_countOf (vM_brief_35 ⟨fun _ => vM_brief_54 (vM_brief_59 (loop 1)), fun _ => sM_countOf (vM_brief_42 (sM_countOf (vM_brief_46 ⟨fun _ => vM_brief_59 (loop 0), fun _ => vM_brief_54 (vM_brief_59 (loop 1))⟩)))⟩)))⟩
  · exact vM_brief_21 ⟨fun _ => h _ _ f1, fun _ => sM_countOf (vM_brief_191 (h _ _ f1)), fun q => absurd (nself rfl) q⟩
theorem tM_count {w : Int32} {K : Int32 → Mm → Prop} (j : JW M W) (h : ∀ r, K r M) : CI mM_count [.ref 6027, .int w] M K := by
  obtain ⟨hm, hW, hW2, hw⟩ := j
  refine call_of rfl (Nat.le_of_ble_eq_true rfl) rfl (vM_count_0 ?_)
  have key := lp W (P := fun i => ∀ x, X mM_count 4 [(0, .ref 6027), (1, .int w), (2, .int x), (3, .int (nI i))] [] M (mC mM_count, mS mM_count) (QI K)) (fun i hi ih x => ?_) (fun x => ?_)
  · exact key 0
  · have nW : ¬ gi M 6027 0 ≤ nI i := by rw [hW]; exact nge rfl (by omega) hi
    exact vM_count_4 rfl ⟨fun q => absurd q nW, fun _ => sM_of (k := 0) hm (by omega) rfl (by decide) (vM_count_19 (by rw [nI_s]; exact ih _))⟩
  · refine vM_count_4 rfl ⟨fun _ => sM_in (l := 10) (m := 17) rfl rfl (fun q => vM_count_47 rfl (mr2 hm) (mr40 hm) (mr41 hm) ⟨fun q => absurd rfl q, fun _ => ⟨fun _ => h _, fun _ => h _, fun _ => sM_countOf (vM_count_110 (h _)), fun _ => h _, fun _ => h _, fun _ => h _⟩, fun q => absurd rfl q⟩) (fun q1 q2 => vM_count_47 rfl (mr2 hm) (mr40 hm) (mr41 hm) ⟨fun _ => ?_, fun q => absurd q (by decide), fun _ => h _⟩), fun q => absurd (by rw [hW]; exact nself rfl) q⟩
    obtain ⟨i, hi, rfl⟩ := rngL (c := 17) (n := 17) rfl (by decide) (fun q => q1 (Int32.lt_trans q (by decide))) q2
    have h10 : 10 ≤ i := by
      have : ¬ nI i < nI 10 := q1
      rw [nlt (by decide) (by omega)] at this
      omega
    have ix : ∀ i, i < 18 → 10 ≤ i → ¬ (nI i - 10 < 0 ∨ 8 ≤ (nI i - 10).toNatClampNeg) := by decide +kernel
    exact ix i (by omega) h10
theorem tM_fault {K : Int32 → Mm → Prop} (h : K (gi M 6027 16) M) : CI mM_fault [.ref 6027] M K := call_of rfl (Nat.le_of_ble_eq_true rfl) rfl (vM_fault_0 rfl h)
def mBring (M : Mm) (b : Int32) : Int32 := if ¬ b < 0 ∧ ¬ 255 < b then gi M 6027 9 else -1
theorem tM_bring {b : Int32} {K : Int32 → Mm → Prop} (h : K (mBring M b) (if ¬ b < 0 ∧ ¬ 255 < b then si M 6027 9 b else M)) : CI mM_bring [.ref 6027, .int b] M K := by
  refine call_of rfl (Nat.le_of_ble_eq_true rfl) rfl (vM_bring_0 (sM_in (l := 0) (m := 255) rfl rfl (fun q => vM_bring_9 rfl ⟨fun q => absurd rfl q, fun _ => ?_⟩) (fun q1 q2 => vM_bring_9 rfl ⟨fun _ => ?_, fun q => absurd q (by decide)⟩)))
  · have n : ¬ (¬ b < 0 ∧ ¬ 255 < b) := fun p => q.elim p.1 p.2
    rwa [mBring, if_neg n, if_neg n] at h
  · rwa [mBring, if_pos ⟨q1, q2⟩, if_pos ⟨q1, q2⟩] at h
theorem tM_end {n : Int32} {K : Int32 → Mm → Prop} (h0 : (n < 0 ∨ gi M 6027 11 < n) → K (-1) M) (h1 : ¬ n < 0 → ¬ gi M 6027 11 < n → K (gi M 6027 11) (si M 6027 11 n)) : CI mM_end [.ref 6027, .int n] M K :=
  call_of rfl (Nat.le_of_ble_eq_true rfl) rfl (vM_end_0 rfl (sM_in (l := 0) (m := gi M 6027 11) rfl rfl (fun q => vM_end_11 rfl ⟨fun q => absurd rfl q, fun _ => h0 q⟩) (fun q1 q2 => vM_end_11 rfl ⟨fun _ => h1 q1 q2, fun q => absurd q (by decide)⟩)))
end GM9
