/-! ===== the reference's reader as a state: from, pos, sort, value, fault, place ===== -/
abbrev Rst : Type := Nat × Nat × Int32 × Int32 × Int32 × Int32
def RD (M : Mm) (T : Nat → Int32) (t : Nat) (s : Rst) : Prop := TP M T t ∧ gi M 6027 13 = nI s.1 ∧ gi M 6027 12 = nI s.2.1 ∧ gi M 6027 14 = s.2.2.1 ∧ gi M 6027 15 = s.2.2.2.1 ∧ gi M 6027 16 = s.2.2.2.2.1 ∧ gi M 6027 17 = s.2.2.2.2.2 ∧ s.1 ≤ s.2.1 ∧ s.2.1 ≤ t ∧ (s.2.2.2.2.1 = 0 ∨ ¬ s.2.2.2.2.1 ≤ 0)
def nxs (T : Nat → Int32) (t : Nat) (s : Rst) : Rst := if s.2.2.2.2.1 = 0 then
    (if lk T t (nx1 T t s.2.1) < 0 then (nx1 T t s.2.1, nx1 T t s.2.1, 0, s.2.2.2.1, s.2.2.2.2.1, s.2.2.2.2.2)
     else if isA (lk T t (nx1 T t s.2.1)) = true then (nx1 T t s.2.1, rn isA T t 401 (nx1 T t s.2.1), 1, s.2.2.2.1, s.2.2.2.2.1, s.2.2.2.2.2)
     else if isF (lk T t (nx1 T t s.2.1)) = true then (nx1 T t s.2.1, rn isF T t 401 (nx1 T t s.2.1), 2, vlf T t (nx1 T t s.2.1) (rn isF T t 401 (nx1 T t s.2.1) - nx1 T t s.2.1), if rn isF T t 401 (nx1 T t s.2.1) - nx1 T t s.2.1 ≤ 3 then s.2.2.2.2.1 else 1, if rn isF T t 401 (nx1 T t s.2.1) - nx1 T t s.2.1 ≤ 3 then s.2.2.2.2.2 else nI (nx1 T t s.2.1))
     else (nx1 T t s.2.1, nx1 T t s.2.1 + 1, if lk T t (nx1 T t s.2.1) = 45 then 3 else 4, s.2.2.2.1, if lk T t (nx1 T t s.2.1) = 45 ∨ lk T t (nx1 T t s.2.1) = 59 then s.2.2.2.2.1 else 1, if lk T t (nx1 T t s.2.1) = 45 ∨ lk T t (nx1 T t s.2.1) = 59 then s.2.2.2.2.2 else nI (nx1 T t s.2.1)))
  else s
theorem nM_next {M : Mm} {T : Nat → Int32} {t : Nat} {s : Rst} {K : Mm → Prop} (rd : RD M T t s) (h : ∀ N, PF M N → RD N T t (nxs T t s) → K N) : CV mM_next [.ref 6027] M K := by
  have rd0 := rd
  obtain ⟨tp, r13, r12, r14, r15, r16, r17, r1, r2, r3⟩ := rd
  have ht := tp.2.2.1
  by_cases z : s.2.2.2.2.1 = 0
  · refine sM_next tp r12 (by omega) (by rw [r16, z]) (fun N nx => ?_)
    obtain ⟨pf, n13, nx⟩ := nx
    have tpN := tp_pf pf tp
    have h1 : nx1 T t s.2.1 ≤ t := rn_le isB T t (by decide) 401 _ r2
    refine h N pf ?_
    unfold nxs
    rw [if_pos z]
    rcases nx with ⟨c, n12, n14, n15, n16, n17⟩ | ⟨c, a, n12, n14, n15, n16, n17⟩ | ⟨c, a, b, n12, n14, n15, n16⟩ | ⟨c, a, b, n12, n14, n15, n16⟩
    · rw [if_pos c]
      exact ⟨tpN, n13, n12, n14, n15.trans r15, n16.trans r16, n17.trans r17, Nat.le_refl _, h1, r3⟩
    · rw [if_neg c, if_pos a]
      exact ⟨tpN, n13, n12, n14, n15.trans r15, n16.trans r16, n17.trans r17, rn_ge _ _ _ _ _, rn_le isA T t (by decide) 401 _ h1, r3⟩
    · rw [if_neg c, if_neg (by rw [a]; decide), if_pos b]
      by_cases l : rn isF T t 401 (nx1 T t s.2.1) - nx1 T t s.2.1 ≤ 3
      · rw [if_pos l] at n16
        rw [if_pos l, if_pos l]
        exact ⟨tpN, n13, n12, n14, n15, n16.1.trans r16, n16.2.trans r17, rn_ge _ _ _ _ _, rn_le isF T t (by decide) 401 _ h1, r3⟩
      · rw [if_neg l] at n16
        rw [if_neg l, if_neg l]
        exact ⟨tpN, n13, n12, n14, n15, n16.1, n16.2, rn_ge _ _ _ _ _, rn_le isF T t (by decide) 401 _ h1, Or.inr (show ¬ (1 : Int32) ≤ 0 by decide)⟩
    · rw [if_neg c, if_neg (by rw [a]; decide), if_neg (by rw [b]; decide)]
      have h2 : nx1 T t s.2.1 + 1 ≤ t := by
        by_cases l : t ≤ nx1 T t s.2.1
        · exfalso
          rw [lk, if_pos l] at c
          exact c (by decide)
        · omega
      by_cases l : lk T t (nx1 T t s.2.1) = 45 ∨ lk T t (nx1 T t s.2.1) = 59
      · rw [if_pos l] at n16
        rw [if_pos l, if_pos l]
        exact ⟨tpN, n13, n12, n14, n15.trans r15, n16.1.trans r16, n16.2.trans r17, Nat.le_succ _, h2, r3⟩
      · rw [if_neg l] at n16
        rw [if_neg l, if_neg l]
        exact ⟨tpN, n13, n12, n14, n15.trans r15, n16.1, n16.2, Nat.le_succ _, h2, Or.inr (show ¬ (1 : Int32) ≤ 0 by decide)⟩
  · refine sM_next1 (by rw [r16]; exact r3.resolve_left z) (h M (pf_rf M) ?_)
    unfold nxs
    rw [if_neg z]; exact rd0
def wts (g c : Int32) (s : Rst) : Rst := if g = 0 ∧ s.2.2.2.2.1 = 0 then (s.1, s.2.1, s.2.2.1, s.2.2.2.1, c, nI s.1) else s
theorem nM_wants {M : Mm} {T : Nat → Int32} {t : Nat} {s : Rst} {g c : Int32} {K : Mm → Prop} (rd : RD M T t s) (hc : ¬ c ≤ 0) (h : ∀ N, PF M N → RD N T t (wts g c s) → K N) : CV mM_wants [.ref 6027, .int g, .int c] M K := by
  have rd0 := rd
  obtain ⟨tp, r13, r12, r14, r15, r16, r17, r1, r2, r3⟩ := rd
  refine sM_wants (fun q => h M (pf_rf M) ?_) (fun q1 q2 => ?_)
  · unfold wts
    rw [r16] at q
    rw [if_neg (fun z => q.elim (fun y => y z.1) (fun y => y z.2))]; exact rd0
  · rw [r16] at q2
    have pf : PF M (si (si M 6027 16 c) 6027 17 (gi M 6027 13)) := pf_si (pf_si (pf_rf M) (by decide) (by decide)) (by decide) (by decide)
    refine h _ pf ?_
    unfold wts
    rw [if_pos ⟨q1, q2⟩]
    have k : ∀ i, i ≠ 16 → i ≠ 17 → gi (si (si M 6027 16 c) 6027 17 (gi M 6027 13)) 6027 i = gi M 6027 i := fun i a b => by rw [g6 _ _ _ _ b, g6 _ _ _ _ a]
    refine ⟨tp_pf pf tp, (k 13 (by decide) (by decide)).trans r13, (k 12 (by decide) (by decide)).trans r12, (k 14 (by decide) (by decide)).trans r14, (k 15 (by decide) (by decide)).trans r15, ?_, ?_, r1, r2, Or.inr hc⟩
    · rw [g6 _ _ _ _ (by decide), g6s]
    · rw [g6s]; exact r13
/-- a number of these bounds is wanted -/
def isn (lo hi : Int32) (s : Rst) : Rst := wts (if ¬ s.2.2.2.1 < lo ∧ ¬ hi < s.2.2.2.1 then 1 else 0) 3 (wts (if s.2.2.1 = 2 then 1 else 0) 2 s)
theorem wts_v (g c : Int32) (s : Rst) : (wts g c s).2.2.2.1 = s.2.2.2.1 := by unfold wts; split <;> rfl
theorem wts_o (g c : Int32) (s : Rst) : (wts g c s).2.2.1 = s.2.2.1 := by unfold wts; split <;> rfl
theorem wts_f {g c : Int32} {s : Rst} (h : ¬ s.2.2.2.2.1 = 0) : wts g c s = s := by unfold wts; rw [if_neg (fun q => h q.2)]
theorem nM_isNumber {M : Mm} {T : Nat → Int32} {t : Nat} {s : Rst} {lo hi : Int32} {K : Mm → Prop} (rd : RD M T t s) (h : ∀ N, PF M N → RD N T t (isn lo hi s) → K N) : CV mM_isNumber [.ref 6027, .int lo, .int hi] M K := by
  have r16 := rd.2.2.2.2.2.1
  have r14 := rd.2.2.2.1
  have b25 : ∀ N, PF M N → RD N T t (wts (if s.2.2.1 = 2 then 1 else 0) 2 s) → X mM_isNumber 25 [(0, .ref 6027), (1, .int lo), (2, .int hi)] [] N (mC mM_isNumber, mS mM_isNumber) (QV K) := by
    intro N pf rN
    have n16 := rN.2.2.2.2.2.1
    have n15 := rN.2.2.2.2.1
    rw [wts_v] at n15
    refine vM_isNumber_25 rfl ⟨fun q => h N pf ?_, fun q => ?_⟩
    · rw [n16] at q
      unfold isn
      rw [wts_f q]; exact rN
    · rw [n15]
      refine sM_in (l := lo) (m := hi) rfl rfl (fun y => vM_isNumber_45 rfl (nM_wants rN (by decide) (fun O pf2 rO => vM_isNumber_49 (h O (pf_tr pf pf2) ?_)))) (fun y1 y2 => vM_isNumber_45 rfl (nM_wants rN (by decide) (fun O pf2 rO => vM_isNumber_49 (h O (pf_tr pf pf2) ?_))))
      · unfold isn
        rw [if_neg (fun z => y.elim z.1 z.2)]; exact rO
      · unfold isn
        rw [if_pos ⟨y1, y2⟩]; exact rO
  refine call_of rfl (Nat.le_of_ble_eq_true rfl) rfl (vM_isNumber_0 rfl ⟨fun q => b25 M (pf_rf M) ?_, fun q => vM_isNumber_21 rfl (nM_wants rd (by decide) (fun N pf rN => b25 N pf ?_)), fun q => vM_isNumber_21 rfl (nM_wants rd (by decide) (fun N pf rN => b25 N pf ?_))⟩)
  · rw [r16] at q
    rw [wts_f q]; exact rd
  · rw [r14] at q
    rw [if_neg q.2]; exact rN
  · rw [r14] at q
    rw [if_pos q.2]; exact rN
theorem nM_readNumber {M : Mm} {T : Nat → Int32} {t : Nat} {s : Rst} {lo hi : Int32} {K : Int32 → Mm → Prop} (rd : RD M T t s) (h : ∀ N, PF M N → RD N T t (nxs T t (isn lo hi s)) → K s.2.2.2.1 N) : CI mM_readNumber [.ref 6027, .int lo, .int hi] M K := by
  refine call_of rfl (Nat.le_of_ble_eq_true rfl) rfl (vM_readNumber_0 rfl (nM_isNumber rd (fun N pf rN => vM_readNumber_6 rfl (nM_next rN (fun O pf2 rO => vM_readNumber_15 ?_)))))
  have n15 := rN.2.2.2.2.1
  unfold isn at n15
  rw [wts_v, wts_v] at n15
  rw [n15]
  exact h O (pf_tr pf pf2) rO
