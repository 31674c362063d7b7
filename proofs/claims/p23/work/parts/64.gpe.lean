/-! ===== the reference: rule ===== -/
def row (k : Int32) : Int32 := if k = 12 then 0 else (if k = 11 then 1 else (if k = 13 then 2 else (if k = 14 then 3 else (if k = 15 then 4 else (if k = 16 then 5 else (if k = 17 then 6 else (-4) : Int32) : Int32) : Int32) : Int32) : Int32) : Int32)
theorem row_c (k : Int32) : row k = -4 ∨ (k = 12 ∧ row k = nI 0) ∨ (k = 11 ∧ row k = nI 1) ∨ (k = 13 ∧ row k = nI 2) ∨ (k = 14 ∧ row k = nI 3) ∨ (k = 15 ∧ row k = nI 4) ∨ (k = 16 ∧ row k = nI 5) ∨ (k = 17 ∧ row k = nI 6) := by
  by_cases h12 : k = 12
  · subst h12; exact Or.inr (Or.inl ⟨rfl, rfl⟩)
  by_cases h11 : k = 11
  · subst h11; exact Or.inr (Or.inr (Or.inl ⟨rfl, rfl⟩))
  by_cases h13 : k = 13
  · subst h13; exact Or.inr (Or.inr (Or.inr (Or.inl ⟨rfl, rfl⟩)))
  by_cases h14 : k = 14
  · subst h14; exact Or.inr (Or.inr (Or.inr (Or.inr (Or.inl ⟨rfl, rfl⟩))))
  by_cases h15 : k = 15
  · subst h15; exact Or.inr (Or.inr (Or.inr (Or.inr (Or.inr (Or.inl ⟨rfl, rfl⟩)))))
  by_cases h16 : k = 16
  · subst h16; exact Or.inr (Or.inr (Or.inr (Or.inr (Or.inr (Or.inr (Or.inl ⟨rfl, rfl⟩))))))
  by_cases h17 : k = 17
  · subst h17; exact Or.inr (Or.inr (Or.inr (Or.inr (Or.inr (Or.inr (Or.inr ⟨rfl, rfl⟩))))))
  · left; unfold row; rw [if_neg h12, if_neg h11, if_neg h13, if_neg h14, if_neg h15, if_neg h16, if_neg h17]
section GPE
variable (T : Nat → Int32) (t : Nat) (tl : Nat → Int32) (s : Rst)
/-- a line of a rule: the state behind its name, behind what it tells, behind its end; what it tells -/
def ru1 : Rst := nxs T t (wts (if tl (row (lnk T t s)).toNatClampNeg = 0 then 1 else 0) 4 (wts (if row (lnk T t s) = -4 then 0 else 1) 2 s))
def ru2 : Rst := if lnk T t s = 12 then rms T t (ru1 T t tl s) else if lnk T t s = 11 then nxs T t (isn 0 9 (ru1 T t tl s)) else if lnk T t s = 13 then ru1 T t tl s else if lnk T t s = 14 then oos T t 20 18 19 (ru1 T t tl s) else if lnk T t s = 15 then rds T t (ru1 T t tl s) else if lnk T t s = 16 then oos T t 22 23 24 (ru1 T t tl s) else oos T t 20 18 21 (ru1 T t tl s)
def ruv : Int32 := if lnk T t s = 12 then rmv T t (ru1 T t tl s) else if lnk T t s = 11 then (ru1 T t tl s).2.2.2.1 else if lnk T t s = 13 then 1 else if lnk T t s = 14 then (if nmk T t (ru1 T t tl s) = 20 then 0 else if nmk T t (ru1 T t tl s) = 18 then 1 else 2) else if lnk T t s = 15 then rdv T t (ru1 T t tl s) else if lnk T t s = 16 then (if nmk T t (ru1 T t tl s) = 22 then 1 else if nmk T t (ru1 T t tl s) = 23 then 0 else -4) else (if nmk T t (ru1 T t tl s) = 20 then 0 else if nmk T t (ru1 T t tl s) = 18 then 1 else 2)
def ru3 : Rst := eln T t (ru2 T t tl s)
end GPE
section GPE2
variable {T : Nat → Int32} {t : Nat} {tl : Nat → Int32} {s : Rst}
theorem go_ru1 : GO s (ru1 T t tl s) := by unfold ru1; exact ge_go (ge_tr (ge_wts (by decide)) (ge_wts (by decide))) go_nxs
theorem go_ru2 : GO s (ru2 T t tl s) := by
  unfold ru2
  split
  · exact ge_go (go_ge go_ru1) go_rms
  split
  · exact ge_go (go_ge go_ru1) go_rn
  split
  · exact go_ru1
  split
  · exact ge_go (go_ge go_ru1) go_oos
  split
  · exact ge_go (go_ge go_ru1) go_rds
  split
  · exact ge_go (go_ge go_ru1) go_oos
  · exact ge_go (go_ge go_ru1) go_oos
theorem go_ru3 (h : (ru3 T t tl s).2.2.2.2.1 = 0) : s.2.1 < (ru3 T t tl s).2.1 := by
  unfold ru3 at h ⊢
  obtain ⟨a, b⟩ := eln_ok h
  exact Nat.lt_of_lt_of_le ((go_ru2.2 b).2 (by rw [a]; decide)) ge_eln.1
end GPE2
/-- what a rule's line may change -/
def PR (M N : Mm) : Prop := gr N = gr M ∧ gl N = gl M ∧ (∀ a, ¬ (a = 6027 ∨ a = 6671 ∨ a = 6745) → gi N a = gi M a) ∧ ∀ k, ¬ (12 ≤ k ∧ k ≤ 17) → gi N 6027 k = gi M 6027 k
theorem pr_pf {M N : Mm} (f : PF M N) : PR M N := ⟨f.1, f.2.1, fun a h => f.2.2.1 a (fun e => h (by omega)), f.2.2.2⟩
theorem pr_tr {M N O : Mm} (f : PR M N) (g : PR N O) : PR M O := ⟨g.1.trans f.1, g.2.1.trans f.2.1, fun a h => (g.2.2.1 a h).trans (f.2.2.1 a h), fun k h => (g.2.2.2 k h).trans (f.2.2.2 k h)⟩
theorem pr_si {M : Mm} {a j : Nat} {v : Int32} (h : a = 6671 ∨ a = 6745) : PR M (si M a j v) := by
  refine ⟨rfl, rfl, fun b n => gi_ne (fun e => n (by omega)), fun k n => ?_⟩
  rw [gi_si, if_neg (fun e => by omega)]
theorem nM_readRule {M : Mm} {T : Nat → Int32} {t : Nat} {s : Rst} {K : Mm → Prop} (rd : RD M T t s) (z0 : s.2.2.2.2.1 = 0)
    (hF : ∀ N u, PR M N → RD N T t u → ¬ u.2.2.2.2.1 = 0 → (row (lnk T t s) = -4 → u = wts (if row (lnk T t s) = -4 then 0 else 1) 2 s) → (¬ row (lnk T t s) = -4 → u = ru3 T t (gi M 6745) s) → K N)
    (hG : ∀ N O P i, row (lnk T t s) = nI i → i < 7 → PF M N → PF (si N 6745 i 1) O → PF (si O 6671 i (ruv T t (gi M 6745) s)) P → RD P T t (ru3 T t (gi M 6745) s) → (ru3 T t (gi M 6745) s).2.2.2.2.1 = 0 → K P) : CV mM_readRule [.ref 6027] M K := by
  have r14 := rd.2.2.2.1
  have b17 : X mM_readRule 17 [(0, .ref 6027)] [.int (lnk T t s)] M (mC mM_readRule, mS mM_readRule) (QV K) := by
    refine vM_readRule_17 (call_of rfl (Nat.le_of_ble_eq_true rfl) rfl (vM_rowOf_0 (vM_readRule_22 rfl (nM_wants rd (by decide) (fun N pf rN => ?_)))))
    have n16 := rN.2.2.2.2.2.1
    have mN := rN.1.1
    have g6745 : gi N 6745 = gi M 6745 := pf.2.2.1 6745 (by decide)
    show X mM_readRule 39 [(0, .ref 6027), (1, .int (lnk T t s)), (2, .int (row (lnk T t s)))] [] N (mC mM_readRule, mS mM_readRule) (QV K)
    have rN' : RD N T t (wts (if row (lnk T t s) = -4 then 0 else 1) 2 s) := rN
    have n16' : gi N 6027 16 = (wts (if row (lnk T t s) = -4 then 0 else 1) 2 s).2.2.2.2.1 := n16
    clear rN n16
    by_cases r4 : row (lnk T t s) = -4
    · have e : (wts (if row (lnk T t s) = -4 then 0 else 1) 2 s).2.2.2.2.1 = 2 := by rw [if_pos r4]; unfold wts; rw [if_pos ⟨rfl, z0⟩]
      have nl : ¬ gi N 6027 16 ≤ 0 := by rw [n16', e]; decide
      exact vM_readRule_39 rfl (mr21 mN) ⟨fun q => absurd q nl, fun q => absurd q.1 nl, fun q => absurd q.1 nl, fun _ => hF N _ (pr_pf pf) rN' (by rw [e]; decide) (fun _ => rfl) (fun q => absurd r4 q)⟩
    · obtain ⟨i, hi, ei⟩ : ∃ i, i < 7 ∧ row (lnk T t s) = nI i := by
        rcases row_c (lnk T t s) with q | ⟨-, q⟩ | ⟨-, q⟩ | ⟨-, q⟩ | ⟨-, q⟩ | ⟨-, q⟩ | ⟨-, q⟩ | ⟨-, q⟩
        · exact absurd q r4
        · exact ⟨0, by decide, q⟩
        · exact ⟨1, by decide, q⟩
        · exact ⟨2, by decide, q⟩
        · exact ⟨3, by decide, q⟩
        · exact ⟨4, by decide, q⟩
        · exact ⟨5, by decide, q⟩
        · exact ⟨6, by decide, q⟩
      have hc : ∀ j, row (lnk T t s) = nI j → j < 7 → i = j := fun j e hj => (ninj (by omega) (by omega)).mp (ei.symm.trans e)
      have e0 : (wts (if row (lnk T t s) = -4 then 0 else 1) 2 s) = s := by
        unfold wts; rw [if_neg (fun q => absurd (show (1 : Int32) = 0 from by have := q.1; rwa [if_neg r4] at this) (by decide))]
      have le0 : gi N 6027 16 ≤ 0 := by rw [n16', e0, z0]; exact Int32.le_refl _
      have b66 : ∀ O, PF M O → RD O T t (wts (if gi M 6745 i = 0 then 1 else 0) 4 (wts (if row (lnk T t s) = -4 then 0 else 1) 2 s)) → X mM_readRule 66 [(0, .ref 6027), (1, .int (lnk T t s)), (2, .int (row (lnk T t s)))] [] O (mC mM_readRule, mS mM_readRule) (QV K) := by
        intro O pO rO
        rw [ei]
        refine vM_readRule_66 rfl (mr21 rO.1.1) ⟨vin hi (by decide), ?_⟩
        rw [ncl (by omega), show vp_nar .boolean 1 = 1 from rfl]
        refine nM_next (rd_si (by decide) (by decide) rO) (fun P pP rP => ?_)
        have rP' : RD P T t (ru1 T t (gi M 6745) s) := by unfold ru1; rw [ei, ncl (by omega)]; rw [ei] at rP; exact rP
        have b192 : ∀ Q v, PF P Q → RD Q T t (ru2 T t (gi M 6745) s) → v = ruv T t (gi M 6745) s → X mM_readRule 192 [(0, .ref 6027)] [.int v, .int (nI i), .ref 6671] Q (mC mM_readRule, mS mM_readRule) (QV K) := by
          intro Q v pQ rQ hv
          refine vM_readRule_192 rfl rfl ⟨vin hi (by decide), ?_⟩
          rw [ncl (by omega), hv]
          refine nM_endLine (rd_si (by decide) (by decide) rQ) (fun S pS rS => vM_readRule_197 ?_)
          have rS' : RD S T t (ru3 T t (gi M 6745) s) := by unfold ru3; exact rS
          by_cases z : (ru3 T t (gi M 6745) s).2.2.2.2.1 = 0
          · exact hG O Q S i ei hi pO (pf_tr pP pQ) pS rS' z
          · exact hF S _ (pr_tr (pr_pf pO) (pr_tr (pr_si (Or.inr rfl)) (pr_tr (pr_pf (pf_tr pP pQ)) (pr_tr (pr_si (Or.inl rfl)) (pr_pf pS))))) rS' z (fun q => absurd q r4) (fun _ => rfl)
        refine vM_readRule_77 rfl (mr20 rP.1.1) ⟨fun q => ?_, fun q => ?_, fun q => ?_, fun q => ?_, fun q => ?_, fun q => ?_, fun q => ?_⟩
        · refine nM_oneOf rP' (fun Q pQ rQ => b192 Q _ pQ ?_ ?_)
          · unfold ru2; rw [if_neg q.1, if_neg q.2.1, if_neg q.2.2.1, if_neg q.2.2.2.1, if_neg q.2.2.2.2.1, if_neg q.2.2.2.2.2]; exact rQ
          · unfold ruv; rw [if_neg q.1, if_neg q.2.1, if_neg q.2.2.1, if_neg q.2.2.2.1, if_neg q.2.2.2.2.1, if_neg q.2.2.2.2.2]
        · refine nM_oneOf rP' (fun Q pQ rQ => vM_readRule_176 (b192 Q _ pQ ?_ ?_))
          · unfold ru2; rw [if_neg q.1, if_neg q.2.1, if_neg q.2.2.1, if_neg q.2.2.2.1, if_neg q.2.2.2.2.1, if_pos q.2.2.2.2.2]; exact rQ
          · unfold ruv; rw [if_neg q.1, if_neg q.2.1, if_neg q.2.2.1, if_neg q.2.2.2.1, if_neg q.2.2.2.2.1, if_pos q.2.2.2.2.2]
        · refine nM_readDoctor rP' (fun Q pQ rQ => vM_readRule_153 (b192 Q _ pQ ?_ ?_))
          · unfold ru2; rw [if_neg q.1, if_neg q.2.1, if_neg q.2.2.1, if_neg q.2.2.2.1, if_pos q.2.2.2.2]; exact rQ
          · unfold ruv; rw [if_neg q.1, if_neg q.2.1, if_neg q.2.2.1, if_neg q.2.2.2.1, if_pos q.2.2.2.2]
        · refine nM_oneOf rP' (fun Q pQ rQ => vM_readRule_140 (b192 Q _ pQ ?_ ?_))
          · unfold ru2; rw [if_neg q.1, if_neg q.2.1, if_neg q.2.2.1, if_pos q.2.2.2]; exact rQ
          · unfold ruv; rw [if_neg q.1, if_neg q.2.1, if_neg q.2.2.1, if_pos q.2.2.2]
        · refine b192 P 1 (pf_rf P) ?_ ?_
          · unfold ru2; rw [if_neg q.1, if_neg q.2.1, if_pos q.2.2]; exact rP'
          · unfold ruv; rw [if_neg q.1, if_neg q.2.1, if_pos q.2.2]
        · refine nM_readNumber rP' (fun Q pQ rQ => vM_readRule_108 (b192 Q _ pQ ?_ ?_))
          · unfold ru2; rw [if_neg q.1, if_pos q.2]; exact rQ
          · unfold ruv; rw [if_neg q.1, if_pos q.2]
        · refine nM_readMain rP' (fun Q pQ rQ => vM_readRule_92 (b192 Q _ pQ ?_ ?_))
          · unfold ru2; rw [if_pos q]; exact rQ
          · unfold ruv; rw [if_pos q]
      have cc : (row (lnk T t s)).toNatClampNeg = i := by rw [ei]; exact ncl (by omega)
      refine vM_readRule_39 rfl (mr21 mN) ⟨fun _ => by rw [ei]; exact vin hi (by decide), fun q => vM_readRule_62 rfl (nM_wants rN' (by decide) (fun O pO rO => b66 O (pf_tr pf pO) ?_)), fun q => vM_readRule_62 rfl (nM_wants rN' (by decide) (fun O pO rO => b66 O (pf_tr pf pO) ?_)), fun q => absurd le0 q⟩
      · rw [cc, g6745] at q
        rw [if_neg q.2]; exact rO
      · rw [cc, g6745] at q
        rw [if_pos q.2]; exact rO
  refine call_of rfl (Nat.le_of_ble_eq_true rfl) rfl (vM_readRule_0 rfl ⟨fun q => ?_, fun q => sM_nameNow (rs_rd rd) (vM_readRule_12 ?_)⟩)
  · rw [r14] at q
    have e : lnk T t s = -4 := by unfold lnk; rw [if_neg q]
    rw [e] at b17; exact b17
  · rw [r14] at q
    have e : lnk T t s = nmv T t s.1 s.2.1 := by unfold lnk; rw [if_pos q]
    rw [e] at b17; exact b17
theorem rds_ok {T : Nat → Int32} {t : Nat} {s : Rst} (h : (rds T t s).2.2.2.2.1 = 0) : nI (s.2.1 - s.1) = 1 ∧ ¬ rdv T t s < 0 ∧ ¬ 7 < rdv T t s ∧ s.2.2.1 = 1 ∧ s.2.2.2.2.1 = 0 := by
  unfold rds at h
  obtain ⟨a, b, -⟩ := wts_ok (by decide) (nxs_ok h)
  unfold nam at b
  obtain ⟨c, d, -⟩ := wts_ok (by decide) b
  have a' := ite1 a
  have c' := ite1 c
  exact ⟨a'.1, a'.2.1, a'.2.2, c', d⟩
/-- what rule may change: the rule, if it is told well -/
def NR (M N : Mm) : Prop := gr N = gr M ∧ gl N = gl M ∧ (∀ a, ¬ (a = 6027 ∨ a = 6671 ∨ a = 6745 ∨ a = 6543) → gi N a = gi M a) ∧ ∀ k, ¬ (11 ≤ k ∧ k ≤ 17) → gi N 6027 k = gi M 6027 k