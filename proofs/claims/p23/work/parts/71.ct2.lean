/-! ===== the class's tokens as a state: kind, start, behind, number, fault, place ===== -/
abbrev Tst : Type := Int32 × Nat × Nat × Int32 × Int32 × Int32
def TD (M : Mm) (T : Nat → Int32) (t : Nat) (s : Tst) : Prop := TC M T t ∧ gi M 199 1 = s.1 ∧ gi M 199 2 = nI s.2.1 ∧ gi M 199 3 = nI s.2.2.1 ∧ gi M 199 4 = s.2.2.2.1 ∧ gi M 199 5 = s.2.2.2.2.1 ∧ gi M 199 6 = s.2.2.2.2.2 ∧ s.2.1 ≤ s.2.2.1 ∧ s.2.2.1 ≤ 400
/-- the tokens' own fields alone change -/
def PT (M N : Mm) : Prop := gr N = gr M ∧ gl N = gl M ∧ ∀ a, a ≠ 199 → gi N a = gi M a
theorem pt_rf (M : Mm) : PT M M := ⟨rfl, rfl, fun _ _ => rfl⟩
theorem pt_tr {M N O : Mm} (f : PT M N) (g : PT N O) : PT M O := ⟨g.1.trans f.1, g.2.1.trans f.2.1, fun a h => (g.2.2 a h).trans (f.2.2 a h)⟩
theorem pt_si {M : Mm} {k : Nat} {v : Int32} : PT M (si M 199 k v) := ⟨rfl, rfl, fun a h => gi_ne h⟩
theorem tc_pt {M N : Mm} {T : Nat → Int32} {t : Nat} (f : PT M N) (h : TC M T t) : TC N T t := by
  unfold TC
  rw [f.1, f.2.2 70 (by decide), f.2.2 145 (by decide)]
  exact h
theorem g1 (M : Mm) (k i : Nat) (v : Int32) (h : i ≠ k) : gi (si M 199 k v) 199 i = gi M 199 i := by rw [gi_si, if_neg (fun q => h q.2)]
theorem g1s (M : Mm) (k : Nat) (v : Int32) : gi (si M 199 k v) 199 k = v := by rw [gi_si, if_pos ⟨rfl, rfl⟩]
def tfl (c : Int32) (s : Tst) : Tst := if s.2.2.2.2.1 = 0 then (s.1, s.2.1, s.2.2.1, s.2.2.2.1, c, nI s.2.1) else s
section CT2
variable {M : Mm} {T : Nat → Int32} {t : Nat} {s : Tst}
theorem nTo_fail {c : Int32} {K : Int32 → Mm → Prop} (td : TD M T t s) (h : ∀ N, PT M N → TD N T t (tfl c s) → K (-1) N) : CI mTo_fail [.ref 199, .int c] M K := by
  have td0 := td
  obtain ⟨tc, t1, t2, t3, t4, t5, t6, b1, b2⟩ := td
  refine call_of rfl (Nat.le_of_ble_eq_true rfl) rfl (vTo_fail_0 rfl ⟨fun q => h M (pt_rf M) ?_, fun q => ?_⟩)
  · rw [t5] at q
    unfold tfl; rw [if_neg q]; exact td0
  · rw [t5] at q
    have pt : PT M (si (si M 199 5 c) 199 6 (gi (si M 199 5 c) 199 2)) := pt_tr pt_si pt_si
    refine h _ pt ?_
    unfold tfl; rw [if_pos q]
    have k : ∀ i, i ≠ 5 → i ≠ 6 → gi (si (si M 199 5 c) 199 6 (gi (si M 199 5 c) 199 2)) 199 i = gi M 199 i := fun i a b => by rw [g1 _ _ _ _ b, g1 _ _ _ _ a]
    refine ⟨tc_pt pt tc, (k 1 (by decide) (by decide)).trans t1, (k 2 (by decide) (by decide)).trans t2, (k 3 (by decide) (by decide)).trans t3, (k 4 (by decide) (by decide)).trans t4, ?_, ?_, b1, b2⟩
    · rw [g1 _ _ _ _ (by decide), g1s]
    · rw [g1s, g1 _ _ _ _ (by decide)]; exact t2
theorem nTo_failAt {c w : Int32} {K : Int32 → Mm → Prop} (td : TD M T t s) (h : ∀ N, PT M N → gi N 199 5 = (if s.2.2.2.2.1 = 0 then c else s.2.2.2.2.1) → gi N 199 6 = (if s.2.2.2.2.1 = 0 then w else s.2.2.2.2.2) → gi N 199 4 = s.2.2.2.1 → K (-1) N) : CI mTo_failAt [.ref 199, .int c, .int w] M K := by
  obtain ⟨tc, t1, t2, t3, t4, t5, t6, b1, b2⟩ := td
  have e5 : gi (si M 199 2 w) 199 5 = s.2.2.2.2.1 := by rw [g1 _ _ _ _ (by decide)]; exact t5
  refine call_of rfl (Nat.le_of_ble_eq_true rfl) rfl (vTo_failAt_0 rfl (call_of rfl (Nat.le_of_ble_eq_true rfl) rfl (vTo_fail_0 rfl ⟨fun q => vTo_failAt_10 (h _ pt_si ?_ ?_ ?_), fun q => vTo_failAt_10 (h _ (pt_tr pt_si (pt_tr pt_si pt_si)) ?_ ?_ ?_)⟩)))
  · rw [e5] at q
    rw [if_neg q]; exact e5
  · rw [e5] at q
    rw [if_neg q, g1 _ _ _ _ (by decide)]; exact t6
  · rw [g1 _ _ _ _ (by decide)]; exact t4
  · rw [e5] at q
    rw [if_pos q, g1 _ _ _ _ (by decide), g1s]
  · rw [e5] at q
    rw [if_pos q, g1s, g1 _ _ _ _ (by decide), g1s]
  · rw [g1 _ _ _ _ (by decide), g1 _ _ _ _ (by decide), g1 _ _ _ _ (by decide)]; exact t4
end CT2
def adv0 (T : Nat → Int32) (t : Nat) (s : Tst) : Tst :=
  if lk T t (nx1 T t s.2.2.1) < 0 then (1, nx1 T t s.2.2.1, nx1 T t s.2.2.1, s.2.2.2.1, s.2.2.2.2.1, s.2.2.2.2.2)
  else if isA (lk T t (nx1 T t s.2.2.1)) = true then (2, nx1 T t s.2.2.1, rn isA T t 401 (nx1 T t s.2.2.1), s.2.2.2.1, s.2.2.2.2.1, s.2.2.2.2.2)
  else if isF (lk T t (nx1 T t s.2.2.1)) = true then (if rn isF T t 401 (nx1 T t s.2.2.1) - nx1 T t s.2.2.1 ≤ 3 then 3 else 0, nx1 T t s.2.2.1, rn isF T t 401 (nx1 T t s.2.2.1), vlf T t (nx1 T t s.2.2.1) (min (rn isF T t 401 (nx1 T t s.2.2.1) - nx1 T t s.2.2.1) 3), s.2.2.2.2.1, s.2.2.2.2.2)
  else (if lk T t (nx1 T t s.2.2.1) = 45 then 4 else if lk T t (nx1 T t s.2.2.1) = 59 then 5 else 0, nx1 T t s.2.2.1, nx1 T t s.2.2.1 + 1, s.2.2.2.1, s.2.2.2.2.1, s.2.2.2.2.2)
def adv (T : Nat → Int32) (t : Nat) (s : Tst) : Tst := if (adv0 T t s).1 = 0 then tfl 1 (adv0 T t s) else adv0 T t s
/-- a place of the tape holds -1 or a byte -/
theorem lk_c {M : Mm} {T : Nat → Int32} {t : Nat} (tc : TC M T t) (p : Nat) : (lk T t p = -1 ∧ t ≤ p) ∨ (p < t ∧ ∃ n, n < 256 ∧ lk T t p = nI n) := by
  unfold lk
  by_cases l : t ≤ p
  · rw [if_pos l]; exact Or.inl ⟨rfl, l⟩
  · rw [if_neg l]
    obtain ⟨c, hc, e1, e2⟩ := tc.2.2.2.2 p (by have := tc.2.2.2.1; omega)
    exact Or.inr ⟨by omega, c, hc, e2⟩
section CT3
variable {M : Mm} {T : Nat → Int32} {t : Nat} {s : Tst}
theorem nTo_advance {K : Mm → Prop} (td : TD M T t s) (h : ∀ N, PT M N → TD N T t (adv T t s) → K N) : CV mTo_advance [.ref 199] M K := by
  obtain ⟨tc, t1, t2, t3, t4, t5, t6, b1, b2⟩ := td
  have ht := tc.2.2.2.1
  have b213 : ∀ N, PT M N → TD N T t (adv0 T t s) → X mTo_advance 213 [(0, .ref 199)] [] N (mC mTo_advance, mS mTo_advance) (QV K) := by
    intro N pt tN
    have n1 := tN.2.1
    refine vTo_advance_213 rfl ⟨fun q => h N pt ?_, fun q => nTo_fail tN (fun O pO tO => vTo_advance_225 (h O (pt_tr pt pO) ?_))⟩
    · rw [n1] at q
      unfold adv; rw [if_neg q]; exact tN
    · rw [n1] at q
      unfold adv; rw [if_pos q]; exact tO
  refine call_of rfl (Nat.le_of_ble_eq_true rfl) rfl (vTo_advance_0 rfl tc.1 ?_)
  rw [t3]
  refine sTa_behindAll (f := isB) tc fR_B (by omega) (vTo_advance_16 rfl rfl tc.1 ?_)
  show CI mTa_byteAt [.ref 70, .int _] _ _
  have e0 : rn isB T t 401 s.2.2.1 = nx1 T t s.2.2.1 := rfl
  rw [e0]
  have pge : s.2.2.1 ≤ nx1 T t s.2.2.1 := rn_ge _ _ _ _ _
  have ple : nx1 T t s.2.2.1 ≤ 400 := by
    by_cases l : s.2.2.1 ≤ t
    · exact Nat.le_trans (rn_le isB T t (by decide) 401 _ l) ht
    · have : nx1 T t s.2.2.1 = s.2.2.1 := by
        have e : lk T t s.2.2.1 = -1 := by rw [lk, if_pos (by omega)]
        unfold nx1
        rw [rn, e, if_neg (by decide)]
      omega
  generalize ep : nx1 T t s.2.2.1 = p at pge ple ⊢
  have eB : si (si M 199 2 (nI p)) 199 3 ((gi (si M 199 2 (nI p)) 199 2) + 1) = si (si M 199 2 (nI p)) 199 3 (nI (p + 1)) := by rw [g1s, nI_s]
  rw [eB]
  generalize eA : si (si M 199 2 (nI p)) 199 3 (nI (p + 1)) = A
  have pA : PT M A := by rw [← eA]; exact pt_tr pt_si pt_si
  have a2 : gi A 199 2 = nI p := by rw [← eA, g1 _ _ _ _ (by decide), g1s]
  have a3 : gi A 199 3 = nI (p + 1) := by rw [← eA, g1s]
  have a_ : ∀ i, i ≠ 2 → i ≠ 3 → gi A 199 i = gi M 199 i := fun i x y => by rw [← eA, g1 _ _ _ _ y, g1 _ _ _ _ x]
  have tA := tc_pt pA tc
  rw [a2]
  refine sTa_byteAt tA (by omega) ?_
  have mk : ∀ (N : Mm) (k : Int32) (b : Nat) (n : Int32), PT M N → gi N 199 1 = k → gi N 199 2 = nI p → gi N 199 3 = nI b → gi N 199 4 = n → gi N 199 5 = gi M 199 5 → gi N 199 6 = gi M 199 6 → p ≤ b → b ≤ 400 → adv0 T t s = (k, p, b, n, s.2.2.2.2.1, s.2.2.2.2.2) → TD N T t (adv0 T t s) := by
    intro N k b n pt n1 n2 n3 n4 n5 n6 l1 l2 e
    rw [e]
    exact ⟨tc_pt pt tc, n1, n2, n3, n4, n5.trans t5, n6.trans t6, l1, l2⟩
  rcases lk_c tc p with ⟨ec, lc⟩ | ⟨lc, c, hc, ec⟩
  · have ea : adv0 T t s = (1, p, p, s.2.2.2.1, s.2.2.2.2.1, s.2.2.2.2.2) := by unfold adv0; rw [ep, ec, if_pos (by decide)]
    rw [ec]
    refine vTo_advance_40 rfl tA.1 ⟨fun q => absurd q (by decide), fun q => absurd q (by decide), fun _ => b213 _ (pt_tr pA (pt_tr pt_si pt_si)) (mk _ _ _ _ (pt_tr pA (pt_tr pt_si pt_si)) ?_ ?_ ?_ ?_ ?_ ?_ (Nat.le_refl _) ple ea)⟩
    · rw [g1 _ _ _ _ (by decide), g1s]
    · rw [g1 _ _ _ _ (by decide), g1 _ _ _ _ (by decide), a2]
    · rw [g1s, g1 _ _ _ _ (by decide), a2]
    · rw [g1 _ _ _ _ (by decide), g1 _ _ _ _ (by decide), a_ _ (by decide) (by decide)]; exact t4
    · rw [g1 _ _ _ _ (by decide), g1 _ _ _ _ (by decide), a_ _ (by decide) (by decide)]
    · rw [g1 _ _ _ _ (by decide), g1 _ _ _ _ (by decide), a_ _ (by decide) (by decide)]
  · have c0 : ¬ lk T t p < 0 := by rw [ec]; exact n0 c (by omega)
    have c0' : (0 : Int32) ≤ lk T t p := by rw [ec]; exact nI_pos' (by omega)
    have lt1 : p ≤ t := by omega
    by_cases cA : isA (lk T t p) = true
    · have cA' : ¬ lk T t p < 97 ∧ ¬ 122 < lk T t p := of_decide_eq_true cA
      have ea : adv0 T t s = (2, p, rn isA T t 401 p, s.2.2.2.1, s.2.2.2.2.1, s.2.2.2.2.2) := by unfold adv0; rw [ep, if_neg c0, if_pos cA]
      have ql := rn_le isA T t (by decide) 401 p lt1
      refine vTo_advance_40 rfl tA.1 ⟨fun q => ?_, fun _ => ?_, fun q => absurd c0' q⟩
      · exfalso
        rcases q with q | q
        · exact cA'.1 q.2
        · exact cA'.2 q.2.2
      · rw [g1 _ _ _ _ (by decide), a2]
        refine sTa_behindAll (f := isA) (tc_pt (pt_tr pA pt_si) tc) fR_A (by omega) (vTo_advance_94 rfl (b213 _ (pt_tr pA (pt_tr pt_si pt_si)) (mk _ _ _ _ (pt_tr pA (pt_tr pt_si pt_si)) ?_ ?_ ?_ ?_ ?_ ?_ (rn_ge _ _ _ _ _) (by omega) ea)))
        · rw [g1 _ _ _ _ (by decide), g1s]
        · rw [g1 _ _ _ _ (by decide), g1 _ _ _ _ (by decide), a2]
        · rw [g1s]
        · rw [g1 _ _ _ _ (by decide), g1 _ _ _ _ (by decide), a_ _ (by decide) (by decide)]; exact t4
        · rw [g1 _ _ _ _ (by decide), g1 _ _ _ _ (by decide), a_ _ (by decide) (by decide)]
        · rw [g1 _ _ _ _ (by decide), g1 _ _ _ _ (by decide), a_ _ (by decide) (by decide)]
    · have cA' : ¬ (¬ lk T t p < 97 ∧ ¬ 122 < lk T t p) := fun z => cA (decide_eq_true z)
      refine vTo_advance_40 rfl tA.1 ⟨fun _ => ⟨fun q => ?_, fun q => ?_⟩, fun q => absurd q.2 cA', fun q => absurd c0' q⟩
      · have cF : ¬ isF (lk T t p) = true := fun z => by
          have z' : ¬ lk T t p < 48 ∧ ¬ 57 < lk T t p := of_decide_eq_true z
          exact q.elim z'.1 (fun q => z'.2 q.2)
        have ea : adv0 T t s = (if lk T t p = 45 then 4 else if lk T t p = 59 then 5 else 0, p, p + 1, s.2.2.2.1, s.2.2.2.2.1, s.2.2.2.2.2) := by unfold adv0; rw [ep, if_neg c0, if_neg cA, if_neg cF]
        have go : ∀ k, k = (if lk T t p = 45 then 4 else if lk T t p = 59 then 5 else 0) → X mTo_advance 213 [(0, .ref 199)] [] (si A 199 1 k) (mC mTo_advance, mS mTo_advance) (QV K) := by
          rintro k rfl
          refine b213 _ (pt_tr pA pt_si) (mk _ _ _ _ (pt_tr pA pt_si) (g1s _ _ _) ?_ ?_ ?_ ?_ ?_ (Nat.le_succ _) (by omega) ea)
          · rw [g1 _ _ _ _ (by decide), a2]
          · rw [g1 _ _ _ _ (by decide), a3]
          · rw [g1 _ _ _ _ (by decide), a_ _ (by decide) (by decide)]; exact t4
          · rw [g1 _ _ _ _ (by decide), a_ _ (by decide) (by decide)]
          · rw [g1 _ _ _ _ (by decide), a_ _ (by decide) (by decide)]
        refine ⟨fun r => vTo_advance_210 rfl (go 0 ?_), fun r => vTo_advance_210 rfl (go 5 ?_), fun r => go 4 ?_⟩
        · rw [if_neg r.1, if_neg r.2]
        · rw [if_neg r.1, if_pos r.2]
        · rw [if_pos r]
      · have cF : isF (lk T t p) = true := decide_eq_true q
        have ea : adv0 T t s = (if rn isF T t 401 p - p ≤ 3 then 3 else 0, p, rn isF T t 401 p, vlf T t p (min (rn isF T t 401 p - p) 3), s.2.2.2.2.1, s.2.2.2.2.2) := by unfold adv0; rw [ep, if_neg c0, if_neg cA, if_pos cF]
        have ql := rn_le isF T t (by decide) 401 p lt1
        have qg := rn_ge isF T t 401 p
        have hr := rn_in isF T t 401 p
        rw [a2]
        refine sTa_behindAll (f := isF) tA fR_F (by omega) (uTo_advance_128 rfl rfl tA.1 ?_)
        generalize rn isF T t 401 p = q' at ea ql qg hr ⊢
        rw [g1 _ _ _ _ (show (2 : Nat) ≠ 3 by decide), a2, g1s]
        have em : (if nI p + 3 < nI q' then nI p + 3 else nI q' : Int32) = nI (p + min (q' - p) 3) := by
          rw [show (3 : Int32) = nI 3 from rfl, nadd]
          by_cases l : p + 3 < q'
          · rw [if_pos ((nlt (by omega) (by omega)).mpr l), Nat.min_eq_right (by omega)]
          · rw [if_neg (fun z => l ((nlt (by omega) (by omega)).mp z)), Nat.min_eq_left (by omega)]
            congr 1; omega
        rw [em]
        have pB := pt_tr pA (pt_si (M := A) (k := 3) (v := nI q'))
        refine sTa_figures (tc_pt pB tc) (Nat.min_le_right _ _) (by have := Nat.min_le_left (q' - p) 3; omega) (fun k hk => hr k (by have := Nat.min_le_left (q' - p) 3; omega)) (vTo_advance_156 rfl rfl ?_)
        have e3 : ∀ v, gi (si (si A 199 3 (nI q')) 199 4 v) 199 3 = nI q' := fun v => by rw [g1 _ _ _ _ (by decide), g1s]
        have e2 : ∀ v, gi (si (si A 199 3 (nI q')) 199 4 v) 199 2 = nI p := fun v => by rw [g1 _ _ _ _ (by decide), g1 _ _ _ _ (by decide), a2]
        rw [e3, e2, nsub qg]
        have ek : (if nI (q' - p) ≤ 3 then 3 else 0 : Int32) = (if q' - p ≤ 3 then 3 else 0) := by
          have : (nI (q' - p) ≤ 3) ↔ q' - p ≤ 3 := nle (i := 3) (n := q' - p) (by decide) (by omega)
          by_cases l : q' - p ≤ 3
          · rw [if_pos l, if_pos (this.mpr l)]
          · rw [if_neg l, if_neg (fun z => l (this.mp z))]
        rw [ek]
        refine b213 _ (pt_tr pB (pt_tr pt_si pt_si)) (mk _ _ _ _ (pt_tr pB (pt_tr pt_si pt_si)) (g1s _ _ _) ?_ ?_ ?_ ?_ ?_ qg (by omega) ea)
        · rw [g1 _ _ _ _ (by decide), e2]
        · rw [g1 _ _ _ _ (by decide), e3]
        · rw [g1 _ _ _ _ (by decide), g1s]
        · rw [g1 _ _ _ _ (by decide), g1 _ _ _ _ (by decide), g1 _ _ _ _ (by decide), a_ _ (by decide) (by decide)]
        · rw [g1 _ _ _ _ (by decide), g1 _ _ _ _ (by decide), g1 _ _ _ _ (by decide), a_ _ (by decide) (by decide)]
end CT3
