/-! ===== the reference's reader: names ===== -/
/-- the reader stands: its token from f up to p -/
def RS (M : Mm) (T : Nat → Int32) (t f p : Nat) : Prop := TP M T t ∧ gi M 6027 13 = nI f ∧ gi M 6027 12 = nI p ∧ f ≤ p ∧ p ≤ 400
def isv (T : Nat → Int32) (t f p : Nat) (n a b c d : Int32) : Bool := decide (nI (p - f) = n ∧ lk T t f = a ∧ lk T t (f + 1) = b ∧ (n < 3 ∨ lk T t (f + 2) = c) ∧ (n < 4 ∨ lk T t (f + 3) = d))
def gov (T : Nat → Int32) (t f k : Nat) (a b c : Int32) : Bool := decide (lk T t (f + k) = a ∧ (b = 0 ∨ lk T t (f + k + 1) = b) ∧ (c = 0 ∨ lk T t (f + k + 2) = c))
theorem nI_ad (a k : Nat) : nI a + nI k = nI (a + k) := by
  show Int32.ofNat _ + Int32.ofNat _ = Int32.ofNat _
  rw [Int32.ofNat_add]
section GP3
variable {M : Mm} {T : Nat → Int32} {t f p : Nat} {K : Int32 → Mm → Prop}
theorem sM_is {n a b c d : Int32} (rs : RS M T t f p) (h0 : isv T t f p n a b c d = false → K 0 M) (h1 : isv T t f p n a b c d = true → K 1 M) : CI mM_is [.ref 6027, .int n, .int a, .int b, .int c, .int d] M K := by
  obtain ⟨tp, r13, r12, r1, r2⟩ := rs
  have e1 : nI f + 1 = nI (f + 1) := nI_ad f 1
  have e2 : nI f + 2 = nI (f + 2) := nI_ad f 2
  have e3 : nI f + 3 = nI (f + 3) := nI_ad f 3
  have no : ¬ (nI (p - f) = n ∧ lk T t f = a ∧ lk T t (f + 1) = b ∧ (n < 3 ∨ lk T t (f + 2) = c) ∧ (n < 4 ∨ lk T t (f + 3) = d)) → K 0 M := fun q => h0 (decide_eq_false q)
  have yes : (nI (p - f) = n ∧ lk T t f = a ∧ lk T t (f + 1) = b ∧ (n < 3 ∨ lk T t (f + 2) = c) ∧ (n < 4 ∨ lk T t (f + 3) = d)) → K 1 M := fun q => h1 (decide_eq_true q)
  refine call_of rfl (Nat.le_of_ble_eq_true rfl) rfl (vM_is_0 rfl ?_)
  rw [r13, r12, nsub r1]
  refine ⟨fun q => no (fun z => q z.1), fun q1 => sM_look tp (by omega) (vM_is_21 rfl ⟨fun q => no (fun z => q z.2.1), fun q2 => ?_⟩)⟩
  rw [r13, e1]
  have b59 : (n < 3 ∨ lk T t (f + 2) = c) → lk T t (f + 1) = b → X mM_is 59 [(0, .ref 6027), (1, .int n), (5, .int d)] [] M (mC mM_is, mS mM_is) (QI K) := by
    intro q4 q3
    refine vM_is_59 rfl ⟨fun z => yes ⟨q1, q2, q3, q4, Or.inl z⟩, fun z => ?_⟩
    rw [r13, e3]
    exact sM_look tp (by omega) (vM_is_74 ⟨fun q => no (fun y => q (y.2.2.2.2.resolve_left z)), fun q => yes ⟨q1, q2, q3, q4, Or.inr q⟩⟩)
  refine sM_look tp (by omega) (vM_is_35 rfl ⟨fun q => no (fun z => q z.2.2.1), fun q3 => b59 (Or.inl q3.2) q3.1, fun q3 => ?_⟩)
  rw [r13, e2]
  exact sM_look tp (by omega) (vM_is_54 ⟨fun q => no (fun z => q (z.2.2.2.1.resolve_left q3.2)), fun q => b59 (Or.inr q) q3.1⟩)
theorem sM_goesOn {k : Nat} {kk a b c : Int32} (hk : kk = nI k) (hk2 : k < 10) (rs : RS M T t f p) (h0 : gov T t f k a b c = false → K 0 M) (h1 : gov T t f k a b c = true → K 1 M) : CI mM_goesOn [.ref 6027, .int kk, .int a, .int b, .int c] M K := by
  subst hk
  obtain ⟨tp, r13, r12, r1, r2⟩ := rs
  have e0 : nI f + nI k = nI (f + k) := nI_ad f k
  have e1 : nI (f + k) + 1 = nI (f + k + 1) := nI_ad _ 1
  have e2 : nI (f + k) + 2 = nI (f + k + 2) := nI_ad _ 2
  have no : ¬ (lk T t (f + k) = a ∧ (b = 0 ∨ lk T t (f + k + 1) = b) ∧ (c = 0 ∨ lk T t (f + k + 2) = c)) → K 0 M := fun q => h0 (decide_eq_false q)
  have yes : (lk T t (f + k) = a ∧ (b = 0 ∨ lk T t (f + k + 1) = b) ∧ (c = 0 ∨ lk T t (f + k + 2) = c)) → K 1 M := fun q => h1 (decide_eq_true q)
  refine call_of rfl (Nat.le_of_ble_eq_true rfl) rfl (vM_goesOn_0 rfl ?_)
  rw [r13, e0]
  have b34 : lk T t (f + k) = a → (b = 0 ∨ lk T t (f + k + 1) = b) → X mM_goesOn 34 [(0, .ref 6027), (1, .int (nI k)), (4, .int c)] [] M (mC mM_goesOn, mS mM_goesOn) (QI K) := by
    intro q1 q2
    refine vM_goesOn_34 rfl ⟨fun z => yes ⟨q1, q2, Or.inl z⟩, fun z => ?_⟩
    rw [r13, e0, e2]
    exact sM_look tp (by omega) (vM_goesOn_51 ⟨fun q => no (fun y => q (y.2.2.resolve_left z)), fun q => yes ⟨q1, q2, Or.inr q⟩⟩)
  refine sM_look tp (by omega) (vM_goesOn_10 rfl ⟨fun q => no (fun z => q z.1), fun q => b34 q.1 (Or.inl q.2), fun q1 => ?_⟩)
  rw [r13, e0, e1]
  exact sM_look tp (by omega) (vM_goesOn_30 ⟨fun q => no (fun z => q (z.2.1.resolve_left q1.2)), fun q => b34 q1.1 (Or.inr q)⟩)
def rnv (T : Nat → Int32) (t f p : Nat) : Int32 := if isv T t f p 4 109 97 105 110 = true then 12 else if (isv T t f p 5 110 111 116 101 && gov T t f 4 115 0 0) = true then 13 else if isv T t f p 3 116 119 111 0 = true then 14 else if isv T t f p 4 104 101 97 100 = true then 15 else if (isv T t f p 6 115 105 108 101 && gov T t f 4 110 116 0) = true then 16 else if isv T t f p 4 108 97 119 115 = true then 17 else if (isv T t f p 5 108 97 116 101 && gov T t f 4 114 0 0) = true then 18 else if (isv T t f p 7 115 112 101 99 && gov T t f 4 105 97 108) = true then 19 else if isv T t f p 4 110 111 110 101 = true then 20 else if (isv T t f p 5 102 105 114 115 && gov T t f 4 116 0 0) = true then 21 else if isv T t f p 3 121 101 115 0 = true then 22 else if isv T t f p 2 110 111 0 0 = true then 23 else if isv T t f p 4 111 112 101 110 = true then 24 else -4
theorem sM_ruleNameNow (rs : RS M T t f p) (h : K (rnv T t f p) M) : CI mM_ruleNameNow [.ref 6027] M K := by
  unfold rnv at h
  refine call_of rfl (Nat.le_of_ble_eq_true rfl) rfl (vM_ruleNameNow_0 rfl ?_)
  refine sM_is rs (fun q => vM_ruleNameNow_13 rfl ⟨fun _ => ?_, fun z => absurd rfl z⟩) (fun q => vM_ruleNameNow_13 rfl ⟨fun z => absurd z (by decide), fun _ => by rwa [if_pos q] at h⟩)
  rw [if_neg (by rw [q]; decide)] at h
  have b50 : (isv T t f p 5 110 111 116 101 && gov T t f 4 115 0 0) = false → X mM_ruleNameNow 50 [(0, .ref 6027)] [] M (mC mM_ruleNameNow, mS mM_ruleNameNow) (QI K) := by
    intro q
    rw [if_neg (by rw [q]; decide)] at h
    refine vM_ruleNameNow_50 rfl ?_
    refine sM_is rs (fun q => vM_ruleNameNow_62 rfl ⟨fun _ => ?_, fun z => absurd rfl z⟩) (fun q => vM_ruleNameNow_62 rfl ⟨fun z => absurd z (by decide), fun _ => by rwa [if_pos q] at h⟩)
    rw [if_neg (by rw [q]; decide)] at h
    refine sM_is rs (fun q => vM_ruleNameNow_81 rfl ⟨fun _ => ?_, fun z => absurd rfl z⟩) (fun q => vM_ruleNameNow_81 rfl ⟨fun z => absurd z (by decide), fun _ => by rwa [if_pos q] at h⟩)
    rw [if_neg (by rw [q]; decide)] at h
    have b120 : (isv T t f p 6 115 105 108 101 && gov T t f 4 110 116 0) = false → X mM_ruleNameNow 120 [(0, .ref 6027)] [] M (mC mM_ruleNameNow, mS mM_ruleNameNow) (QI K) := by
      intro q
      rw [if_neg (by rw [q]; decide)] at h
      refine vM_ruleNameNow_120 rfl ?_
      refine sM_is rs (fun q => vM_ruleNameNow_133 rfl ⟨fun _ => ?_, fun z => absurd rfl z⟩) (fun q => vM_ruleNameNow_133 rfl ⟨fun z => absurd z (by decide), fun _ => by rwa [if_pos q] at h⟩)
      rw [if_neg (by rw [q]; decide)] at h
      have b170 : (isv T t f p 5 108 97 116 101 && gov T t f 4 114 0 0) = false → X mM_ruleNameNow 170 [(0, .ref 6027)] [] M (mC mM_ruleNameNow, mS mM_ruleNameNow) (QI K) := by
        intro q
        rw [if_neg (by rw [q]; decide)] at h
        refine vM_ruleNameNow_170 rfl ?_
        have b204 : (isv T t f p 7 115 112 101 99 && gov T t f 4 105 97 108) = false → X mM_ruleNameNow 204 [(0, .ref 6027)] [] M (mC mM_ruleNameNow, mS mM_ruleNameNow) (QI K) := by
          intro q
          rw [if_neg (by rw [q]; decide)] at h
          refine vM_ruleNameNow_204 rfl ?_
          refine sM_is rs (fun q => vM_ruleNameNow_217 rfl ⟨fun _ => ?_, fun z => absurd rfl z⟩) (fun q => vM_ruleNameNow_217 rfl ⟨fun z => absurd z (by decide), fun _ => by rwa [if_pos q] at h⟩)
          rw [if_neg (by rw [q]; decide)] at h
          have b254 : (isv T t f p 5 102 105 114 115 && gov T t f 4 116 0 0) = false → X mM_ruleNameNow 254 [(0, .ref 6027)] [] M (mC mM_ruleNameNow, mS mM_ruleNameNow) (QI K) := by
            intro q
            rw [if_neg (by rw [q]; decide)] at h
            refine vM_ruleNameNow_254 rfl ?_
            refine sM_is rs (fun q => vM_ruleNameNow_266 rfl ⟨fun _ => ?_, fun z => absurd rfl z⟩) (fun q => vM_ruleNameNow_266 rfl ⟨fun z => absurd z (by decide), fun _ => by rwa [if_pos q] at h⟩)
            rw [if_neg (by rw [q]; decide)] at h
            refine sM_is rs (fun q => vM_ruleNameNow_285 rfl ⟨fun _ => ?_, fun z => absurd rfl z⟩) (fun q => vM_ruleNameNow_285 rfl ⟨fun z => absurd z (by decide), fun _ => by rwa [if_pos q] at h⟩)
            rw [if_neg (by rw [q]; decide)] at h
            exact sM_is rs (fun q => vM_ruleNameNow_306 (by rw [if_pos rfl]; rwa [if_neg (by rw [q]; decide)] at h)) (fun q => vM_ruleNameNow_306 (by rw [if_neg (by decide)]; rwa [if_pos q] at h))
          exact sM_is rs (fun q => vM_ruleNameNow_236 rfl ⟨fun _ => b254 (by rw [q, Bool.false_and]), fun z => absurd rfl z⟩) (fun q => vM_ruleNameNow_236 rfl ⟨fun z => absurd z (by decide), fun _ => sM_goesOn (k := 4) rfl (by decide) rs (fun q2 => vM_ruleNameNow_248 ⟨fun _ => b254 (by rw [q2, Bool.and_false]), fun z => absurd rfl z⟩) (fun q2 => vM_ruleNameNow_248 ⟨fun z => absurd z (by decide), fun _ => by rwa [if_pos (by rw [q, q2]; rfl)] at h⟩)⟩)
        exact sM_is rs (fun q => vM_ruleNameNow_184 rfl ⟨fun _ => b204 (by rw [q, Bool.false_and]), fun z => absurd rfl z⟩) (fun q => vM_ruleNameNow_184 rfl ⟨fun z => absurd z (by decide), fun _ => sM_goesOn (k := 4) rfl (by decide) rs (fun q2 => vM_ruleNameNow_198 ⟨fun _ => b204 (by rw [q2, Bool.and_false]), fun z => absurd rfl z⟩) (fun q2 => vM_ruleNameNow_198 ⟨fun z => absurd z (by decide), fun _ => by rwa [if_pos (by rw [q, q2]; rfl)] at h⟩)⟩)
      exact sM_is rs (fun q => vM_ruleNameNow_152 rfl ⟨fun _ => b170 (by rw [q, Bool.false_and]), fun z => absurd rfl z⟩) (fun q => vM_ruleNameNow_152 rfl ⟨fun z => absurd z (by decide), fun _ => sM_goesOn (k := 4) rfl (by decide) rs (fun q2 => vM_ruleNameNow_164 ⟨fun _ => b170 (by rw [q2, Bool.and_false]), fun z => absurd rfl z⟩) (fun q2 => vM_ruleNameNow_164 ⟨fun z => absurd z (by decide), fun _ => by rwa [if_pos (by rw [q, q2]; rfl)] at h⟩)⟩)
    exact sM_is rs (fun q => vM_ruleNameNow_101 rfl ⟨fun _ => b120 (by rw [q, Bool.false_and]), fun z => absurd rfl z⟩) (fun q => vM_ruleNameNow_101 rfl ⟨fun z => absurd z (by decide), fun _ => sM_goesOn (k := 4) rfl (by decide) rs (fun q2 => vM_ruleNameNow_114 ⟨fun _ => b120 (by rw [q2, Bool.and_false]), fun z => absurd rfl z⟩) (fun q2 => vM_ruleNameNow_114 ⟨fun z => absurd z (by decide), fun _ => by rwa [if_pos (by rw [q, q2]; rfl)] at h⟩)⟩)
  exact sM_is rs (fun q => vM_ruleNameNow_32 rfl ⟨fun _ => b50 (by rw [q, Bool.false_and]), fun z => absurd rfl z⟩) (fun q => vM_ruleNameNow_32 rfl ⟨fun z => absurd z (by decide), fun _ => sM_goesOn (k := 4) rfl (by decide) rs (fun q2 => vM_ruleNameNow_44 ⟨fun _ => b50 (by rw [q2, Bool.and_false]), fun z => absurd rfl z⟩) (fun q2 => vM_ruleNameNow_44 ⟨fun z => absurd z (by decide), fun _ => by rwa [if_pos (by rw [q, q2]; rfl)] at h⟩)⟩)
def nmv (T : Nat → Int32) (t f p : Nat) : Int32 := if isv T t f p 4 119 111 114 100 = true then 0 else if isv T t f p 4 99 105 116 101 = true then 1 else if (isv T t f p 7 97 103 97 105 && gov T t f 4 110 115 116) = true then 2 else if isv T t f p 4 110 111 116 101 = true then 3 else if isv T t f p 4 108 105 107 101 = true then 4 else if isv T t f p 3 108 97 119 0 = true then 5 else if isv T t f p 2 105 110 0 0 = true then 10 else if (isv T t f p 6 99 111 112 105 && gov T t f 4 101 115 0) = true then 11 else rnv T t f p
theorem sM_nameNow (rs : RS M T t f p) (h : K (nmv T t f p) M) : CI mM_nameNow [.ref 6027] M K := by
  unfold nmv at h
  refine call_of rfl (Nat.le_of_ble_eq_true rfl) rfl (vM_nameNow_0 rfl ?_)
  refine sM_is rs (fun q => vM_nameNow_13 rfl ⟨fun _ => ?_, fun z => absurd rfl z⟩) (fun q => vM_nameNow_13 rfl ⟨fun z => absurd z (by decide), fun _ => by rwa [if_pos q] at h⟩)
  rw [if_neg (by rw [q]; decide)] at h
  refine sM_is rs (fun q => vM_nameNow_31 rfl ⟨fun _ => ?_, fun z => absurd rfl z⟩) (fun q => vM_nameNow_31 rfl ⟨fun z => absurd z (by decide), fun _ => by rwa [if_pos q] at h⟩)
  rw [if_neg (by rw [q]; decide)] at h
  have b69 : (isv T t f p 7 97 103 97 105 && gov T t f 4 110 115 116) = false → X mM_nameNow 69 [(0, .ref 6027)] [] M (mC mM_nameNow, mS mM_nameNow) (QI K) := by
    intro q
    rw [if_neg (by rw [q]; decide)] at h
    refine vM_nameNow_69 rfl ?_
    refine sM_is rs (fun q => vM_nameNow_82 rfl ⟨fun _ => ?_, fun z => absurd rfl z⟩) (fun q => vM_nameNow_82 rfl ⟨fun z => absurd z (by decide), fun _ => by rwa [if_pos q] at h⟩)
    rw [if_neg (by rw [q]; decide)] at h
    refine sM_is rs (fun q => vM_nameNow_100 rfl ⟨fun _ => ?_, fun z => absurd rfl z⟩) (fun q => vM_nameNow_100 rfl ⟨fun z => absurd z (by decide), fun _ => by rwa [if_pos q] at h⟩)
    rw [if_neg (by rw [q]; decide)] at h
    refine sM_is rs (fun q => vM_nameNow_117 rfl ⟨fun _ => ?_, fun z => absurd rfl z⟩) (fun q => vM_nameNow_117 rfl ⟨fun z => absurd z (by decide), fun _ => by rwa [if_pos q] at h⟩)
    rw [if_neg (by rw [q]; decide)] at h
    refine sM_is rs (fun q => vM_nameNow_133 rfl ⟨fun _ => ?_, fun z => absurd rfl z⟩) (fun q => vM_nameNow_133 rfl ⟨fun z => absurd z (by decide), fun _ => by rwa [if_pos q] at h⟩)
    rw [if_neg (by rw [q]; decide)] at h
    have b174 : (isv T t f p 6 99 111 112 105 && gov T t f 4 101 115 0) = false → X mM_nameNow 174 [(0, .ref 6027)] [] M (mC mM_nameNow, mS mM_nameNow) (QI K) := by
      intro q
      rw [if_neg (by rw [q]; decide)] at h
      refine vM_nameNow_174 rfl ?_
      exact sM_ruleNameNow rs (vM_nameNow_178 h)
    exact sM_is rs (fun q => vM_nameNow_153 rfl ⟨fun _ => b174 (by rw [q, Bool.false_and]), fun z => absurd rfl z⟩) (fun q => vM_nameNow_153 rfl ⟨fun z => absurd z (by decide), fun _ => sM_goesOn (k := 4) rfl (by decide) rs (fun q2 => vM_nameNow_166 ⟨fun _ => b174 (by rw [q2, Bool.and_false]), fun z => absurd rfl z⟩) (fun q2 => vM_nameNow_166 ⟨fun z => absurd z (by decide), fun _ => by rwa [if_pos (by rw [q, q2]; rfl)] at h⟩)⟩)
  exact sM_is rs (fun q => vM_nameNow_50 rfl ⟨fun _ => b69 (by rw [q, Bool.false_and]), fun z => absurd rfl z⟩) (fun q => vM_nameNow_50 rfl ⟨fun z => absurd z (by decide), fun _ => sM_goesOn (k := 4) rfl (by decide) rs (fun q2 => vM_nameNow_64 ⟨fun _ => b69 (by rw [q2, Bool.and_false]), fun z => absurd rfl z⟩) (fun q2 => vM_nameNow_64 ⟨fun z => absurd z (by decide), fun _ => by rwa [if_pos (by rw [q, q2]; rfl)] at h⟩)⟩)
end GP3
