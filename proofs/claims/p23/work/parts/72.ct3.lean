/-! ===== the class's tokens: names, letters, what is taken ===== -/
/-- the letters of a constant from f on are those of the tape from p on -/
def nme (T : Nat → Int32) (t j p : Nat) : Nat → Nat → Bool
  | 0, _ => true
  | n + 1, f => if chr j f = lk T t p then nme T t j (p + 1) n (f + 1) else false
def nmd (T : Nat → Int32) (t j : Nat) (s : Tst) (f u : Nat) : Bool := decide (u - f = s.2.2.1 - s.2.1) && nme T t j s.2.1 (u - f) f
section CT4
variable {M : Mm} {T : Nat → Int32} {t : Nat} {s : Tst}
theorem sTo_isNamed {j f u : Nat} {K : Int32 → Mm → Prop} (td : TD M T t s) (hj : j < 6) (hf : f ≤ u) (hu : u ≤ slen.getD j 0) (h : K (if nmd T t j s f u = true then 1 else 0) M) : CI mTo_isNamed [.ref 199, .ref (64 * j + 63), .int (nI f), .int (nI u)] M K := by
  obtain ⟨tc, t1, t2, t3, t4, t5, t6, b1, b2⟩ := td
  have hl := slen_le j hj
  refine call_of rfl (Nat.le_of_ble_eq_true rfl) rfl (vTo_isNamed_0 rfl hj ⟨fun q => ?_, fun q => ?_⟩)
  · rw [t3, t2, nsub hf, nsub b1, ninj (by omega) (by omega)] at q
    have e : nmd T t j s f u = nme T t j s.2.1 (u - f) f := by unfold nmd; rw [decide_eq_true q, Bool.true_and]
    rw [e] at h
    have key : ∀ n i, f ≤ i → i + n = u → K (if nme T t j (s.2.1 + (i - f)) n i = true then 1 else 0) M → X mTo_isNamed 20 [(0, .ref 199), (1, .ref (64 * j + 63)), (2, .int (nI f)), (3, .int (nI u)), (4, .int (nI i))] [] M (mC mTo_isNamed, mS mTo_isNamed) (QI K) := by
      intro n
      induction n with
      | zero =>
        intro i hi hn h
        rw [Nat.add_zero] at hn
        rw [hn]
        exact vTo_isNamed_20 hj ⟨fun _ => h, fun q => absurd (Int32.le_refl _) q⟩
      | succ n ih =>
        intro i hi hn h
        rw [nme] at h
        refine vTo_isNamed_20 hj ⟨fun q => ?_, fun _ => sJs_length hj (vTo_isNamed_32 hj ⟨fun q => ?_, fun _ => sJs_charAt hj (by omega) (vTo_isNamed_41 rfl hj tc.1 ?_)⟩)⟩
        · rw [nle (by omega) (by omega)] at q; omega
        · rw [nle (by omega) (by omega)] at q; omega
        · rw [t2, nadd, nsub (by omega), show s.2.1 + i - f = s.2.1 + (i - f) by omega]
          refine sTa_byteAt tc (by omega) (vTo_isNamed_57 hj ⟨fun r => ?_, fun r => ?_⟩)
          · rw [if_pos r] at h
            rw [nI_s]
            refine ih (i + 1) (by omega) (by omega) ?_
            rw [show s.2.1 + (i + 1 - f) = s.2.1 + (i - f) + 1 by omega]; exact h
          · rw [if_neg r, if_neg (by decide)] at h; exact h
    refine key (u - f) f (Nat.le_refl _) (by omega) ?_
    rw [Nat.sub_self, Nat.add_zero]; exact h
  · rw [t3, t2, nsub hf, nsub b1, ninj (by omega) (by omega)] at q
    have e : nmd T t j s f u = false := by unfold nmd; rw [decide_eq_false q, Bool.false_and]
    rw [e, if_neg (by decide)] at h; exact h
/-- the place of a name among names -/
def amg (T : Nat → Int32) (t j : Nat) (s : Tst) : Nat → Nat → Nat → Nat → Int32
  | 0, _, _, _ => -1
  | n + 1, i, g, x => if i = slen.getD j 0 ∨ chr j i = 32 then (if nmd T t j s g i = true then nI x else amg T t j s n (i + 1) (i + 1) (x + 1)) else amg T t j s n (i + 1) g x
def amo (T : Nat → Int32) (t j : Nat) (s : Tst) : Int32 := amg T t j s (slen.getD j 0 + 1) 0 0 0
theorem sTo_among {j : Nat} {K : Int32 → Mm → Prop} (td : TD M T t s) (hj : j < 6) (h : K (amo T t j s) M) : CI mTo_among [.ref 199, .ref (64 * j + 63)] M K := by
  have hl := slen_le j hj
  refine call_of rfl (Nat.le_of_ble_eq_true rfl) rfl (vTo_among_0 hj ?_)
  have key : ∀ n i g x, i + n = slen.getD j 0 + 1 → g ≤ i → x ≤ i → K (amg T t j s n i g x) M → X mTo_among 7 [(0, .ref 199), (1, .ref (64 * j + 63)), (2, .int (nI g)), (3, .int (nI x)), (4, .int (nI i))] [] M (mC mTo_among, mS mTo_among) (QI K) := by
    intro n
    induction n with
    | zero =>
      intro i g x hn hg hx h
      refine vTo_among_7 hj (sJs_length hj (vTo_among_13 hj ⟨fun _ => h, fun q => ?_⟩))
      exact absurd ((nlt (by omega) (by omega)).mpr (by omega)) q
    | succ n ih =>
      intro i g x hn hg hx h
      rw [amg] at h
      have at36 : (i = slen.getD j 0 ∨ chr j i = 32) → X mTo_among 36 [(0, .ref 199), (1, .ref (64 * j + 63)), (2, .int (nI g)), (3, .int (nI x)), (4, .int (nI i))] [] M (mC mTo_among, mS mTo_among) (QI K) := by
        intro c
        rw [if_pos c] at h
        refine vTo_among_36 rfl hj (sTo_isNamed td hj hg (by omega) (vTo_among_44 hj ⟨fun q => ?_, fun q => ?_⟩))
        · have c2 : ¬ nmd T t j s g i = true := fun z => by rw [if_pos z] at q; exact absurd q (by decide)
          rw [if_neg c2] at h
          rw [nI_s, nI_s]
          exact ih (i + 1) (i + 1) (x + 1) (by omega) (Nat.le_refl _) (by omega) h
        · have c2 : nmd T t j s g i = true := by
            by_cases z : nmd T t j s g i = true
            · exact z
            · rw [if_neg z] at q; exact absurd rfl q
          rw [if_pos c2] at h; exact h
      refine vTo_among_7 hj (sJs_length hj (vTo_among_13 hj ⟨fun q => ?_, fun _ => sJs_length hj (vTo_among_22 hj ⟨fun q => ?_, fun q => ?_⟩)⟩))
      · rw [nlt (by omega) (by omega)] at q; omega
      · rw [ninj (by omega) (by omega)] at q
        exact at36 (Or.inl q)
      · rw [ninj (by omega) (by omega)] at q
        refine sJs_charAt hj (by omega) (vTo_among_31 hj ⟨fun r => ?_, fun r => at36 (Or.inr r)⟩)
        rw [if_neg (fun z => z.elim q r)] at h
        rw [nI_s]
        exact ih (i + 1) g x (by omega) (by omega) (by omega) h
  exact key _ 0 0 0 (by omega) (Nat.le_refl _) (Nat.le_refl _) h
/-- letters as bits -/
def ltc (T : Nat → Int32) (t : Nat) (fi ma : Int32) : Nat → Nat → Int32 → Int32
  | 0, _, b => b
  | n + 1, i, b => if (lk T t i - fi < 0 ∨ ma ≤ lk T t i - fi) ∨ ((ushr b (lk T t i - fi)) &&& 1) = 1 then -1 else ltc T t fi ma n (i + 1) (b ||| ((1 : Int32) <<< ((lk T t i - fi) &&& 31)))
theorem sTo_letters {fi ma : Int32} {K : Int32 → Mm → Prop} (td : TD M T t s) (h : K (ltc T t fi ma (s.2.2.1 - s.2.1) s.2.1 0) M) : CI mTo_letters [.ref 199, .int fi, .int ma] M K := by
  obtain ⟨tc, t1, t2, t3, t4, t5, t6, b1, b2⟩ := td
  refine call_of rfl (Nat.le_of_ble_eq_true rfl) rfl (vTo_letters_0 rfl ?_)
  rw [t2]
  have key : ∀ n i b, i + n = s.2.2.1 → K (ltc T t fi ma n i b) M → X mTo_letters 8 [(0, .ref 199), (1, .int fi), (2, .int ma), (3, .int b), (4, .int (nI i))] [] M (mC mTo_letters, mS mTo_letters) (QI K) := by
    intro n
    induction n with
    | zero =>
      intro i b hi h
      rw [Nat.add_zero] at hi
      exact vTo_letters_8 rfl tc.1 ⟨fun _ => h, fun q => absurd (by rw [t3, hi]; exact Int32.le_refl _) q⟩
    | succ n ih =>
      intro i b hi h
      rw [ltc] at h
      refine vTo_letters_8 rfl tc.1 ⟨fun q => ?_, fun _ => sTa_byteAt tc (by omega) (vTo_letters_26 ⟨fun q => ?_, fun q => sC_holds (vTo_letters_47 ⟨fun r => ?_, fun r => ?_⟩)⟩)⟩
      · rw [t3, nle (by omega) (by omega)] at q; omega
      · rw [if_pos (Or.inl (q.imp id (fun q => q.2)))] at h; exact h
      · have c : ¬ ((ushr b (lk T t i - fi)) &&& 1) = 1 := fun z => by rw [if_pos z] at r; exact absurd r (by decide)
        rw [if_neg (fun z => z.elim (fun z => z.elim q.1 q.2) c)] at h
        rw [nI_s]
        exact ih (i + 1) _ (by omega) h
      · have c : ((ushr b (lk T t i - fi)) &&& 1) = 1 := by
          by_cases z : ((ushr b (lk T t i - fi)) &&& 1) = 1
          · exact z
          · rw [if_neg z] at r; exact absurd rfl r
        rw [if_pos (Or.inr c)] at h; exact h
  exact key (s.2.2.1 - s.2.1) s.2.1 0 (by omega) h
end CT4
/-- the least bit -/
def nt5 (x n : Int32) : Int32 := n + ushr x 1
def nt4 (x n : Int32) : Int32 := if x ≤ 4 then nt5 x n else nt5 (ushr x 2) (n + 2)
def nt3 (x n : Int32) : Int32 := if x ≤ 16 then nt4 x n else nt4 (ushr x 4) (n + 4)
def nt2 (x n : Int32) : Int32 := if x ≤ 256 then nt3 x n else nt3 (ushr x 8) (n + 8)
def nt1 (x : Int32) : Int32 := if 0 < x then (if x ≤ 65536 then nt2 x 1 else nt2 (ushr x 16) (1 + 16)) else x &&& 32
def ntz (v : Int32) : Int32 := nt1 ((v ^^^ (-1)) &&& (v - 1))
theorem sJi_ntz {M : Mm} {v : Int32} {K : Int32 → Mm → Prop} (h : K (ntz v) M) : CI mJi_numberOfTrailingZeros [.int v] M K := by
  have b74 : ∀ x n, K (nt5 x n) M → X mJi_numberOfTrailingZeros 74 [(0, .int x), (1, .int n)] [] M (mC mJi_numberOfTrailingZeros, mS mJi_numberOfTrailingZeros) (QI K) := fun x n h => vJi_numberOfTrailingZeros_74 h
  have b62 : ∀ x n, K (nt4 x n) M → X mJi_numberOfTrailingZeros 62 [(0, .int x), (1, .int n)] [] M (mC mJi_numberOfTrailingZeros, mS mJi_numberOfTrailingZeros) (QI K) := fun x n h => vJi_numberOfTrailingZeros_62 ⟨fun q => b74 _ _ (by rw [nt4, if_pos q] at h; exact h), fun q => b74 _ _ (by rw [nt4, if_neg q] at h; exact h)⟩
  have b49 : ∀ x n, K (nt3 x n) M → X mJi_numberOfTrailingZeros 49 [(0, .int x), (1, .int n)] [] M (mC mJi_numberOfTrailingZeros, mS mJi_numberOfTrailingZeros) (QI K) := fun x n h => vJi_numberOfTrailingZeros_49 ⟨fun q => b62 _ _ (by rw [nt3, if_pos q] at h; exact h), fun q => b62 _ _ (by rw [nt3, if_neg q] at h; exact h)⟩
  have b34 : ∀ x n, K (nt2 x n) M → X mJi_numberOfTrailingZeros 34 [(0, .int x), (1, .int n)] [] M (mC mJi_numberOfTrailingZeros, mS mJi_numberOfTrailingZeros) (QI K) := fun x n h => vJi_numberOfTrailingZeros_34 ⟨fun q => b49 _ _ (by rw [nt2, if_pos q] at h; exact h), fun q => b49 _ _ (by rw [nt2, if_neg q] at h; exact h)⟩
  unfold ntz at h
  refine call_of rfl (Nat.le_of_ble_eq_true rfl) rfl (vJi_numberOfTrailingZeros_0 ⟨fun q => ⟨fun r => b34 _ _ ?_, fun r => b34 _ _ ?_⟩, fun q => ?_⟩)
  · rw [nt1, if_pos q, if_pos r] at h; exact h
  · rw [nt1, if_pos q, if_neg r] at h; exact h
  · rw [nt1, if_neg q] at h; exact h
def ntl (v : Int64) : Int32 := if v.toInt32 = 0 then 32 + ntz (lushr v (32 : Int32)).toInt32 else ntz v.toInt32
theorem sJl_ntz {M : Mm} {v : Int64} {K : Int32 → Mm → Prop} (h : K (ntl v) M) : CI mJl_numberOfTrailingZeros [.long v] M K := by
  unfold ntl at h
  refine call_of rfl (Nat.le_of_ble_eq_true rfl) rfl (vJl_numberOfTrailingZeros_0 ⟨fun q => sJi_ntz (vJl_numberOfTrailingZeros_25 ?_), fun q => sJi_ntz (vJl_numberOfTrailingZeros_17 ?_)⟩)
  · rw [if_neg q] at h; exact h
  · rw [if_pos q] at h; exact h
/-! what is taken: the state behind it, and the answer -/
section CT5
variable (T : Nat → Int32) (t : Nat)
def tkN (g : Int32) (s : Tst) : Tst := if s.1 = 3 then (if s.2.2.2.1 ≤ g then s else tfl 3 s) else tfl 2 s
def tkNv (g : Int32) (s : Tst) : Int32 := if s.1 = 3 then (if s.2.2.2.1 ≤ g then s.2.2.2.1 else -1) else -1
def tLt (fi ma : Int32) (s : Tst) : Int32 := ltc T t fi ma (s.2.2.1 - s.2.1) s.2.1 0
def tkD (s : Tst) : Tst := if s.1 = 2 then (if 0 ≤ tLt T t 97 8 s then s else tfl 3 s) else tfl 2 s
def tkDv (s : Tst) : Int32 := if s.1 = 2 then (if 0 ≤ tLt T t 97 8 s then tLt T t 97 8 s else -1) else -1
def tkO (s : Tst) : Tst := if 0 ≤ tkDv T t s then (if bc32 (tkDv T t s) = 1 then tkD T t s else tfl 3 (tkD T t s)) else tkD T t s
def tkOv (s : Tst) : Int32 := if 0 ≤ tkDv T t s then (if bc32 (tkDv T t s) = 1 then ntz (tkDv T t s) else -1) else -1
def tkM (s : Tst) : Tst := if s.1 = 4 then s else if s.1 = 2 then (if 0 ≤ tLt T t 112 6 s then s else tfl 3 s) else tfl 2 s
def tkMv (s : Tst) : Int32 := if s.1 = 4 then 0 else if s.1 = 2 then (if 0 ≤ tLt T t 112 6 s then tLt T t 112 6 s else -1) else -1
def tkA (s : Tst) : Tst := if s.1 = 2 then (if 0 ≤ amo T t 1 s then s else tfl 3 s) else tfl 2 s
def tkAv (s : Tst) : Int32 := if s.1 = 2 then (if 0 ≤ amo T t 1 s then amo T t 1 s else -1) else -1
def tk1n (j : Nat) (s : Tst) : Int32 := if s.1 = 2 then amo T t j s else -1
def tk1 (j : Nat) (s : Tst) : Tst := if 0 ≤ tk1n T t j s then s else tfl 2 s
def tk1v (j : Nat) (s : Tst) : Int32 := if 0 ≤ tk1n T t j s then tk1n T t j s else -1
def tkC (s : Tst) : Tst := if s.2.2.2.2.1 = 0 then (if (adv T t s).1 = 5 then adv T t (adv T t s) else tfl 2 (adv T t s)) else s
end CT5
