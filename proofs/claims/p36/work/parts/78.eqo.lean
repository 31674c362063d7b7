/-! ===== the reference: what words say, as the pure table has it ===== -/
def lb (x : Int64) (c : Nat) : Bool := x.toBitVec.getLsbD c
theorem l_or (x y : Int64) (c : Nat) : lb (x ||| y) c = (lb x c || lb y c) := by unfold lb; rw [Int64.toBitVec_or, BitVec.getLsbD_or]
theorem l_and (x y : Int64) (c : Nat) : lb (x &&& y) c = (lb x c && lb y c) := by unfold lb; rw [Int64.toBitVec_and, BitVec.getLsbD_and]
theorem l_0 (c : Nat) : lb 0 c = false := BitVec.getLsbD_zero
theorem l_ext {x y : Int64} (h : ∀ c, c < 64 → lb x c = lb y c) : x = y := Int64.toBitVec_inj.mp (BitVec.eq_of_getLsbD_eq (fun i hi => h i hi))
theorem l_1 : ∀ c, c < 64 → lb 1 c = decide (c = 0) := by decide +kernel
theorem l_s64 : ∀ n, n < 64 → (((nI n).toInt64 &&& 63).toBitVec.smod 64).toNat = n := by decide +kernel
theorem l_one : ∀ n, n < 64 → ∀ c, c < 64 → lb ((1 : Int64) <<< ((nI n).toInt64 &&& 63)) c = decide (c = n) := by decide +kernel
theorem l_a1 (y : Int64) : (y &&& 1) = 1 ↔ lb y 0 = true := by
  constructor
  · intro h
    have := l_and y 1 0
    rw [h] at this
    have e : lb 1 0 = true := by decide +kernel
    rw [e, Bool.and_true] at this
    exact this.symm
  · intro h
    refine l_ext (fun i hi => ?_)
    rw [l_and, l_1 i hi]
    by_cases e : i = 0
    · subst e; rw [h]; rfl
    · rw [decide_eq_false e, Bool.and_false]
theorem l_shr (n : Nat) (hn : n < 64) (x : Int64) : lb (x >>> ((nI n).toInt64 &&& 63)) 0 = lb x n := by
  unfold lb
  rw [Int64.toBitVec_shiftRight]
  show (x.toBitVec.sshiftRight (((nI n).toInt64 &&& 63).toBitVec.smod 64).toNat).getLsbD 0 = _
  rw [l_s64 n hn, BitVec.getLsbD_sshiftRight]
  simp [hn]
/-- a case's bit as the reference looks at it -/
theorem lbit (x : Int64) {c : Nat} (h : c < 64) : ((x >>> ((nI c).toInt64 &&& 63)) &&& 1) = 1 ↔ lb x c = true := by rw [l_a1, l_shr c h]
theorem b_a0 (y : Int32) : (y &&& 1) = 0 ↔ bt y 0 = false := by
  constructor
  · intro h
    have := b_and y 1 0
    rw [h, b_0] at this
    have e : bt 1 0 = true := by decide +kernel
    rw [e, Bool.and_true] at this
    exact this.symm
  · intro h
    refine b_ext (fun i hi => ?_)
    rw [b_and, b_1 i hi, b_0]
    by_cases e : i = 0
    · subst e; rw [h]; rfl
    · rw [decide_eq_false e, Bool.and_false]
theorem bit0 (x : Int32) {m : Nat} (h : m < 32) : ((x >>> (nI m &&& 31)) &&& 1) = 0 ↔ bt x m = false := by
  rw [b_a0, b_sshr m h x (by decide), if_pos (by omega), Nat.add_zero]
theorem cwi_b (m n : Int32) : ∀ k, k ≤ 64 → ∀ c, c < 64 → (lb (cwi m n k) c = true ↔ c < k ∧ (nI c &&& m) = m ∧ (nI c &&& n) = 0)
  | 0, _, c, _ => by rw [cwi, l_0]; simp
  | k + 1, hk, c, hc => by
    rw [cwi, l_or, Bool.or_eq_true, cwi_b m n k (by omega) c hc]
    by_cases q : (nI k &&& m) = m ∧ (nI k &&& n) = 0
    · rw [if_pos q, l_one k (by omega) c hc, decide_eq_true_eq]
      constructor
      · rintro (z | rfl)
        · exact ⟨by omega, z.2⟩
        · exact ⟨by omega, q⟩
      · rintro ⟨z1, z2⟩
        by_cases e : c = k
        · exact Or.inr e
        · exact Or.inl ⟨by omega, z2⟩
    · rw [if_neg q, l_0]
      constructor
      · rintro (z | z)
        · exact ⟨by omega, z.2⟩
        · exact absurd z (by decide)
      · rintro ⟨z1, z2⟩
        by_cases e : c = k
        · subst e; exact absurd z2 q
        · exact Or.inl ⟨by omega, z2⟩
/-- what words say, as the reference has it -/
def RYZ (N : Mm) (W : Nat) (Y Z : Nat → Nat → Bool) : Prop := ∀ v, v < W → ∀ c, c < 64 → lb (gl N 6874 v) c = Y v c ∧ lb (gl N 6938 v) c = Z v c
section EQO
variable {N : Mm} {W : Nat} {g : Nat → Nat → Int32}
theorem swl_b {Y Z : Nat → Nat → Bool} {w m : Nat} (hg : ∀ i, i < 7 → wd N w i = g w i) (hf : fow N w = fowg g w) (hm : m < 64) (em : g w 3 = nI m) (ry : RYZ N W Y Z) (hw : w < W) (hW : W ≤ 24) : ∀ k, k ≤ w → (¬ (swl N w k).1 = 0 ↔ anyb (fun v => bt (fowg g w) v && Y v m) k = true) ∧ (¬ (swl N w k).2 = 0 ↔ anyb (fun v => bt (fowg g w) v && Z v m) k = true)
  | 0, _ => by
    rw [swl, anyb, anyb]; exact ⟨⟨fun h => absurd rfl h, fun h => absurd h (by decide)⟩, ⟨fun h => absurd rfl h, fun h => absurd h (by decide)⟩⟩
  | k + 1, hk => by
    obtain ⟨i1, i2⟩ := swl_b hg hf hm em ry hw hW k (by omega)
    obtain ⟨r1, r2⟩ := ry k (by omega) m hm
    have sb : ∀ x, ¬ swb x (wd N w 3) = 0 ↔ lb x m = true := by
      intro x
      unfold swb
      rw [hg 3 (by decide), em]
      by_cases q : lb x m = true
      · rw [if_pos ((lbit _ hm).mpr q), q]; decide
      · rw [if_neg (fun z => q ((lbit _ hm).mp z))]
        exact ⟨fun z => absurd rfl z, fun z => absurd z q⟩
    rw [swl, hf, anyb, anyb, Bool.or_eq_true, Bool.or_eq_true, Bool.and_eq_true, Bool.and_eq_true, ← i1, ← i2]
    by_cases q : bt (fowg g w) k = true
    · rw [if_pos ((bit1 _ (by omega)).mpr q), ← r1, ← r2, ← sb, ← sb]
      refine ⟨?_, ?_⟩
      · show ¬ (if (swl N w k).1 = 0 then swb (gl N 6874 k) (wd N w 3) else 1) = 0 ↔ _
        by_cases z : (swl N w k).1 = 0
        · rw [if_pos z]; exact ⟨fun y => Or.inr ⟨q, y⟩, fun y => y.elim (fun y => absurd z y) (fun y => y.2)⟩
        · rw [if_neg z]; exact ⟨fun _ => Or.inl z, fun _ => by decide⟩
      · show ¬ (if (swl N w k).2 = 0 then swb (gl N 6938 k) (wd N w 3) else 1) = 0 ↔ _
        by_cases z : (swl N w k).2 = 0
        · rw [if_pos z]; exact ⟨fun y => Or.inr ⟨q, y⟩, fun y => y.elim (fun y => absurd z y) (fun y => y.2)⟩
        · rw [if_neg z]; exact ⟨fun _ => Or.inl z, fun _ => by decide⟩
    · rw [if_neg (fun z => q ((bit1 _ (by omega)).mp z))]
      exact ⟨⟨Or.inl, fun y => y.elim id (fun y => absurd y.1 q)⟩, ⟨Or.inl, fun y => y.elim id (fun y => absurd y.1 q)⟩⟩
theorem swv_b {Y Z : Nat → Nat → Bool} {w c : Nat} (hg : ∀ i, i < 7 → wd N w i = g w i) (hf : fow N w = fowg g w) (rs : RS6 g W w) (n4 : g w 0 = 4 → g w 4 = 0) (ry : RYZ N W Y Z) (hw : w < W) (hW : W ≤ 24) (hc : c < 64) : lb (swv N w).1 c = sayY g Y Z w c ∧ lb (swv N w).2 c = sayN g Y Z w c := by
  obtain ⟨r6, ⟨m, hm, em⟩, r5⟩ := rs
  have c3 : (g w 3).toNatClampNeg = m := by rw [em]; exact ncl (by omega)
  have cw : ∀ n, lb (cwi (g w 3) n 64) c = decide ((nI c &&& g w 3) = g w 3 ∧ (nI c &&& n) = 0) := by
    intro n
    rw [Bool.eq_iff_iff, cwi_b _ _ 64 (Nat.le_refl _) c hc, decide_eq_true_eq]
    exact ⟨fun h => h.2, fun h => ⟨hc, h⟩⟩
  unfold swv sayY sayN
  rw [hg 0 (by decide), hg 3 (by decide), hg 4 (by decide), hg 5 (by decide), hg 6 (by decide)]
  by_cases k05 : g w 0 = 0 ∨ g w 0 = 5
  · have k4 : ¬ g w 0 = 4 := fun z => by rw [z] at k05; exact absurd k05 (by decide)
    rw [if_pos k05, if_neg k4, if_pos k05, if_neg k4, if_pos k05]
    by_cases a : g w 5 = 1
    · have d1 : decide (g w 5 = 1) = true := decide_eq_true a
      have d2 : decide (¬ g w 5 = 1) = false := decide_eq_false (fun z => z a)
      rw [d1, d2, if_pos a, if_pos a, cw, l_0, Bool.and_true, Bool.and_false]
      exact ⟨rfl, rfl⟩
    · have d1 : decide (g w 5 = 1) = false := decide_eq_false a
      have d2 : decide (¬ g w 5 = 1) = true := decide_eq_true a
      rw [d1, d2, if_neg a, if_neg a, cw, l_0, Bool.and_true, Bool.and_false]
      exact ⟨rfl, rfl⟩
  · rw [if_neg k05]
    by_cases k4 : g w 0 = 4
    · rw [if_pos k4, if_pos k4, if_pos k4]
      obtain ⟨s1, s2⟩ := swl_b hg hf hm em ry hw hW w (Nat.le_refl w)
      have e1 : lky g Y w = anyb (fun v => bt (fowg g w) v && Y v m) w := by unfold lky; rw [c3]
      have e2 : lky g Z w = anyb (fun v => bt (fowg g w) v && Z v m) w := by unfold lky; rw [c3]
      rw [← e1] at s1
      rw [← e2] at s2
      have ec : csw g w c = decide ((nI c &&& g w 3) = g w 3 ∧ (nI c &&& 0) = 0) := by unfold csw; rw [n4 k4]
      show lb (if ¬ (swl N w w).1 = 0 ∧ (swl N w w).2 = 0 then cwi (g w 3) 0 64 else 0) c = _ ∧ lb (if ¬ (swl N w w).2 = 0 ∧ (swl N w w).1 = 0 then cwi (g w 3) 0 64 else 0) c = _
      by_cases a : (swl N w w).1 = 0
      · have la : lky g Y w = false := by
          by_cases z : lky g Y w = true
          · exact absurd a (s1.mpr z)
          · simpa using z
        by_cases b : (swl N w w).2 = 0
        · have lz : lky g Z w = false := by
            by_cases z : lky g Z w = true
            · exact absurd b (s2.mpr z)
            · simpa using z
          rw [if_neg (fun z => z.1 a), if_neg (fun z => z.1 b), l_0, la, lz]
          cases csw g w c <;> exact ⟨rfl, rfl⟩
        · rw [if_neg (fun z => z.1 a), if_pos ⟨b, a⟩, l_0, la, s2.mp b, cw, ec]
          cases decide ((nI c &&& g w 3) = g w 3 ∧ (nI c &&& 0) = 0) <;> exact ⟨rfl, rfl⟩
      · by_cases b : (swl N w w).2 = 0
        · have lz : lky g Z w = false := by
            by_cases z : lky g Z w = true
            · exact absurd b (s2.mpr z)
            · simpa using z
          rw [if_pos ⟨a, b⟩, if_neg (fun z => z.1 b), l_0, lz, s1.mp a, cw, ec]
          cases decide ((nI c &&& g w 3) = g w 3 ∧ (nI c &&& 0) = 0) <;> exact ⟨rfl, rfl⟩
        · rw [if_neg (fun z => b z.2), if_neg (fun z => a z.2), l_0, s1.mp a, s2.mp b]
          cases csw g w c <;> exact ⟨rfl, rfl⟩
    · rw [if_neg k4, if_neg k4, if_neg k4, if_neg k05, if_neg k05]
      obtain ⟨-, f, hf', fw, ef⟩ : ¬ (g w 0 = 0 ∨ g w 0 = 4 ∨ g w 0 = 5) ∧ ∃ f, f < W ∧ f ≠ w ∧ g w 6 = nI f := by
        rcases r6 with z | z
        · exfalso
          rcases z.1 with z | z | z
          · exact k05 (Or.inl z)
          · exact k4 z
          · exact k05 (Or.inr z)
        · exact z
      have c6 : (g w 6).toNatClampNeg = f := by rw [ef]; exact ncl (by omega)
      rw [c6]
      obtain ⟨r1, r2⟩ := ry f hf' c hc
      by_cases k2 : g w 0 = 2
      · rw [if_pos k2, if_pos k2, if_pos k2, if_pos k2]; exact ⟨r2, r1⟩
      · rw [if_neg k2, if_neg k2, if_neg k2, if_neg k2]; exact ⟨r1, r2⟩
end EQO
