/-! ===== a library as the lines tell it ===== -/
abbrev LSt : Type := Rst × Nat × (Nat → Nat → Int32) × (Nat → Int32) × (Nat → Int32) × Int32 × (Nat → Int32)
def up1 (f : Nat → Int32) (i : Nat) (v : Int32) (k : Nat) : Int32 := if k = i then v else f k
def upr (f : Nat → Nat → Int32) (i : Nat) (v : Nat → Int32) (k : Nat) : Nat → Int32 := if k = i then v else f k
section EQ7
variable (T : Nat → Int32) (t : Nat)
/-- one line: state, words, copies, copies told, book, places -/
def lnS (σ : LSt) : LSt :=
  if ¬ (ln4 T t σ.2.1 σ.2.2.2.2.1 σ.1).2.2.2.2.1 = 0 then (ln4 T t σ.2.1 σ.2.2.2.2.1 σ.1, σ.2)
  else if lnk T t σ.1 = 10 then (ln4 T t σ.2.1 σ.2.2.2.2.1 σ.1, σ.2.1, σ.2.2.1, σ.2.2.2.1, σ.2.2.2.2.1, (ln2 T t σ.2.1 σ.1).2.2.2.1, σ.2.2.2.2.2.2)
  else if lnk T t σ.1 = 11 then (ln4 T t σ.2.1 σ.2.2.2.2.1 σ.1, σ.2.1, σ.2.2.1, up1 σ.2.2.2.1 (ln2 T t σ.2.1 σ.1).2.2.2.1.toNatClampNeg (rc3 T t (σ.2.2.2.2.1 (ln2 T t σ.2.1 σ.1).2.2.2.1.toNatClampNeg) (ln2 T t σ.2.1 σ.1)).2.2.2.1, up1 σ.2.2.2.2.1 (ln2 T t σ.2.1 σ.1).2.2.2.1.toNatClampNeg 1, σ.2.2.2.2.2.1, σ.2.2.2.2.2.2)
  else (ln4 T t σ.2.1 σ.2.2.2.2.1 σ.1, σ.2.1 + 1, upr σ.2.2.1 σ.2.1 (rwr T t (lnk T t σ.1) (ln2 T t σ.2.1 σ.1) σ.2.2.2.2.2.1), σ.2.2.2.1, σ.2.2.2.2.1, σ.2.2.2.2.2.1, up1 σ.2.2.2.2.2.2 σ.2.1 (nI (rw5 T t (lnk T t σ.1) (ln2 T t σ.2.1 σ.1)).1))
def lpS : Nat → LSt → Nat → LSt × Nat
  | 0, σ, l => (σ, l)
  | n + 1, σ, l => if ¬ σ.1.2.2.2.2.1 = 0 ∨ σ.1.2.2.1 = 0 then (σ, l) else lpS n (lnS T t σ) (l + 1)
theorem lpS_stop {n l : Nat} {σ : LSt} (h : ¬ σ.1.2.2.2.2.1 = 0 ∨ σ.1.2.2.1 = 0) : lpS T t (n + 1) σ l = (σ, l) := by rw [lpS, if_pos h]
theorem lpS_go {n l : Nat} {σ : LSt} (h : ¬ (¬ σ.1.2.2.2.2.1 = 0 ∨ σ.1.2.2.1 = 0)) : lpS T t (n + 1) σ l = lpS T t n (lnS T t σ) (l + 1) := by
  show (if ¬ σ.1.2.2.2.2.1 = 0 ∨ σ.1.2.2.1 = 0 then (σ, l) else lpS T t n (lnS T t σ) (l + 1)) = _
  exact if_neg h
end EQ7
/-- a word of them that follows wrongly -/
def bdS (σ : LSt) (w : Nat) : Prop := ¬ σ.2.2.1 w 6 = -4 ∧ (nI σ.2.1 ≤ σ.2.2.1 w 6 ∨ σ.2.2.1 w 6 = nI w ∨ σ.2.2.1 (σ.2.2.1 w 6).toNatClampNeg 0 = 5)
/-- rows as they should be -/
def okS (σ : LSt) : Prop := σ.2.1 ≤ 24 ∧ (∃ b, b < 8 ∧ σ.2.2.2.2.2.1 = nI b) ∧ ∀ w, w < σ.2.1 → (∃ b, b < 8 ∧ σ.2.2.1 w 2 = nI b) ∧ ∃ k, k < 6 ∧ σ.2.2.1 w 0 = nI k ∧ ((¬ (1 ≤ k ∧ k ≤ 3) ∧ σ.2.2.1 w 6 = -4) ∨ ((1 ≤ k ∧ k ≤ 3) ∧ ∃ f, f < 24 ∧ σ.2.2.1 w 6 = nI f))
section EQ7b
variable {M N : Mm} {T : Nat → Int32} {t : Nat}
theorem ln3_cg {D : Nat} {c c' : Nat → Int32} {s : Rst} (h : ∀ b, b < 8 → c b = c' b) : ln3 T t D c s = ln3 T t D c' s := by
  have e : rc2 (c (ln2 T t D s).2.2.2.1.toNatClampNeg) (ln2 T t D s) = rc2 (c' (ln2 T t D s).2.2.2.1.toNatClampNeg) (ln2 T t D s) := by
    generalize ln2 T t D s = s2
    by_cases f : (isn 0 7 s2).2.2.2.2.1 = 0
    · obtain ⟨y1, y2, -⟩ := isn_ok f
      obtain ⟨i, hi, e⟩ := rngL (c := 7) (n := 7) rfl (by decide) y1 y2
      rw [e, ncl (by omega), h i (by omega)]
    · unfold rc2; rw [wts_f f, wts_f f]
  have e2 : rcs T t (c (ln2 T t D s).2.2.2.1.toNatClampNeg) (ln2 T t D s) = rcs T t (c' (ln2 T t D s).2.2.2.1.toNatClampNeg) (ln2 T t D s) := by
    unfold rcs rc3
    rw [e]
  unfold ln3
  rw [e2]
theorem ln4_cg {D : Nat} {c c' : Nat → Int32} {s : Rst} (h : ∀ b, b < 8 → c b = c' b) : ln4 T t D c s = ln4 T t D c' s := by
  unfold ln4
  rw [ln3_cg h]
theorem lnS_1 {σ : LSt} : (lnS T t σ).1 = ln4 T t σ.2.1 σ.2.2.2.2.1 σ.1 := by
  unfold lnS
  generalize ln4 T t σ.2.1 σ.2.2.2.2.1 σ.1 = s4
  by_cases h1 : ¬ s4.2.2.2.2.1 = 0
  · rw [if_pos h1]
  · rw [if_neg h1]
    by_cases h2 : lnk T t σ.1 = 10
    · rw [if_pos h2]
    · rw [if_neg h2]
      by_cases h3 : lnk T t σ.1 = 11
      · rw [if_pos h3]
      · rw [if_neg h3]
/-- a line's name, on both sides -/
theorem ln_rel {c : Tst} {s : Rst} (hs : s.2.1 ≤ 400) (h : RL c s) (f : c.2.2.2.2.1 = 0) :
    ((if c.1 = 2 then amo T t 0 c else -1) = -1 ∧ ¬ ((¬ lnk T t s < 0 ∧ ¬ 5 < lnk T t s) ∨ lnk T t s = 10 ∨ lnk T t s = 11)) ∨
    (∃ i, i < 6 ∧ (if c.1 = 2 then amo T t 0 c else -1) = nI i ∧ lnk T t s = nI i) ∨
    ((if c.1 = 2 then amo T t 0 c else -1) = 6 ∧ lnk T t s = 10) ∨ ((if c.1 = 2 then amo T t 0 c else -1) = 7 ∧ lnk T t s = 11) := by
  obtain ⟨e1, e2, ks, -⟩ := h.2.2 f
  by_cases k2 : c.1 = 2
  · have s1 : s.2.2.1 = 1 := (ks2 ks).mp k2
    have el : lnk T t s = nmF (tkl T t s.1 (s.2.1 - s.1)) := by unfold lnk; rw [if_pos s1, nmv_d T t _ _ hs]
    have ea : amo T t 0 c = fnd (tkl T t s.1 (s.2.1 - s.1)) NL0 0 := by rw [am0, rl_tok h f]
    rw [if_pos k2, el, ea]
    rcases frq0 (tkl T t s.1 (s.2.1 - s.1)) with ⟨e, n⟩ | ⟨i, hi, e, cc⟩
    · refine Or.inl ⟨e, ?_⟩
      rintro (z | z | z)
      · obtain ⟨j, hj, ej⟩ := rngL (c := 5) (n := 5) rfl (by decide) z.1 z.2
        rw [ej] at n
        match j, hj, n with
        | 0, _, n => exact n 0 (by decide) rfl
        | 1, _, n => exact n 1 (by decide) rfl
        | 2, _, n => exact n 2 (by decide) rfl
        | 3, _, n => exact n 3 (by decide) rfl
        | 4, _, n => exact n 4 (by decide) rfl
        | 5, _, n => exact n 5 (by decide) rfl
      · exact n 10 (by decide) z
      · exact n 11 (by decide) z
    · rw [e]
      match i, hi, cc with
      | 0, _, cc => exact Or.inr (Or.inl ⟨0, by decide, rfl, (Option.some.inj cc).symm⟩)
      | 1, _, cc => exact Or.inr (Or.inl ⟨1, by decide, rfl, (Option.some.inj cc).symm⟩)
      | 2, _, cc => exact Or.inr (Or.inl ⟨2, by decide, rfl, (Option.some.inj cc).symm⟩)
      | 3, _, cc => exact Or.inr (Or.inl ⟨3, by decide, rfl, (Option.some.inj cc).symm⟩)
      | 4, _, cc => exact Or.inr (Or.inl ⟨4, by decide, rfl, (Option.some.inj cc).symm⟩)
      | 5, _, cc => exact Or.inr (Or.inl ⟨5, by decide, rfl, (Option.some.inj cc).symm⟩)
      | 6, _, cc => exact Or.inr (Or.inr (Or.inl ⟨rfl, (Option.some.inj cc).symm⟩))
      | 7, _, cc => exact Or.inr (Or.inr (Or.inr ⟨rfl, (Option.some.inj cc).symm⟩))
  · have s1 : ¬ s.2.2.1 = 1 := fun z => k2 ((ks2 ks).mpr z)
    have el : lnk T t s = -4 := by unfold lnk; rw [if_neg s1]
    rw [if_neg k2, el]
    exact Or.inl ⟨rfl, by decide⟩
/-- lines without a fault keep rows as they should be, and go on -/
theorem lnS_ok {σ : LSt} (ok : okS σ) (f : (lnS T t σ).1.2.2.2.2.1 = 0) : okS (lnS T t σ) ∧ σ.1.2.1 < (lnS T t σ).1.2.1 := by
  rw [lnS_1] at f ⊢
  have f4 := f
  have go := go_ln4 f4
  have f3 : (ln3 T t σ.2.1 σ.2.2.2.2.1 σ.1).2.2.2.2.1 = 0 := by unfold ln4 at f4; exact (eln_ok f4).2
  have f2 := (go_ln3 (T := T) (t := t) (D := σ.2.1) (cp := σ.2.2.2.2.1) (s := σ.1)).2 f3
  refine ⟨?_, go⟩
  unfold lnS
  rw [if_neg (fun z => z f4)]
  generalize ln4 T t σ.2.1 σ.2.2.2.2.1 σ.1 = s4
  obtain ⟨ok1, ok2, ok3⟩ := ok
  by_cases k10 : lnk T t σ.1 = 10
  · rw [if_pos k10]
    unfold ln3 at f3
    rw [if_pos k10] at f3
    obtain ⟨y1, y2, -⟩ := isn_ok (nxs_ok f3)
    obtain ⟨i, hi, e⟩ := rngL (c := 7) (n := 7) rfl (by decide) y1 y2
    unfold okS; dsimp only; exact ⟨ok1, ⟨i, by omega, e⟩, ok3⟩
  · rw [if_neg k10]
    by_cases k11 : lnk T t σ.1 = 11
    · rw [if_pos k11]
      unfold okS; dsimp only; exact ⟨ok1, ok2, ok3⟩
    · rw [if_neg k11]
      unfold ln3 at f3
      rw [if_neg k10, if_neg k11] at f3
      have z2 := (go_rw6.2 f3).1
      unfold ln2 at z2
      have z1 := nxs_ok z2
      unfold ln1 at z1
      obtain ⟨a1, a2, -⟩ := wts_ok (by decide) z1
      obtain ⟨b1, b2, -⟩ := wts_ok (by decide) a2
      have c1 := ite1 b1
      have c2 := ite1 a1
      have c3 : ¬ lnk T t σ.1 < 0 ∧ ¬ 5 < lnk T t σ.1 := c1.resolve_right (fun y => y.elim k10 k11)
      have hD : σ.2.1 < 24 := c2.resolve_left c3.2
      obtain ⟨k, hk, ek⟩ := rngL (c := 5) (n := 5) rfl (by decide) c3.1 c3.2
      unfold okS
      dsimp only
      refine ⟨hD, ok2, fun w hw => ?_⟩
      unfold upr
      by_cases e : w = σ.2.1
      · rw [if_pos e]
        refine ⟨ok2, k, hk, ek, ?_⟩
        have e6 : rwr T t (lnk T t σ.1) (ln2 T t σ.2.1 σ.1) σ.2.2.2.2.2.1 6 = ra6 T t (lnk T t σ.1) (ln2 T t σ.2.1 σ.1) := rfl
        rw [e6]
        have cn : kCN (lnk T t σ.1) ↔ (1 ≤ k ∧ k ≤ 3) := by
          unfold kCN
          rw [ek, show (1 : Int32) = nI 1 from rfl, show (3 : Int32) = nI 3 from rfl, nlt (by omega) (by omega), nlt (by omega) (by omega)]
          omega
        by_cases q : kCN (lnk T t σ.1)
        · right
          refine ⟨cn.mp q, ?_⟩
          unfold ra6
          rw [if_pos q]
          unfold rw6 at f3
          rw [if_pos q] at f3
          obtain ⟨y1, y2, -⟩ := isn_ok (nxs_ok f3)
          obtain ⟨i, hi, e⟩ := rngL (c := 23) (n := 23) rfl (by decide) y1 y2
          exact ⟨i, hi, e⟩
        · left
          unfold ra6
          rw [if_neg q]
          exact ⟨fun y => q (cn.mpr y), rfl⟩
      · rw [if_neg e]
        exact ok3 w (by have : w < σ.2.1 + 1 := hw; omega)
end EQ7b
