/-! ===== a rule's words: which of three ===== -/
def T3 (x : Int32) : Prop := x = 0 ∨ x = 1 ∨ x = 2
theorem t3_if (p q : Prop) [Decidable p] [Decidable q] : T3 (if p then 0 else if q then 1 else 2) := by
  by_cases a : p
  · rw [if_pos a]; exact Or.inl rfl
  · rw [if_neg a]
    by_cases b : q
    · rw [if_pos b]; exact Or.inr (Or.inl rfl)
    · rw [if_neg b]; exact Or.inr (Or.inr rfl)
/-- an answer, or none -/
def T5 (x : Int32) : Prop := x = 1 ∨ x = 0 ∨ x = -4
theorem t5_if (p q : Prop) [Decidable p] [Decidable q] : T5 (if p then 1 else if q then 0 else -4) := by
  by_cases a : p
  · rw [if_pos a]; exact Or.inl rfl
  · rw [if_neg a]
    by_cases b : q
    · rw [if_pos b]; exact Or.inr (Or.inl rfl)
    · rw [if_neg b]; exact Or.inr (Or.inr rfl)
/-- what becomes of two words, and which laws: one of three; silence: an answer, or none -/
def okQ (ρ : QSt) : Prop := T3 (ρ.2.2 3) ∧ T3 (ρ.2.2 6) ∧ T5 (ρ.2.2 5)
section ES2
variable {T : Nat → Int32} {t : Nat}
theorem up1_ne {f : Nat → Int32} {i k : Nat} {v : Int32} (h : k ≠ i) : up1 f i v k = f k := by unfold up1; rw [if_neg h]
theorem up1_at {f : Nat → Int32} {i : Nat} {v : Int32} : up1 f i v i = v := by unfold up1; rw [if_pos rfl]
theorem okQ_2 {ρ : QSt} {x : Rst} (h : okQ ρ) : okQ (x, ρ.2) := h
theorem okQ_3 {x : Rst} {y f : Nat → Int32} (h : T3 (f 3) ∧ T3 (f 6) ∧ T5 (f 5)) : okQ (x, y, f) := h
theorem ruv_5 {tl : Nat → Int32} {s : Rst} (k : lnk T t s = 16) : T5 (ruv T t tl s) := by
  unfold ruv
  generalize ru1 T t tl s = x
  rw [k, if_neg (by decide), if_neg (by decide), if_neg (by decide), if_neg (by decide), if_neg (by decide), if_pos rfl]
  exact t5_if _ _
theorem ruv_3 {tl : Nat → Int32} {s : Rst} (k : lnk T t s = 14 ∨ lnk T t s = 17) : T3 (ruv T t tl s) := by
  unfold ruv
  generalize ru1 T t tl s = x
  rcases k with k | k
  · rw [k, if_neg (by decide), if_neg (by decide), if_neg (by decide), if_pos rfl]
    exact t3_if _ _
  · rw [k, if_neg (by decide), if_neg (by decide), if_neg (by decide), if_neg (by decide), if_neg (by decide), if_neg (by decide)]
    exact t3_if _ _
theorem qlS_ok {ρ : QSt} (h : okQ ρ) : okQ (qlS T t ρ) := by
  by_cases a : row (lnk T t ρ.1) = -4
  · rw [ql_1a a]; exact okQ_2 h
  · by_cases b : (ru3 T t ρ.2.1 ρ.1).2.2.2.2.1 = 0
    · rw [ql_1c a b]
      have v3 : (lnk T t ρ.1 = 14 ∨ lnk T t ρ.1 = 17) → T3 (ruv T t ρ.2.1 ρ.1) := ruv_3
      have v5 : lnk T t ρ.1 = 16 → T5 (ruv T t ρ.2.1 ρ.1) := ruv_5
      generalize ruv T t ρ.2.1 ρ.1 = v at v3 v5
      generalize ru3 T t ρ.2.1 ρ.1 = x
      have rc := row_c (lnk T t ρ.1)
      generalize lnk T t ρ.1 = k at a v3 v5 rc
      refine okQ_3 ?_
      have n : ∀ i, i ≠ 3 → i ≠ 6 → i ≠ 5 → T3 (up1 ρ.2.2 i v 3) ∧ T3 (up1 ρ.2.2 i v 6) ∧ T5 (up1 ρ.2.2 i v 5) := fun i h3 h6 h5 => by rw [up1_ne (Ne.symm h3), up1_ne (Ne.symm h6), up1_ne (Ne.symm h5)]; exact h
      rcases rc with e | ⟨k, e⟩ | ⟨k, e⟩ | ⟨k, e⟩ | ⟨k, e⟩ | ⟨k, e⟩ | ⟨k, e⟩ | ⟨k, e⟩
      · exact absurd e a
      · rw [e, ncl (by decide)]; exact n 0 (by decide) (by decide) (by decide)
      · rw [e, ncl (by decide)]; exact n 1 (by decide) (by decide) (by decide)
      · rw [e, ncl (by decide)]; exact n 2 (by decide) (by decide) (by decide)
      · rw [e, ncl (by decide), up1_at, up1_ne (by decide), up1_ne (by decide)]
        exact ⟨v3 (Or.inl k), h.2.1, h.2.2⟩
      · rw [e, ncl (by decide)]; exact n 4 (by decide) (by decide) (by decide)
      · rw [e, ncl (by decide), up1_at, up1_ne (by decide), up1_ne (by decide)]
        exact ⟨h.1, h.2.1, v5 k⟩
      · rw [e, ncl (by decide), up1_at, up1_ne (by decide), up1_ne (by decide)]
        exact ⟨h.1, v3 (Or.inr k), h.2.2⟩
    · rw [ql_1b a b]; exact okQ_2 h
theorem qpS_ok (n : Nat) : ∀ (ρ : QSt) l, okQ ρ → okQ (qpS T t n ρ l).1 := by
  induction n with
  | zero =>
    intro ρ l h
    have e : qpS T t 0 ρ l = (ρ, l) := rfl
    rw [e]; exact h
  | succ n ih =>
    intro ρ l h
    by_cases c : ¬ ρ.1.2.2.2.2.1 = 0 ∨ ρ.1.2.2.1 = 0
    · rw [qpS_stop T t c]; exact h
    · rw [qpS_go T t c]
      have k := qlS_ok (T := T) (t := t) h
      generalize qlS T t ρ = ρ' at k ⊢
      exact ih ρ' _ k
theorem okQ0 {x v p : Int32} : okQ (qS0 T t x v p) := by
  unfold qS0
  exact okQ_3 ⟨Or.inl rfl, Or.inr (Or.inl rfl), Or.inr (Or.inr rfl)⟩
end ES2
/-- both rules of the reference -/
def RV (M : Mm) : Prop := (T3 (gi M 6543 3) ∧ T3 (gi M 6543 6) ∧ T5 (gi M 6543 5)) ∧ T3 (gi M 6607 3) ∧ T3 (gi M 6607 6) ∧ T5 (gi M 6607 5)
theorem rv_eq {M N : Mm} (h1 : gi N 6543 = gi M 6543) (h2 : gi N 6607 = gi M 6607) (r : RV M) : RV N := by unfold RV; rw [h1, h2]; exact r
