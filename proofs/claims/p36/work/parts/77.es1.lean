/-! ===== told rows: marks with and without are apart ===== -/
def okD (σ : LSt) : Prop := ∀ w, w < σ.2.1 → (σ.2.2.1 w 3 &&& σ.2.2.1 w 4) = 0
section ES0
variable {T : Nat → Int32} {t : Nat} {k : Int32} {r : Rst}
theorem mks_dj {no : Int32} (h : (mks T t no r).2.2.2.2.1 = 0) : (mkv T t r &&& no) = 0 := by
  unfold mks at h
  obtain ⟨a, -, -⟩ := wts_ok (by decide) (nxs_ok h)
  by_cases q : (mkv T t r &&& no) = 0
  · exact q
  · rw [if_neg q] at a; exact absurd rfl a
theorem rwr_d {b : Int32} (h : (rw6 T t k r).2.2.2.2.1 = 0) : (rwr T t k r b 3 &&& rwr T t k r b 4) = 0 := by
  obtain ⟨h5, h4, h3, h2⟩ := rw6_all h
  have e3 : rwr T t k r b 3 = ra3 T t k r := rfl
  have e4 : rwr T t k r b 4 = ra4 T t k r := rfl
  rw [e3, e4]
  by_cases q : kWL k
  · have e : ra4 T t k r = mkv T t (rw3 T t k r) := by unfold ra4; rw [if_pos q]
    unfold rw4 at h4
    rw [if_pos q] at h4
    have := mks_dj h4
    rw [e, Int32.and_comm]; exact this
  · have e : ra4 T t k r = 0 := by unfold ra4; rw [if_neg q]
    rw [e, Int32.and_zero]
theorem lnS_okD {σ : LSt} (ok : okD σ) (f : (lnS T t σ).1.2.2.2.2.1 = 0) : okD (lnS T t σ) := by
  rw [lnS_1] at f
  have f4 := f
  have f3 : (ln3 T t σ.2.1 σ.2.2.2.2.1 σ.1).2.2.2.2.1 = 0 := by unfold ln4 at f4; exact (eln_ok f4).2
  unfold lnS
  rw [if_neg (fun z => z f4)]
  generalize ln4 T t σ.2.1 σ.2.2.2.2.1 σ.1 = s4
  by_cases k10 : lnk T t σ.1 = 10
  · rw [if_pos k10]; unfold okD; dsimp only; exact ok
  · rw [if_neg k10]
    by_cases k11 : lnk T t σ.1 = 11
    · rw [if_pos k11]; unfold okD; dsimp only; exact ok
    · rw [if_neg k11]
      unfold ln3 at f3
      rw [if_neg k10, if_neg k11] at f3
      unfold okD
      dsimp only
      intro w hw
      unfold upr
      by_cases e : w = σ.2.1
      · rw [if_pos e]; exact rwr_d f3
      · rw [if_neg e]; exact ok w (by omega)
theorem lpS_okD (n : Nat) : ∀ (σ : LSt) l, okD σ → (lpS T t n σ l).1.1.2.2.2.2.1 = 0 → okD (lpS T t n σ l).1 := by
  induction n with
  | zero =>
    intro σ l ok _
    rw [lpS_z]; exact ok
  | succ n ih =>
    intro σ l ok f
    by_cases h : ¬ σ.1.2.2.2.2.1 = 0 ∨ σ.1.2.2.1 = 0
    · rw [lpS_stop T t h]; exact ok
    · rw [lpS_go T t h] at f ⊢
      have key := fun z => lnS_okD (T := T) (t := t) ok z
      generalize lnS T t σ = σ' at f key ⊢
      by_cases z : σ'.1.2.2.2.2.1 = 0
      · exact ih σ' (l + 1) (key z) f
      · exfalso
        rw [lpS_fz z n] at f
        exact z f
theorem okD0 {x v p : Int32} : okD (lS0 T t x v p) := fun w hw => absurd (show w < 0 from hw) (by omega)
end ES0
