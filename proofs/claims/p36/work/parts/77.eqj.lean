/-! ===== told rows: what may stand in them ===== -/
/-- a row: a law has no doctor and a day; another word has a doctor; marks are marks; an answer is one -/
def RT (g : Nat → Int32) : Prop := (g 0 = 5 → g 1 = -4 ∧ ∃ n, n < 1000 ∧ g 7 = nI n) ∧ (¬ g 0 = 5 → ∃ d, d < 8 ∧ g 1 = nI d) ∧ (∃ m, m < 64 ∧ g 3 = nI m) ∧ (∃ m, m < 64 ∧ g 4 = nI m) ∧ ((g 0 = 0 ∨ g 0 = 5) → (g 5 = 0 ∨ g 5 = 1)) ∧ (¬ (g 0 = 0 ∨ g 0 = 5) → g 4 = 0)
def okT (σ : LSt) : Prop := ∀ w, w < σ.2.1 → RT (σ.2.2.1 w)
section EQJ
variable {T : Nat → Int32} {t : Nat} {k : Int32} {r : Rst}
theorem mks_r {no : Int32} (h : (mks T t no r).2.2.2.2.1 = 0) : (∃ m, m < 64 ∧ mkv T t r = nI m) ∧ r.2.2.2.2.1 = 0 := by
  unfold mks at h
  obtain ⟨-, b, -⟩ := wts_ok (by decide) (nxs_ok h)
  obtain ⟨c, d, -⟩ := wts_ok (by decide) b
  unfold mk1 at d
  obtain ⟨-, e, -⟩ := wts_ok (by decide) d
  refine ⟨?_, e⟩
  have n4 : ¬ mkv T t r = -4 := fun z => by rw [if_pos z] at c; exact c rfl
  unfold mkv at n4 ⊢
  by_cases q : r.2.2.1 = 1
  · rw [if_pos q] at n4 ⊢
    rcases lt_eq (T := T) (t := t) (fi := 112) (ma := 6) (Or.inl rfl) (r.2.1 - r.1) r.1 0 (by decide) with ⟨-, z⟩ | ⟨c, hc, -, z⟩
    · exact absurd z n4
    · exact ⟨c, hc, z⟩
  · rw [if_neg q]; exact ⟨0, by decide, rfl⟩
theorem rw6_all (h : (rw6 T t k r).2.2.2.2.1 = 0) : (rw5 T t k r).2.2.2.2.1 = 0 ∧ (rw4 T t k r).2.2.2.2.1 = 0 ∧ (rw3 T t k r).2.2.2.2.1 = 0 ∧ (rw2 T t k r).2.2.2.2.1 = 0 := by
  have h5 : (rw5 T t k r).2.2.2.2.1 = 0 := by
    by_cases q : (rw5 T t k r).2.2.2.2.1 = 0
    · exact q
    · rw [rw6_f q] at h; exact h
  have h4 : (rw4 T t k r).2.2.2.2.1 = 0 := by
    by_cases q : (rw4 T t k r).2.2.2.2.1 = 0
    · exact q
    · rw [rw5_f q] at h5; exact h5
  have h3 : (rw3 T t k r).2.2.2.2.1 = 0 := by
    by_cases q : (rw3 T t k r).2.2.2.2.1 = 0
    · exact q
    · rw [rw4_f q] at h4; exact h4
  have h2 : (rw2 T t k r).2.2.2.2.1 = 0 := by
    by_cases q : (rw2 T t k r).2.2.2.2.1 = 0
    · exact q
    · rw [rw3_f q] at h3; exact h3
  exact ⟨h5, h4, h3, h2⟩
theorem rwr_ok {b : Int32} (h : (rw6 T t k r).2.2.2.2.1 = 0) : RT (rwr T t k r b) := by
  obtain ⟨h5, h4, h3, h2⟩ := rw6_all h
  have e0 : rwr T t k r b 0 = k := rfl
  have e1 : rwr T t k r b 1 = ra2 T t k r := rfl
  have e3 : rwr T t k r b 3 = ra3 T t k r := rfl
  have e4 : rwr T t k r b 4 = ra4 T t k r := rfl
  have e5 : rwr T t k r b 5 = ra5 T t k r := rfl
  have e7 : rwr T t k r b 7 = ra1 k r := rfl
  unfold RT
  rw [e0, e1, e3, e4, e5, e7]
  refine ⟨fun q => ⟨?_, ?_⟩, fun q => ?_, ?_, ?_, fun q => ?_, fun q => ?_⟩
  · unfold ra2; rw [if_pos q]
  · unfold rw2 rw1 at h2
    rw [if_pos q, if_pos q] at h2
    obtain ⟨y1, y2, -⟩ := isn_ok (nxs_ok h2)
    obtain ⟨i, hi, e⟩ := rngL (c := 999) (n := 999) rfl (by decide) y1 y2
    unfold ra1
    rw [if_pos q]
    exact ⟨i, hi, e⟩
  · unfold rw2 at h2
    rw [if_neg q] at h2
    obtain ⟨-, x, y, -⟩ := rds_ok h2
    obtain ⟨j, hj, e⟩ := rngL (c := 7) (n := 7) rfl (by decide) x y
    unfold ra2
    rw [if_neg q]
    exact ⟨j, hj, e⟩
  · unfold ra3
    by_cases q : kWLL k
    · rw [if_pos q]
      unfold rw3 at h3
      rw [if_pos q] at h3
      exact (mks_r h3).1
    · rw [if_neg q]; exact ⟨0, by decide, rfl⟩
  · unfold ra4
    by_cases q : kWL k
    · rw [if_pos q]
      unfold rw4 at h4
      rw [if_pos q] at h4
      exact (mks_r h4).1
    · rw [if_neg q]; exact ⟨0, by decide, rfl⟩
  · unfold ra5
    rw [if_pos q]
    by_cases z : nmk T t (rw4 T t k r) = 22
    · rw [if_pos z]; exact Or.inr rfl
    · rw [if_neg z]; exact Or.inl rfl
  · unfold ra4; rw [if_neg q]
theorem lnS_okT {σ : LSt} (ok : okT σ) (f : (lnS T t σ).1.2.2.2.2.1 = 0) : okT (lnS T t σ) := by
  rw [lnS_1] at f
  have f4 := f
  have f3 : (ln3 T t σ.2.1 σ.2.2.2.2.1 σ.1).2.2.2.2.1 = 0 := by unfold ln4 at f4; exact (eln_ok f4).2
  unfold lnS
  rw [if_neg (fun z => z f4)]
  generalize ln4 T t σ.2.1 σ.2.2.2.2.1 σ.1 = s4
  by_cases k10 : lnk T t σ.1 = 10
  · rw [if_pos k10]; unfold okT; dsimp only; exact ok
  · rw [if_neg k10]
    by_cases k11 : lnk T t σ.1 = 11
    · rw [if_pos k11]; unfold okT; dsimp only; exact ok
    · rw [if_neg k11]
      unfold ln3 at f3
      rw [if_neg k10, if_neg k11] at f3
      unfold okT
      dsimp only
      intro w hw
      unfold upr
      by_cases e : w = σ.2.1
      · rw [if_pos e]; exact rwr_ok f3
      · rw [if_neg e]; exact ok w (by omega)
theorem lpS_z {σ : LSt} {l : Nat} : lpS T t 0 σ l = (σ, l) := rfl
theorem lpS_fz {σ : LSt} {l : Nat} (z : ¬ σ.1.2.2.2.2.1 = 0) (n : Nat) : lpS T t n σ l = (σ, l) := by
  cases n with
  | zero => exact lpS_z
  | succ n => exact lpS_stop T t (Or.inl z)
theorem lpS_okT (n : Nat) : ∀ (σ : LSt) l, okT σ → (lpS T t n σ l).1.1.2.2.2.2.1 = 0 → okT (lpS T t n σ l).1 := by
  induction n with
  | zero =>
    intro σ l ok _
    rw [lpS_z]; exact ok
  | succ n ih =>
    intro σ l ok f
    by_cases h : ¬ σ.1.2.2.2.2.1 = 0 ∨ σ.1.2.2.1 = 0
    · rw [lpS_stop T t h]; exact ok
    · rw [lpS_go T t h] at f ⊢
      have key := fun z => lnS_okT (T := T) (t := t) ok z
      generalize lnS T t σ = σ' at f key ⊢
      by_cases z : σ'.1.2.2.2.2.1 = 0
      · exact ih σ' (l + 1) (key z) f
      · exfalso
        rw [lpS_fz z n] at f
        exact z f
theorem okT0 {x v p : Int32} : okT (lS0 T t x v p) := fun w hw => absurd (show w < 0 from hw) (by omega)
end EQJ
