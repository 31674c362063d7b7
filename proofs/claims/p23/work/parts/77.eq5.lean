/-! ===== answers, one of some names, a word: the same ===== -/
section EQ5
variable {M : Mm} {T : Nat → Int32} {t : Nat} {a : Tst} {r : Rst}
theorem rl_tok (h : RL a r) (f : a.2.2.2.2.1 = 0) : tkl T t a.2.1 (a.2.2.1 - a.2.1) = tkl T t r.1 (r.2.1 - r.1) := by
  obtain ⟨e1, e2, -, -⟩ := h.2.2 f
  rw [e1, e2]
/-- an answer -/
def anc (T : Nat → Int32) (t : Nat) (r : Rst) : Rst := wts (if nmk T t r = 22 ∨ nmk T t r = 23 then 1 else 0) 3 (nam r)
theorem ras_d : ras T t r = nxs T t (anc T t r) := rfl
theorem anc_f (h : ¬ r.2.2.2.2.1 = 0) : anc T t r = r := by unfold anc; rw [nam_f h]; exact wts_f h
theorem tkA_f (h : ¬ a.2.2.2.2.1 = 0) : tkA T t a = a := by
  unfold tkA
  split
  · split
    · rfl
    · exact tfl_f h
  · exact tfl_f h
theorem rl_ans (hr : r.2.1 ≤ 400) (h : RL a r) : RL (tkA T t a) (anc T t r) ∧ ((tkA T t a).2.2.2.2.1 = 0 → tkAv T t a = (if nmk T t r = 22 then 1 else 0) ∧ tkA T t a = a ∧ anc T t r = r ∧ a.2.2.2.2.1 = 0) := by
  by_cases f : a.2.2.2.2.1 = 0
  · have fr : r.2.2.2.2.1 = 0 := h.1.symm.trans f
    rcases rl_nam h f with ⟨k2, en, s1⟩ | ⟨k2, hn, fn⟩
    · have ek : nmk T t r = nmF (tkl T t r.1 (r.2.1 - r.1)) := by unfold nmk; rw [en, if_pos fr, nmv_d T t _ _ hr]
      have ea : amo T t 1 a = fnd (tkl T t r.1 (r.2.1 - r.1)) NL1 0 := by rw [am1, rl_tok h f]
      have fin : ∀ v n : Int32, amo T t 1 a = v → nmk T t r = n → (0 : Int32) ≤ v → (n = 22 ∨ n = 23) → v = (if n = 22 then 1 else 0) → RL (tkA T t a) (anc T t r) ∧ ((tkA T t a).2.2.2.2.1 = 0 → tkAv T t a = (if nmk T t r = 22 then 1 else 0) ∧ tkA T t a = a ∧ anc T t r = r ∧ a.2.2.2.2.1 = 0) := by
        intro v n hv hn p0 hc hq
        have e1 : tkA T t a = a := by unfold tkA; rw [if_pos k2, hv, if_pos p0]
        have e2 : anc T t r = r := by unfold anc; rw [hn, if_pos hc, en]; exact wts_t (by decide)
        rw [e1, e2]
        refine ⟨h, fun _ => ⟨?_, rfl, rfl, f⟩⟩
        unfold tkAv; rw [if_pos k2, hv, if_pos p0, hn]; exact hq
      rcases frq1 (tkl T t r.1 (r.2.1 - r.1)) with ⟨e, n⟩ | ⟨i, hi, e, c⟩
      · have e1 : tkA T t a = tfl 3 a := by unfold tkA; rw [if_pos k2, ea, e, if_neg (by decide)]
        have nc : ¬ (nmk T t r = 22 ∨ nmk T t r = 23) := by
          rw [ek]
          rintro (z | z)
          · exact n 22 (by decide) z
          · exact n 23 (by decide) z
        have e2 : anc T t r = wts 0 3 r := by unfold anc; rw [if_neg nc, en]
        rw [e1, e2]
        exact ⟨rl_fail h f (by decide), fun z => absurd z (tfl_ne (by decide))⟩
      · match i, hi, c with
        | 0, _, c =>
          have c' : (23 : Int32) = nmF (tkl T t r.1 (r.2.1 - r.1)) := Option.some.inj c
          exact fin (nI 0) 23 (ea.trans e) (ek.trans c'.symm) (by decide) (Or.inr rfl) (by decide)
        | 1, _, c =>
          have c' : (22 : Int32) = nmF (tkl T t r.1 (r.2.1 - r.1)) := Option.some.inj c
          exact fin (nI 1) 22 (ea.trans e) (ek.trans c'.symm) (by decide) (Or.inl rfl) (by decide)
    · have ea : tkA T t a = tfl 2 a := by unfold tkA; rw [if_neg k2]
      have er : anc T t r = nam r := by unfold anc; exact wts_f fn
      rw [ea, er]
      exact ⟨hn, fun z => absurd z (tfl_ne (by decide))⟩
  · have fr : ¬ r.2.2.2.2.1 = 0 := fun z => f (h.1.trans z)
    rw [tkA_f f, anc_f fr]
    exact ⟨h, fun z => absurd z f⟩
/-- behind a fault nothing moves -/
theorem rds_f (h : ¬ r.2.2.2.2.1 = 0) : rds T t r = r := by
  rw [rds_d]
  have : ddc T t r = r := by unfold ddc; rw [nam_f h]; exact wts_f h
  rw [this, nxs_f h]
theorem mks_f {no : Int32} (h : ¬ r.2.2.2.2.1 = 0) : mks T t no r = r := by rw [mks_d, mkc_f h, nxs_f h]
theorem ras_f (h : ¬ r.2.2.2.2.1 = 0) : ras T t r = r := by rw [ras_d, anc_f h, nxs_f h]
theorem rnf {lo hi : Int32} (h : ¬ r.2.2.2.2.1 = 0) : nxs T t (isn lo hi r) = r := by rw [isn_f h, nxs_f h]
theorem eln_f (h : ¬ r.2.2.2.2.1 = 0) : eln T t r = r := by unfold eln; rw [wts_f h, nxs_f h]
section F6
variable {k : Int32}
theorem rw3_f (h : ¬ (rw2 T t k r).2.2.2.2.1 = 0) : rw3 T t k r = rw2 T t k r := by
  unfold rw3
  split
  · exact mks_f h
  · rfl
theorem rw4_f (h : ¬ (rw3 T t k r).2.2.2.2.1 = 0) : rw4 T t k r = rw3 T t k r := by
  unfold rw4
  split
  · exact mks_f h
  · rfl
theorem rw5_f (h : ¬ (rw4 T t k r).2.2.2.2.1 = 0) : rw5 T t k r = rw4 T t k r := by
  unfold rw5
  split
  · exact ras_f h
  · rfl
theorem rw6_f (h : ¬ (rw5 T t k r).2.2.2.2.1 = 0) : rw6 T t k r = rw5 T t k r := by
  unfold rw6
  split
  · exact rnf h
  · rfl
theorem rw36_f (h : ¬ (rw3 T t k r).2.2.2.2.1 = 0) : rw6 T t k r = rw3 T t k r := by
  have e4 := rw4_f h
  have f4 : ¬ (rw4 T t k r).2.2.2.2.1 = 0 := by rw [e4]; exact h
  have e5 := rw5_f f4
  have f5 : ¬ (rw5 T t k r).2.2.2.2.1 = 0 := by rw [e5]; exact f4
  rw [rw6_f f5, e5, e4]
theorem rw26_f (h : ¬ (rw2 T t k r).2.2.2.2.1 = 0) : rw6 T t k r = rw2 T t k r := by
  have e3 := rw3_f h
  have f3 : ¬ (rw3 T t k r).2.2.2.2.1 = 0 := by rw [e3]; exact h
  rw [rw36_f f3, e3]
theorem rw1_f (h : ¬ r.2.2.2.2.1 = 0) : rw6 T t k r = r := by
  have e1 : rw1 T t k r = r := by
    unfold rw1
    split
    · exact rnf h
    · rfl
  have e2 : rw2 T t k r = r := by
    unfold rw2
    rw [e1]
    split
    · rfl
    · exact rds_f h
  have := rw26_f (T := T) (t := t) (k := k) (r := r) (by rw [e2]; exact h)
  rw [this, e2]
end F6
end EQ5
/-- what a state stands for when it has gone on: the reference's state y, the next being its token -/
def NXT (T : Nat → Int32) (t : Nat) (x : Tst) (z : Rst) : Prop := ∃ y, RL x y ∧ z = nxs T t y
theorem nxt_adv {M : Mm} {T : Nat → Int32} {t : Nat} {x : Tst} {z : Rst} (tc : TC M T t) (h : NXT T t x z) (f : x.2.2.2.2.1 = 0) : RL (adv T t x) z := by
  obtain ⟨y, h1, rfl⟩ := h
  exact rl_adv tc h1 f
theorem nxt_f {T : Nat → Int32} {t : Nat} {x : Tst} {z : Rst} (h : NXT T t x z) (f : ¬ x.2.2.2.2.1 = 0) : RL x z ∧ ¬ z.2.2.2.2.1 = 0 := by
  obtain ⟨y, h1, rfl⟩ := h
  have fy : ¬ y.2.2.2.2.1 = 0 := fun z => f (h1.1.trans z)
  rw [nxs_f fy]; exact ⟨h1, fy⟩
theorem nxt_z {T : Nat → Int32} {t : Nat} {x : Tst} {z : Rst} (h : RL x z) (f : ¬ x.2.2.2.2.1 = 0) : NXT T t x z := by
  have fz : ¬ z.2.2.2.2.1 = 0 := fun y => f (h.1.trans y)
  exact ⟨z, h, (nxs_f fz).symm⟩
/-- positions stay on the tape -/
theorem nxs_400 {T : Nat → Int32} {t : Nat} {r : Rst} (ht : t ≤ 400) (h : r.2.1 ≤ 400) : (nxs T t r).2.1 ≤ 400 := by
  by_cases f : r.2.2.2.2.1 = 0
  · have p1 : nx1 T t r.2.1 ≤ 400 := by
      by_cases l : r.2.1 ≤ t
      · exact Nat.le_trans (rn_le isB T t (by decide) 401 _ l) ht
      · have e : lk T t r.2.1 = -1 := by rw [lk, if_pos (by omega)]
        unfold nx1
        rw [rn, e, if_neg (by decide)]; exact h
    have q : ∀ g : Int32 → Bool, g (-1) = false → rn g T t 401 (nx1 T t r.2.1) ≤ 400 := by
      intro g hg
      by_cases l : nx1 T t r.2.1 ≤ t
      · exact Nat.le_trans (rn_le g T t hg 401 _ l) ht
      · have e : lk T t (nx1 T t r.2.1) = -1 := by rw [lk, if_pos (by omega)]
        rw [rn, e, if_neg (by rw [hg]; decide)]; exact p1
    unfold nxs
    rw [if_pos f]
    by_cases c1 : lk T t (nx1 T t r.2.1) < 0
    · rw [if_pos c1]; exact p1
    · rw [if_neg c1]
      by_cases c2 : isA (lk T t (nx1 T t r.2.1)) = true
      · rw [if_pos c2]; exact q isA (by decide)
      · rw [if_neg c2]
        by_cases c3 : isF (lk T t (nx1 T t r.2.1)) = true
        · rw [if_pos c3]; exact q isF (by decide)
        · rw [if_neg c3]
          have : nx1 T t r.2.1 < t := by
            by_cases l : t ≤ nx1 T t r.2.1
            · exfalso
              rw [lk, if_pos l] at c1
              exact c1 (by decide)
            · omega
          show nx1 T t r.2.1 + 1 ≤ 400
          omega
  · rw [nxs_f f]; exact h
