/-! ===== tokens of the class and of the reference are the same ===== -/
/-- kinds of the class, sorts of the reference -/
def KS (k s : Int32) : Prop := (k = 1 ∧ s = 0) ∨ (k = 2 ∧ s = 1) ∨ (k = 3 ∧ s = 2) ∨ (k = 4 ∧ s = 3) ∨ (k = 5 ∧ s = 4)
theorem ks1 {k s : Int32} (h : KS k s) : k = 1 ↔ s = 0 := by
  rcases h with ⟨rfl, rfl⟩ | ⟨rfl, rfl⟩ | ⟨rfl, rfl⟩ | ⟨rfl, rfl⟩ | ⟨rfl, rfl⟩ <;> decide
theorem ks2 {k s : Int32} (h : KS k s) : k = 2 ↔ s = 1 := by
  rcases h with ⟨rfl, rfl⟩ | ⟨rfl, rfl⟩ | ⟨rfl, rfl⟩ | ⟨rfl, rfl⟩ | ⟨rfl, rfl⟩ <;> decide
theorem ks3 {k s : Int32} (h : KS k s) : k = 3 ↔ s = 2 := by
  rcases h with ⟨rfl, rfl⟩ | ⟨rfl, rfl⟩ | ⟨rfl, rfl⟩ | ⟨rfl, rfl⟩ | ⟨rfl, rfl⟩ <;> decide
theorem ks4 {k s : Int32} (h : KS k s) : k = 4 ↔ s = 3 := by
  rcases h with ⟨rfl, rfl⟩ | ⟨rfl, rfl⟩ | ⟨rfl, rfl⟩ | ⟨rfl, rfl⟩ | ⟨rfl, rfl⟩ <;> decide
theorem ks5 {k s : Int32} (h : KS k s) : k = 5 ↔ s = 4 := by
  rcases h with ⟨rfl, rfl⟩ | ⟨rfl, rfl⟩ | ⟨rfl, rfl⟩ | ⟨rfl, rfl⟩ | ⟨rfl, rfl⟩ <;> decide
/-- the class's tokens stand where the reference's reader stands -/
def RL (c : Tst) (r : Rst) : Prop := c.2.2.2.2.1 = r.2.2.2.2.1 ∧ (¬ c.2.2.2.2.1 = 0 → c.2.2.2.2.2 = r.2.2.2.2.2) ∧ (c.2.2.2.2.1 = 0 → c.2.1 = r.1 ∧ c.2.2.1 = r.2.1 ∧ KS c.1 r.2.2.1 ∧ (c.1 = 3 → c.2.2.2.1 = r.2.2.2.1 ∧ ∃ n, n < 1000 ∧ c.2.2.2.1 = nI n))
theorem tfl_f {c : Int32} {s : Tst} (h : ¬ s.2.2.2.2.1 = 0) : tfl c s = s := by unfold tfl; rw [if_neg h]
theorem nxs_f {T : Nat → Int32} {t : Nat} {s : Rst} (h : ¬ s.2.2.2.2.1 = 0) : nxs T t s = s := by unfold nxs; rw [if_neg h]
theorem wts_t {g c : Int32} {s : Rst} (h : ¬ g = 0) : wts g c s = s := by unfold wts; rw [if_neg (fun q => h q.1)]
theorem isn_f {lo hi : Int32} {s : Rst} (h : ¬ s.2.2.2.2.1 = 0) : isn lo hi s = s := by
  unfold isn; rw [wts_f (g := if s.2.2.1 = 2 then 1 else 0) h, wts_f h]
theorem rl_fail {a : Tst} {r : Rst} {k : Int32} (h : RL a r) (f : a.2.2.2.2.1 = 0) (hk : ¬ k = 0) : RL (tfl k a) (wts 0 k r) := by
  have fr : r.2.2.2.2.1 = 0 := h.1.symm.trans f
  unfold tfl wts
  rw [if_pos f, if_pos ⟨rfl, fr⟩]
  refine ⟨rfl, fun _ => ?_, fun z => absurd z hk⟩
  show nI a.2.1 = nI r.1
  rw [(h.2.2 f).1]
theorem adv_of {T : Nat → Int32} {t : Nat} {s : Tst} {x : Tst} (e : adv0 T t s = x) (n : ¬ x.1 = 0) : adv T t s = x := by
  unfold adv; rw [e, if_neg n]
theorem rl_adv0 {M : Mm} {T : Nat → Int32} {t : Nat} {c : Tst} {r : Rst} (tc : TC M T t) (f : c.2.2.2.2.1 = 0) (fr : r.2.2.2.2.1 = 0) (eb : c.2.2.1 = r.2.1) : RL (adv T t c) (nxs T t r) := by
  unfold nxs
  rw [if_pos fr]
  have hr := rn_in isF T t 401 (nx1 T t r.2.1)
  have hg := rn_ge isF T t 401 (nx1 T t r.2.1)
  by_cases c1 : lk T t (nx1 T t r.2.1) < 0
  · rw [if_pos c1]
    have e : adv0 T t c = (1, nx1 T t r.2.1, nx1 T t r.2.1, c.2.2.2.1, c.2.2.2.2.1, c.2.2.2.2.2) := by unfold adv0; rw [eb, if_pos c1]
    rw [adv_of e (by show ¬ (1 : Int32) = 0; decide)]
    exact ⟨f.trans fr.symm, fun z => absurd f z, fun _ => ⟨rfl, rfl, Or.inl ⟨rfl, rfl⟩, fun z => absurd (show (1 : Int32) = 3 from z) (by decide)⟩⟩
  · rw [if_neg c1]
    by_cases c2 : isA (lk T t (nx1 T t r.2.1)) = true
    · rw [if_pos c2]
      have e : adv0 T t c = (2, nx1 T t r.2.1, rn isA T t 401 (nx1 T t r.2.1), c.2.2.2.1, c.2.2.2.2.1, c.2.2.2.2.2) := by unfold adv0; rw [eb, if_neg c1, if_pos c2]
      rw [adv_of e (by show ¬ (2 : Int32) = 0; decide)]
      exact ⟨f.trans fr.symm, fun z => absurd f z, fun _ => ⟨rfl, rfl, Or.inr (Or.inl ⟨rfl, rfl⟩), fun z => absurd (show (2 : Int32) = 3 from z) (by decide)⟩⟩
    · rw [if_neg c2]
      by_cases c3 : isF (lk T t (nx1 T t r.2.1)) = true
      · rw [if_pos c3]
        by_cases l : rn isF T t 401 (nx1 T t r.2.1) - nx1 T t r.2.1 ≤ 3
        · rw [if_pos l, if_pos l]
          have e : adv0 T t c = (3, nx1 T t r.2.1, rn isF T t 401 (nx1 T t r.2.1), vlf T t (nx1 T t r.2.1) (rn isF T t 401 (nx1 T t r.2.1) - nx1 T t r.2.1), c.2.2.2.2.1, c.2.2.2.2.2) := by
            unfold adv0; rw [eb, if_neg c1, if_neg c2, if_pos c3, if_pos l, Nat.min_eq_left l]
          rw [adv_of e (by show ¬ (3 : Int32) = 0; decide)]
          obtain ⟨n, hn, en⟩ := vlf_nn tc (p := nx1 T t r.2.1) l (fun k hk => hr k (by omega))
          exact ⟨f.trans fr.symm, fun z => absurd f z, fun _ => ⟨rfl, rfl, Or.inr (Or.inr (Or.inl ⟨rfl, rfl⟩)), fun _ => ⟨rfl, n, Nat.lt_of_lt_of_le hn (Nat.le_trans (Nat.pow_le_pow_right (by decide) l) (by decide)), en⟩⟩⟩
        · rw [if_neg l, if_neg l]
          have e : adv0 T t c = (0, nx1 T t r.2.1, rn isF T t 401 (nx1 T t r.2.1), vlf T t (nx1 T t r.2.1) (min (rn isF T t 401 (nx1 T t r.2.1) - nx1 T t r.2.1) 3), c.2.2.2.2.1, c.2.2.2.2.2) := by
            unfold adv0; rw [eb, if_neg c1, if_neg c2, if_pos c3, if_neg l]
          have e2 : adv T t c = (0, nx1 T t r.2.1, rn isF T t 401 (nx1 T t r.2.1), vlf T t (nx1 T t r.2.1) (min (rn isF T t 401 (nx1 T t r.2.1) - nx1 T t r.2.1) 3), 1, nI (nx1 T t r.2.1)) := by
            unfold adv; rw [e, if_pos rfl]; unfold tfl; rw [if_pos f]
          rw [e2]
          exact ⟨rfl, fun _ => rfl, fun z => absurd (show (1 : Int32) = 0 from z) (by decide)⟩
      · rw [if_neg c3]
        by_cases c4 : lk T t (nx1 T t r.2.1) = 45
        · have e : adv0 T t c = (4, nx1 T t r.2.1, nx1 T t r.2.1 + 1, c.2.2.2.1, c.2.2.2.2.1, c.2.2.2.2.2) := by
            unfold adv0; rw [eb, if_neg c1, if_neg c2, if_neg c3, if_pos c4]
          rw [adv_of e (by show ¬ (4 : Int32) = 0; decide), if_pos c4, if_pos (Or.inl c4), if_pos (Or.inl c4)]
          exact ⟨f.trans fr.symm, fun z => absurd f z, fun _ => ⟨rfl, rfl, Or.inr (Or.inr (Or.inr (Or.inl ⟨rfl, rfl⟩))), fun z => absurd (show (4 : Int32) = 3 from z) (by decide)⟩⟩
        · by_cases c5 : lk T t (nx1 T t r.2.1) = 59
          · have e : adv0 T t c = (5, nx1 T t r.2.1, nx1 T t r.2.1 + 1, c.2.2.2.1, c.2.2.2.2.1, c.2.2.2.2.2) := by
              unfold adv0; rw [eb, if_neg c1, if_neg c2, if_neg c3, if_neg c4, if_pos c5]
            rw [adv_of e (by show ¬ (5 : Int32) = 0; decide), if_neg c4, if_pos (Or.inr c5), if_pos (Or.inr c5)]
            exact ⟨f.trans fr.symm, fun z => absurd f z, fun _ => ⟨rfl, rfl, Or.inr (Or.inr (Or.inr (Or.inr ⟨rfl, rfl⟩))), fun z => absurd (show (5 : Int32) = 3 from z) (by decide)⟩⟩
          · have n45 : ¬ (lk T t (nx1 T t r.2.1) = 45 ∨ lk T t (nx1 T t r.2.1) = 59) := fun z => z.elim c4 c5
            have e : adv0 T t c = (0, nx1 T t r.2.1, nx1 T t r.2.1 + 1, c.2.2.2.1, c.2.2.2.2.1, c.2.2.2.2.2) := by
              unfold adv0; rw [eb, if_neg c1, if_neg c2, if_neg c3, if_neg c4, if_neg c5]
            have e2 : adv T t c = (0, nx1 T t r.2.1, nx1 T t r.2.1 + 1, c.2.2.2.1, 1, nI (nx1 T t r.2.1)) := by
              unfold adv; rw [e, if_pos rfl]; unfold tfl; rw [if_pos f]
            rw [e2, if_neg n45, if_neg n45]
            exact ⟨rfl, fun _ => rfl, fun z => absurd (show (1 : Int32) = 0 from z) (by decide)⟩
theorem rl_adv {M : Mm} {T : Nat → Int32} {t : Nat} {c : Tst} {r : Rst} (tc : TC M T t) (h : RL c r) (f : c.2.2.2.2.1 = 0) : RL (adv T t c) (nxs T t r) :=
  rl_adv0 tc f (h.1.symm.trans f) (h.2.2 f).2.1
/-! ===== letters ===== -/
theorem lt_eq {T : Nat → Int32} {t fi ma : Nat} (hma : ma = 6 ∨ ma = 8) : ∀ n i b, b < 2 ^ ma → (ltc T t (nI fi) (nI ma) n i (nI b) = -1 ∧ ltr T t (nI fi) (nI ma) n i (nI b) = -4) ∨ ∃ c, c < 2 ^ ma ∧ ltc T t (nI fi) (nI ma) n i (nI b) = nI c ∧ ltr T t (nI fi) (nI ma) n i (nI b) = nI c
  | 0, _, b, hb => Or.inr ⟨b, hb, rfl, rfl⟩
  | n + 1, i, b, hb => by
    have hm8 : ma ≤ 8 := by omega
    rw [ltc, ltr]
    have em : (nI ma - 1 < lk T t i - nI fi) ↔ (nI ma ≤ lk T t i - nI fi) := by
      refine sgt ?_
      rcases hma with rfl | rfl <;> decide
    by_cases c : lk T t i - nI fi < 0 ∨ nI ma ≤ lk T t i - nI fi
    · rw [if_pos (Or.inl c), if_pos (Or.inl (c.imp id em.mpr))]
      exact Or.inl ⟨rfl, rfl⟩
    · obtain ⟨d, hd, e⟩ := rng (n := ma) rfl (by omega) (fun z => c (Or.inl z)) (fun z => c (Or.inr z))
      have c' : ¬ (lk T t i - nI fi < 0 ∨ nI ma - 1 < lk T t i - nI fi) := fun z => c (z.imp id em.mp)
      rw [e] at c c' ⊢
      have eb : (((ushr (nI b) (nI d)) &&& 1) = 1) ↔ (((nI b >>> (nI d &&& 31)) &&& 1) = 1) := by rw [bitu _ (by omega), bit1 _ (by omega)]
      by_cases q : ((ushr (nI b) (nI d)) &&& 1) = 1
      · rw [if_pos (Or.inr q), if_pos (Or.inr (eb.mp q))]
        exact Or.inl ⟨rfl, rfl⟩
      · rw [if_neg (fun z => z.elim c q), if_neg (fun z => z.elim c' (fun z => q (eb.mpr z)))]
        have key : ∀ ma, ma ≤ 8 → ∀ d, d < ma → ∀ b, b < 2 ^ ma → (b ||| 2 ^ d) < 2 ^ ma ∧ nI b ||| ((1 : Int32) <<< (nI d &&& 31)) = nI (b ||| 2 ^ d) := by decide +kernel
        obtain ⟨h1, h2⟩ := key ma hm8 d hd b hb
        rw [h2]
        exact lt_eq hma n (i + 1) _ h1
/-- as many letters as bits -/
def pcn (b : Nat) : Nat := (List.range 8).foldl (fun s k => s + (if b.testBit k then 1 else 0)) 0
theorem ltc_cn {T : Nat → Int32} {t fi : Nat} : ∀ n i b c, b < 256 → ltc T t (nI fi) 8 n i (nI b) = nI c → c < 256 → pcn c = pcn b + n
  | 0, _, b, c, hb, h, hc => by
    have : b = c := (ninj (by omega) (by omega)).mp h
    rw [this]; rfl
  | n + 1, i, b, c, hb, h, hc => by
    rw [ltc] at h
    by_cases q : (lk T t i - nI fi < 0 ∨ 8 ≤ lk T t i - nI fi) ∨ ((ushr (nI b) (lk T t i - nI fi)) &&& 1) = 1
    · rw [if_pos q] at h
      exfalso
      have : ∀ c, c < 256 → ¬ (-1 : Int32) = nI c := by decide +kernel
      exact this c hc h
    · rw [if_neg q] at h
      obtain ⟨d, hd, e⟩ := rng (c := 8) (n := 8) rfl (by decide) (fun z => q (Or.inl (Or.inl z))) (fun z => q (Or.inl (Or.inr z)))
      rw [e] at h q
      have q2 : ¬ bt (nI b) d = true := fun z => q (Or.inr ((bitu _ (by omega)).mpr z))
      have key : ∀ d, d < 8 → ∀ b, b < 256 → (b ||| 2 ^ d) < 256 ∧ nI b ||| ((1 : Int32) <<< (nI d &&& 31)) = nI (b ||| 2 ^ d) ∧ (¬ bt (nI b) d = true → pcn (b ||| 2 ^ d) = pcn b + 1) := by decide +kernel
      obtain ⟨h1, h2, h3⟩ := key d hd b hb
      rw [h2] at h
      have := ltc_cn n (i + 1) _ c h1 h hc
      rw [this, h3 q2]; omega
