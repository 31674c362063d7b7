/-! ===== words that count, the same on both sides ===== -/
section EQX
variable {M : Mm} {L R W : Nat}
theorem mwd_b : ∀ k, k ≤ 8 → ∀ v, v < 32 → (bt (mwd M L R k) v = true ↔ ∃ d, d < k ∧ bt (gi M R 0) d = true ∧ bt (gi M (L + 460) d) v = true)
  | 0, _, v, _ => by
    rw [mwd, b_0]
    exact ⟨fun h => absurd h (by decide), fun ⟨d, h, _⟩ => absurd h (by omega)⟩
  | k + 1, hk, v, hv => by
    have ih := mwd_b k (by omega) v hv
    rw [mwd]
    by_cases q : bt (gi M R 0) k = true
    · have q1 : ((ushr (gi M R 0) (nI k)) &&& 1) = 1 := (bitu _ (by omega)).mpr q
      rw [if_pos q1, b_or, Bool.or_eq_true, ih]
      constructor
      · rintro (⟨d, h1, h2⟩ | h)
        · exact ⟨d, by omega, h2⟩
        · exact ⟨k, by omega, q, h⟩
      · rintro ⟨d, h1, h2⟩
        by_cases e : d = k
        · subst e; exact Or.inr h2.2
        · exact Or.inl ⟨d, by omega, h2⟩
    · have q1 : ¬ ((ushr (gi M R 0) (nI k)) &&& 1) = 1 := fun z => q ((bitu _ (by omega)).mp z)
      rw [if_neg q1]
      have e0 : bt (mwd M L R k ||| 0) v = bt (mwd M L R k) v := by rw [or_032]
      first | rw [e0, ih] | rw [ih]
      constructor
      · rintro ⟨d, h1, h2⟩; exact ⟨d, by omega, h2⟩
      · rintro ⟨d, h1, h2⟩
        by_cases e : d = k
        · subst e; exact absurd h2.1 q
        · exact ⟨d, by omega, h2⟩
theorem cto_b {b : Int32} : ∀ k, k ≤ 8 → ∀ v, v < 32 → (bt (cto M L R b k) v = true ↔ bt (mwd M L R 8) v = true ∨ ∃ d, d < k ∧ (bt b d = true ∧ ¬ gi M (L + 140) d < gi M R 1) ∧ bt (gi M (L + 524) d) v = true)
  | 0, _, v, _ => by
    rw [cto]
    exact ⟨Or.inl, fun h => h.elim id (fun ⟨d, h, _⟩ => absurd h (by omega))⟩
  | k + 1, hk, v, hv => by
    have ih := cto_b (b := b) k (by omega) v hv
    rw [cto]
    by_cases q : bt b k = true ∧ ¬ gi M (L + 140) k < gi M R 1
    · have q1 : ((ushr b (nI k)) &&& 1) = 1 ∧ ¬ gi M (L + 140) k < gi M R 1 := ⟨(bitu _ (by omega)).mpr q.1, q.2⟩
      rw [if_pos q1, b_or, Bool.or_eq_true, ih]
      constructor
      · rintro ((h | ⟨d, h1, h2⟩) | h)
        · exact Or.inl h
        · exact Or.inr ⟨d, by omega, h2⟩
        · exact Or.inr ⟨k, by omega, q, h⟩
      · rintro (h | ⟨d, h1, h2⟩)
        · exact Or.inl (Or.inl h)
        · by_cases e : d = k
          · subst e; exact Or.inr h2.2
          · exact Or.inl (Or.inr ⟨d, by omega, h2⟩)
    · have q1 : ¬ (((ushr b (nI k)) &&& 1) = 1 ∧ ¬ gi M (L + 140) k < gi M R 1) := fun z => q ⟨(bitu _ (by omega)).mp z.1, z.2⟩
      rw [if_neg q1, ih]
      constructor
      · rintro (h | ⟨d, h1, h2⟩)
        · exact Or.inl h
        · exact Or.inr ⟨d, by omega, h2⟩
      · rintro (h | ⟨d, h1, h2⟩)
        · exact Or.inl h
        · by_cases e : d = k
          · subst e; exact absurd h2.1 q
          · exact Or.inr ⟨d, by omega, h2⟩
theorem cnt_b {S D : Nat} {G : Nat → Nat → Int32} (ex : EX M L R S D W) (ey : EY M L W G) (rk : ∀ w, w < W → ∃ b, b < 8 ∧ wd M w 2 = nI b) {v : Nat} (hv : v < 32) : bt (ctg M L R (gi M 10 9)) v = true ↔ v < W ∧ ¬ cw M v = 0 := by
  obtain ⟨-, x1, x2, x3, x4, x5, ⟨x6, x7⟩, x8⟩ := ex
  obtain ⟨y1, y2, ⟨⟨s1, s2, s3, s4⟩, -⟩, -⟩ := ey
  have nn : ∀ x : Int32, bt (x ^^^ (-1)) v = true ↔ ¬ bt x v = true := fun x => by
    rw [b_not x hv]
    cases bt x v <;> decide
  have m1 : bt (-1) v = true := by
    have : ∀ v, v < 32 → bt (-1) v = true := by decide +kernel
    exact this v hv
  have n2 : bt (if gi M R 2 = 0 then gi M L 11 ^^^ (-1) else -1) v = true ↔ ¬ (gi M R 2 = 0 ∧ bt (gi M L 11) v = true) := by
    by_cases q : gi M R 2 = 0
    · rw [if_pos q, nn]; exact ⟨fun h z => h z.2, fun h z => h ⟨q, z⟩⟩
    · rw [if_neg q, m1]; exact ⟨fun _ z => q z.1, fun _ => rfl⟩
  unfold ctg
  rw [b_and, b_and, Bool.and_eq_true, Bool.and_eq_true, n2, nn, cto_b 8 (Nat.le_refl 8) v hv, mwd_b 8 (Nat.le_refl 8) v hv, s3 v hv, s4 v hv]
  by_cases lv : v < W
  · have wd_ : ∀ k, k < 8 → wd M v k = G v k := fun k hk => y1 v lv k hk
    obtain ⟨⟨t1, t2, -⟩, -⟩ := y2 v lv
    obtain ⟨b, hb, eb⟩ := rk v lv
    have eb' : G v 2 = nI b := by rw [← wd_ 2 (by decide)]; exact eb
    unfold cw
    rw [wd_ 0 (by decide), wd_ 1 (by decide), eb, ← x3 0 (by decide), ← x3 1 (by decide), ← x3 2 (by decide), ← x1, ncl (by omega), ← x5 b hb]
    by_cases k5 : G v 0 = 5
    · rw [if_pos k5]
      exact ⟨fun h => absurd ⟨lv, k5⟩ h.1.2, fun h => absurd rfl h.2⟩
    · rw [if_neg k5]
      obtain ⟨d, hd, ed⟩ := t2 k5
      by_cases k3 : G v 0 = 3 ∧ gi M R 2 = 0
      · rw [if_pos k3]
        exact ⟨fun h => absurd ⟨k3.2, lv, k3.1⟩ h.2, fun h => absurd rfl h.2⟩
      · rw [if_neg k3, ed]
        have c : (((gi M R 0 >>> (nI d &&& 31)) &&& 1) = 1 ∨ (((gi M 10 9 >>> (nI b &&& 31)) &&& 1) = 1 ∧ ¬ gi M (L + 140) b < gi M R 1)) ↔ (bt (gi M R 0) d = true ∨ (bt (gi M 10 9) b = true ∧ ¬ gi M (L + 140) b < gi M R 1)) := by rw [bit1 _ (by omega), bit1 _ (by omega)]
        have rhs : ¬ (if ((gi M R 0 >>> (nI d &&& 31)) &&& 1) = 1 ∨ (((gi M 10 9 >>> (nI b &&& 31)) &&& 1) = 1 ∧ ¬ gi M (L + 140) b < gi M R 1) then (1 : Int32) else 0) = 0 ↔ (bt (gi M R 0) d = true ∨ (bt (gi M 10 9) b = true ∧ ¬ gi M (L + 140) b < gi M R 1)) := by
          rw [← c]
          by_cases z : ((gi M R 0 >>> (nI d &&& 31)) &&& 1) = 1 ∨ (((gi M 10 9 >>> (nI b &&& 31)) &&& 1) = 1 ∧ ¬ gi M (L + 140) b < gi M R 1)
          · rw [if_pos z]; exact ⟨fun _ => z, fun _ => by decide⟩
          · rw [if_neg z]; exact ⟨fun y => absurd rfl y, fun y => absurd y z⟩
        rw [rhs]
        constructor
        · rintro ⟨⟨h, -⟩, -⟩
          refine ⟨lv, ?_⟩
          rcases h with ⟨d', hd', z1, z2⟩ | ⟨b', hb', z1, z2⟩
          · have := ((s1 d' hd' v hv).mp z2).2
            rw [ed, ninj (by omega) (by omega)] at this
            subst this
            exact Or.inl z1
          · have := ((s2 b' hb' v hv).mp z2).2
            rw [eb', ninj (by omega) (by omega)] at this
            subst this
            exact Or.inr z1
        · rintro ⟨-, h⟩
          refine ⟨⟨?_, fun z => k5 z.2⟩, fun z => k3 ⟨z.2.2, z.1⟩⟩
          rcases h with h | h
          · exact Or.inl ⟨d, hd, h, (s1 d hd v hv).mpr ⟨lv, ed⟩⟩
          · exact Or.inr ⟨b, hb, h, (s2 b hb v hv).mpr ⟨lv, eb'⟩⟩
  · constructor
    · rintro ⟨⟨h, -⟩, -⟩
      exfalso
      rcases h with ⟨d', hd', z1, z2⟩ | ⟨b', hb', z1, z2⟩
      · exact lv ((s1 d' hd' v hv).mp z2).1
      · exact lv ((s2 b' hb' v hv).mp z2).1
    · rintro ⟨h, -⟩; exact absurd h lv
end EQX
