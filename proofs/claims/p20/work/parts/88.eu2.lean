/-! ===== weighing: the class's and the reference's ===== -/
/-- the class's memory A, with some words counting, and the reference's memory N are about the same -/
def CMP (A N : Mm) (L R W : Nat) (G : Nat → Nat → Int32) : Prop :=
  (∀ v, v < 32 → (bt (gi A 5192 2) v = true ↔ v < W ∧ ¬ cw N v = 0)) ∧
  (∀ d, d < 8 → ∀ v, v < 32 → (bt (gi A (L + 460) d) v = true ↔ v < W ∧ G v 1 = nI d)) ∧
  CY A L (said G W).2.1 (said G W).2.2 ∧ RYZ N W (said G W).2.1 (said G W).2.2 ∧ (∀ w, w < W → ∀ i, i < 8 → wd N w i = G w i) ∧ WL A L G W ∧ gi N 6027 24 = unsd G W ∧
  (∀ i, i < 7 → gi A R i = gi N 6543 i) ∧ (T3 (gi N 6543 3) ∧ T3 (gi N 6543 6) ∧ T5 (gi N 6543 5)) ∧ JW N W ∧ (∀ w, w < W → RS6 G W w) ∧ ∀ w, w < W → RT (G w)
section EU2
variable {A N : Mm} {L R W : Nat} {G : Nat → Nat → Int32}
/-- what a word of the reference says -/
theorem td_v {Y Z : Nat → Nat → Bool} {v c : Nat} (hc : c < 64) (b1 : lb (gl N 6874 v) c = Y v c) (b2 : lb (gl N 6938 v) c = Z v c) : td (gl N 6874 v) (gl N 6938 v) (nI c) = vl2 (Y v c) (Z v c) := by
  unfold td vl2
  by_cases p : Y v c = true
  · rw [if_pos p, if_pos ((lbit _ hc).mpr (b1.trans p))]
  · rw [if_neg p, if_neg (fun z => p (b1.symm.trans ((lbit _ hc).mp z)))]
    by_cases q : Z v c = true
    · rw [if_pos q, if_pos ((lbit _ hc).mpr (b2.trans q))]
    · rw [if_neg q, if_neg (fun z => q (b2.symm.trans ((lbit _ hc).mp z)))]
theorem vl2_c (y z : Bool) : vl2 y z = 1 ∨ vl2 y z = 0 ∨ vl2 y z = -4 := by cases y <;> cases z <;> decide
theorem twv_c (N : Mm) (d c : Int32) (v : Nat) : twv N d c v = 1 ∨ twv N d c v = 0 ∨ twv N d c v = -4 := by
  unfold twv
  by_cases q : wd N v 1 = d ∧ ¬ cw N v = 0
  · rw [if_pos q]
    unfold td
    split
    · exact Or.inl rfl
    · split
      · exact Or.inr (Or.inl rfl)
      · exact Or.inr (Or.inr rfl)
  · rw [if_neg q]; exact Or.inr (Or.inr rfl)
/-- a doctor's words for yes and for no -/
theorem his_b (m : CMP A N L R W G) (hW : W ≤ 24) {d c : Nat} (hd : d < 8) (hc : c < 64) : (∀ x, x < 32 → (bt (his A L d &&& gi A (L + 205) c) x = true ↔ x < W ∧ twv N (nI d) (nI c) x = 1)) ∧ ∀ x, x < 32 → (bt (his A L d &&& gi A (L + 269) c) x = true ↔ x < W ∧ twv N (nI d) (nI c) x = 0) := by
  obtain ⟨m1, m2, cy, ry, rows, -⟩ := m
  have key : ∀ x, x < 32 → (bt (his A L d) x = true ↔ x < W ∧ (wd N x 1 = nI d ∧ ¬ cw N x = 0)) := fun x hx => by
    unfold his
    rw [b_and, Bool.and_eq_true, m2 d hd x hx, m1 x hx]
    constructor
    · rintro ⟨⟨a, b⟩, -, e⟩
      exact ⟨a, by rw [rows x a 1 (by decide)]; exact b, e⟩
    · rintro ⟨a, b, e⟩
      exact ⟨⟨a, by rw [← rows x a 1 (by decide)]; exact b⟩, a, e⟩
  have xx := said_x G hW
  refine ⟨fun x hx => ?_, fun x hx => ?_⟩
  · rw [b_and, Bool.and_eq_true, key x hx, (cy c hc x hx).1]
    unfold twv
    constructor
    · rintro ⟨⟨a, b⟩, e⟩
      obtain ⟨r1, r2⟩ := ry x a c hc
      rw [if_pos b, td_v hc r1 r2, e]
      exact ⟨a, rfl⟩
    · rintro ⟨a, b⟩
      obtain ⟨r1, r2⟩ := ry x a c hc
      by_cases q : wd N x 1 = nI d ∧ ¬ cw N x = 0
      · rw [if_pos q, td_v hc r1 r2] at b
        exact ⟨⟨a, q⟩, (fsv _ _ (xx x c)).1.mp b⟩
      · rw [if_neg q] at b; exact absurd b (by decide)
  · rw [b_and, Bool.and_eq_true, key x hx, (cy c hc x hx).2]
    unfold twv
    constructor
    · rintro ⟨⟨a, b⟩, e⟩
      obtain ⟨r1, r2⟩ := ry x a c hc
      rw [if_pos b, td_v hc r1 r2]
      exact ⟨a, (fsv _ _ (xx x c)).2.1.mpr e⟩
    · rintro ⟨a, b⟩
      obtain ⟨r1, r2⟩ := ry x a c hc
      by_cases q : wd N x 1 = nI d ∧ ¬ cw N x = 0
      · rw [if_pos q, td_v hc r1 r2] at b
        exact ⟨⟨a, q⟩, (fsv _ _ (xx x c)).2.1.mp b⟩
      · rw [if_neg q] at b; exact absurd b (by decide)
/-- the reference's union of a doctor's words -/
theorem fyn_b (m : CMP A N L R W G) (hW : W ≤ 24) {d c : Nat} (hc : c < 64) : ∀ k, k ≤ W → (lb (fyn N (nI d) k).1 c = true ↔ ∃ v, v < k ∧ twv N (nI d) (nI c) v = 1) ∧ (lb (fyn N (nI d) k).2 c = true ↔ ∃ v, v < k ∧ twv N (nI d) (nI c) v = 0)
  | 0, _ => by
    rw [fyn]
    exact ⟨⟨fun z => absurd ((l_0 c).symm.trans z) (by decide), fun ⟨v, h, _⟩ => absurd h (by omega)⟩, ⟨fun z => absurd ((l_0 c).symm.trans z) (by decide), fun ⟨v, h, _⟩ => absurd h (by omega)⟩⟩
  | k + 1, hk => by
    obtain ⟨i1, i2⟩ := fyn_b m hW (d := d) hc k (by omega)
    obtain ⟨m1, m2, cy, ry, rows, -⟩ := m
    obtain ⟨r1, r2⟩ := ry k (by omega) c hc
    have xx := said_x G hW k c
    rw [fyn]
    by_cases q : wd N k 1 = nI d ∧ ¬ cw N k = 0
    · have e : twv N (nI d) (nI c) k = vl2 ((said G W).2.1 k c) ((said G W).2.2 k c) := by unfold twv; rw [if_pos q, td_v hc r1 r2]
      obtain ⟨f1, f2, -⟩ := fsv _ _ xx
      rw [if_pos q]
      refine ⟨?_, ?_⟩
      · show lb ((fyn N (nI d) k).1 ||| gl N 6874 k) c = true ↔ _
        rw [l_or, Bool.or_eq_true, i1, r1]
        constructor
        · rintro (⟨v, a, b⟩ | z)
          · exact ⟨v, by omega, b⟩
          · exact ⟨k, by omega, by rw [e]; exact f1.mpr z⟩
        · rintro ⟨v, a, b⟩
          by_cases ev : v = k
          · subst ev
            rw [e] at b
            exact Or.inr (f1.mp b)
          · exact Or.inl ⟨v, by omega, b⟩
      · show lb ((fyn N (nI d) k).2 ||| gl N 6938 k) c = true ↔ _
        rw [l_or, Bool.or_eq_true, i2, r2]
        constructor
        · rintro (⟨v, a, b⟩ | z)
          · exact ⟨v, by omega, b⟩
          · exact ⟨k, by omega, by rw [e]; exact f2.mpr z⟩
        · rintro ⟨v, a, b⟩
          by_cases ev : v = k
          · subst ev
            rw [e] at b
            exact Or.inr (f2.mp b)
          · exact Or.inl ⟨v, by omega, b⟩
    · have e : twv N (nI d) (nI c) k = -4 := by unfold twv; rw [if_neg q]
      rw [if_neg q, i1, i2]
      have st : ∀ x : Int32, ¬ x = -4 → ((∃ v, v < k ∧ twv N (nI d) (nI c) v = x) ↔ ∃ v, v < k + 1 ∧ twv N (nI d) (nI c) v = x) := fun x nx => by
        constructor
        · rintro ⟨v, a, b⟩; exact ⟨v, by omega, b⟩
        · rintro ⟨v, a, b⟩
          by_cases ev : v = k
          · subst ev
            exact absurd (b.symm.trans e) nx
          · exact ⟨v, by omega, b⟩
      exact ⟨st 1 (by decide), st 0 (by decide)⟩
theorem l_not (x : Int64) {c : Nat} (hc : c < 64) : lb (x ^^^ (-1)) c = !lb x c := by
  have e : lb (-1) c = true := by
    have : ∀ v, v < 64 → lb (-1) v = true := by decide +kernel
    exact this c hc
  have : lb (x ^^^ (-1)) c = (lb x c ^^ lb (-1) c) := by unfold lb; rw [Int64.toBitVec_xor, BitVec.getLsbD_xor]
  rw [this, e, Bool.xor_true]
theorem l_orp (x : Int64) {p : Prop} [Decidable p] {i c : Nat} (hi : i < 64) (hc : c < 64) : lb (x ||| (if p then ((1 : Int64) <<< ((nI i).toInt64 &&& 63)) else 0)) c = true ↔ lb x c = true ∨ (p ∧ c = i) := by
  rw [l_or, Bool.or_eq_true]
  by_cases q : p
  · rw [if_pos q, l_one i hi c hc, decide_eq_true_eq]
    exact ⟨fun h => h.imp id (fun e => ⟨q, e⟩), fun h => h.imp id (fun e => e.2)⟩
  · rw [if_neg q, l_0]
    exact ⟨fun h => h.imp id (fun e => absurd e (by decide)), fun h => h.imp id (fun e => absurd e.1 q)⟩
theorem clv_b {d : Int32} {c : Nat} : lb (clv N W d) c = true ↔ lb (fyn N d W).1 c = true ∧ lb (fyn N d W).2 c = true := by unfold clv; rw [l_and, Bool.and_eq_true]
theorem eyv_b {d : Int32} {c : Nat} (hc : c < 64) : ∀ k, k ≤ 64 → (lb (eyv N W d k) c = true ↔ (lb (fyn N d W).1 c = true ∧ lb (fyn N d W).2 c = false) ∨ (c < k ∧ lb (clv N W d) c = true ∧ o2 N W d (nI c) = 1)) ∧ (lb (enw N W d k) c = true ↔ (lb (fyn N d W).2 c = true ∧ lb (fyn N d W).1 c = false) ∨ (c < k ∧ lb (clv N W d) c = true ∧ o2 N W d (nI c) = 0))
  | 0, _ => by
    rw [eyv, enw, l_and, l_and, l_not _ hc, l_not _ hc, Bool.and_eq_true, Bool.and_eq_true, Bool.not_eq_true', Bool.not_eq_true']
    exact ⟨⟨Or.inl, fun h => h.elim id (fun z => absurd z.1 (by omega))⟩, ⟨Or.inl, fun h => h.elim id (fun z => absurd z.1 (by omega))⟩⟩
  | k + 1, hk => by
    obtain ⟨i1, i2⟩ := eyv_b (d := d) hc k (by omega)
    rw [eyv, enw]
    have ext : ∀ (p q : Prop), ((p ∨ (c < k ∧ q)) ∨ (q ∧ c = k)) ↔ (p ∨ (c < k + 1 ∧ q)) := fun p q => by
      constructor
      · rintro ((z | z) | z)
        · exact Or.inl z
        · exact Or.inr ⟨by omega, z.2⟩
        · exact Or.inr ⟨by omega, z.1⟩
      · rintro (z | z)
        · exact Or.inl (Or.inl z)
        · by_cases e : c = k
          · exact Or.inr ⟨z.2, e⟩
          · exact Or.inl (Or.inr ⟨by omega, z.2⟩)
    by_cases q : ((clv N W d >>> ((nI k).toInt64 &&& 63)) &&& 1) = 1
    · rw [if_pos q, if_pos q, l_orp _ (by omega) hc, l_orp _ (by omega) hc, i1, i2]
      have cl : c = k → lb (clv N W d) c = true := fun e => by rw [e]; exact (lbit _ (by omega)).mp q
      refine ⟨?_, ?_⟩
      · rw [← ext]
        exact ⟨fun z => z.imp id (fun z => ⟨⟨cl z.2, by rw [z.2]; exact z.1⟩, z.2⟩), fun z => z.imp id (fun z => ⟨by rw [← z.2]; exact z.1.2, z.2⟩)⟩
      · rw [← ext]
        exact ⟨fun z => z.imp id (fun z => ⟨⟨cl z.2, by rw [z.2]; exact z.1⟩, z.2⟩), fun z => z.imp id (fun z => ⟨by rw [← z.2]; exact z.1.2, z.2⟩)⟩
    · rw [if_neg q, if_neg q, i1, i2]
      have nc : c = k → ¬ lb (clv N W d) c = true := fun e z => q (by rw [e] at z; exact (lbit _ (by omega)).mpr z)
      have st : ∀ (p : Prop) (x : Int32), (p ∨ (c < k ∧ lb (clv N W d) c = true ∧ o2 N W d (nI c) = x)) ↔ (p ∨ (c < k + 1 ∧ lb (clv N W d) c = true ∧ o2 N W d (nI c) = x)) := fun p x => by
        constructor
        · rintro (z | z)
          · exact Or.inl z
          · exact Or.inr ⟨by omega, z.2⟩
        · rintro (z | z)
          · exact Or.inl z
          · by_cases e : c = k
            · exact absurd z.2.1 (nc e)
            · exact Or.inr ⟨by omega, z.2⟩
      exact ⟨st _ 1, st _ 0⟩
/-- an opinion, the same on both sides -/
theorem wt_e (m : CMP A N L R W G) {v : Nat} (hv : v < W) (hW : W ≤ 24) (hs : bt (unsd G W) v = false) : wt N v = wgv G v := by
  obtain ⟨-, -, -, -, rows, -, hu, -, -, -, rs, -⟩ := m
  have nu : ¬ uns N v := fun z => by
    unfold uns at z
    rw [bit1 _ (by omega), hu, hs] at z
    exact absurd z (by decide)
  have r6 : ∀ w, w < W → G w 6 = -4 ∨ ∃ f, f < W ∧ G w 6 = nI f := fun w hw => by
    rcases (rs w hw).1 with z | ⟨-, f, hf, -, e⟩
    · exact Or.inl z.2
    · exact Or.inr ⟨f, hf, e⟩
  obtain ⟨e1, e2⟩ := eng_cg (g := G) (g' := wd N) hW (fun w hw => (rows w hw 6 (by decide)).symm) r6 25 v hv
  unfold wt wgv
  rw [if_neg nu, eng_e, ← e1, rows _ e2 3 (by decide), rows _ e2 4 (by decide)]
/-- who speaks is sound -/
theorem sp_sound {g : Nat → Nat → Int32} {u : Int32} {D v : Nat} (hD : D ≤ 32) (hv : v < 32) (hu : bt u v = true) : ∀ n, bt (spR g u sq0 D n).1 v = false
  | 0 => by show bt 0 v = false; exact b_0 v
  | n + 1 => by
    have ih := sp_sound (g := g) (u := u) (D := D) hD hv hu n
    rw [spR]
    generalize spR g u sq0 D n = q at ih
    have key : ∀ w, w ≤ D → bt (spr g u q w).1 v = false := by
      intro w
      induction w with
      | zero => intro _; exact ih
      | succ w ihw =>
        intro hw
        have i := ihw (by omega)
        rw [spr]
        generalize spr g u q w = p at i
        unfold sp1
        by_cases c : bt p.1 w = false ∧ bt u w = false ∧ (fowg g w &&& (p.1 ^^^ (-1))) = 0
        · rw [if_pos c]
          show bt (p.1 ||| ((1 : Int32) <<< (nI w &&& 31))) v = false
          cases z : bt (p.1 ||| ((1 : Int32) <<< (nI w &&& 31))) v
          · rfl
          · rcases (bt_or1 _ (by omega) hv).mp z with y | y
            · rw [i] at y; exact absurd y (by decide)
            · subst y
              rw [hu] at c
              exact absurd c.2.1 (by decide)
        · rw [if_neg c]; exact i
    exact key D (Nat.le_refl D)
theorem said_sound {v c : Nat} (hW : W ≤ 24) (hv : v < W) (h : (said G W).2.1 v c = true ∨ (said G W).2.2 v c = true) : bt (unsd G W) v = false := by
  cases z : bt (unsd G W) v
  · rfl
  · exfalso
    have q := sp_sound (g := G) (D := W) (by omega) (show v < 32 by omega) z W
    have := (si_spR (g := G) (u := unsd G W) (W := W) (by omega) si_0 W).1 v c (fun y => by rw [q] at y; exact absurd y.2 (by decide))
    have e1 : (said G W).2.1 v c = false := this.1
    have e2 : (said G W).2.2 v c = false := this.2
    rw [e1, e2] at h
    rcases h with h | h <;> exact absurd h (by decide)
theorem twv_s (m : CMP A N L R W G) (hW : W ≤ 24) {d c v : Nat} (hc : c < 64) (hv : v < W) (h : ¬ twv N (nI d) (nI c) v = -4) : bt (unsd G W) v = false := by
  obtain ⟨-, -, -, ry, -⟩ := m
  obtain ⟨r1, r2⟩ := ry v hv c hc
  unfold twv at h
  by_cases q : wd N v 1 = nI d ∧ ¬ cw N v = 0
  · rw [if_pos q, td_v hc r1 r2] at h
    refine said_sound (c := c) hW hv ?_
    revert h
    cases (said G W).2.1 v c <;> cases (said G W).2.2 v c <;> decide
  · rw [if_neg q] at h; exact absurd rfl h
theorem wgv_k (m : CMP A N L R W G) {v : Nat} (hv : v < W) (hs : bt (unsd G W) v = false) : ∃ k, k < 7 ∧ wgv G v = nI k := ((m.2.2.2.2.2.1.2.2.2 v hv).2 hs).1
end EU2
