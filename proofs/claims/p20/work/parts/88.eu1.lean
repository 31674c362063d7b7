/-! ===== two words of one doctor: the reference's walk, and what the class makes of bits ===== -/
/-- of what speaks, the weightiest: who, how weighty, whether there are two of them that differ -/
def TRs (f μ : Nat → Int32) (k : Nat) (s : Int32 × Int32 × Int32) : Prop :=
  ((∀ v, v < k → f v = -4) ∧ s = (-4, -1, 0)) ∨
  ((∀ v, v < k → ¬ f v = -4 → μ v ≤ s.2.1) ∧ (∃ v, v < k ∧ ¬ f v = -4 ∧ μ v = s.2.1 ∧ f v = s.1) ∧ ((s.2.2 = 0 ∧ ∀ v, v < k → ¬ f v = -4 → μ v = s.2.1 → f v = s.1) ∨ (¬ s.2.2 = 0 ∧ ∃ v, v < k ∧ ¬ f v = -4 ∧ μ v = s.2.1 ∧ ¬ f v = s.1)))
def tst (f μ : Nat → Int32) (k : Nat) (s : Int32 × Int32 × Int32) : Int32 × Int32 × Int32 := if f k = -4 ∨ μ k < s.2.1 then s else (f k, μ k, if μ k = s.2.1 ∧ (¬ s.2.2 = 0 ∨ ¬ f k = s.1) then 1 else 0)
theorem trs_s {f μ : Nat → Int32} {k : Nat} {s : Int32 × Int32 × Int32} (hp : ¬ f k = -4 → ¬ μ k < 0) (h : TRs f μ k s) : TRs f μ (k + 1) (tst f μ k s) := by
  unfold tst
  by_cases c : f k = -4 ∨ μ k < s.2.1
  · rw [if_pos c]
    rcases h with ⟨h1, h2⟩ | ⟨h1, ⟨w, w1, w2, w3, w4⟩, h3⟩
    · left
      refine ⟨fun v hv => ?_, h2⟩
      by_cases e : v = k
      · subst e
        rcases c with c | c
        · exact c
        · by_cases z : f v = -4
          · exact z
          · exfalso
            rw [h2, Int32.lt_iff_toInt_lt] at c
            have := hp z
            rw [Int32.lt_iff_toInt_lt] at this
            have e1 : (-1 : Int32).toInt = -1 := by decide
            have e0 : (0 : Int32).toInt = 0 := by decide
            have c' : (μ v).toInt < (-1 : Int32).toInt := c
            omega
      · exact h1 v (by omega)
    · right
      have nk : ∀ v, v < k + 1 → ¬ f v = -4 → v < k ∨ (v = k ∧ μ v < s.2.1) := fun v hv z => by
        by_cases e : v = k
        · subst e
          exact Or.inr ⟨rfl, c.resolve_left z⟩
        · exact Or.inl (by omega)
      refine ⟨fun v hv z => ?_, ⟨w, by omega, w2, w3, w4⟩, ?_⟩
      · rcases nk v hv z with y | y
        · exact h1 v y z
        · exact Int32.le_of_lt y.2
      · rcases h3 with ⟨a, b⟩ | ⟨a, v, b⟩
        · refine Or.inl ⟨a, fun v hv z e => ?_⟩
          rcases nk v hv z with y | y
          · exact b v y z e
          · exfalso
            rw [e] at y
            exact Int32.lt_irrefl y.2
        · exact Or.inr ⟨a, v, by omega, b.2⟩
  · rw [if_neg c]
    have c1 : ¬ f k = -4 := fun z => c (Or.inl z)
    have c2 : ¬ μ k < s.2.1 := fun z => c (Or.inr z)
    right
    rcases h with ⟨h1, h2⟩ | ⟨h1, ⟨w, w1, w2, w3, w4⟩, h3⟩
    · have only : ∀ v, v < k + 1 → ¬ f v = -4 → v = k := fun v hv z => by
        by_cases e : v = k
        · exact e
        · exact absurd (h1 v (by omega)) z
      refine ⟨fun v hv z => ?_, ⟨k, by omega, c1, rfl, rfl⟩, Or.inl ⟨if_neg (fun z => ?_), fun v hv z _ => ?_⟩⟩
      · rw [only v hv z]; exact Int32.le_refl _
      · rw [h2] at z
        have := hp c1
        have z1 : μ k = -1 := z.1
        rw [z1] at this
        exact this (by decide)
      · rw [only v hv z]
    · by_cases e : μ k = s.2.1
      · refine ⟨fun v hv z => ?_, ⟨k, by omega, c1, rfl, rfl⟩, ?_⟩
        · show μ v ≤ μ k
          by_cases q : v = k
          · rw [q]; exact Int32.le_refl _
          · rw [e]; exact h1 v (by omega) z
        · show ((if μ k = s.2.1 ∧ (¬ s.2.2 = 0 ∨ ¬ f k = s.1) then (1 : Int32) else 0) = 0 ∧ ∀ v, v < k + 1 → ¬ f v = -4 → μ v = μ k → f v = f k) ∨ (¬ (if μ k = s.2.1 ∧ (¬ s.2.2 = 0 ∨ ¬ f k = s.1) then (1 : Int32) else 0) = 0 ∧ ∃ v, v < k + 1 ∧ ¬ f v = -4 ∧ μ v = μ k ∧ ¬ f v = f k)
          by_cases z : ¬ s.2.2 = 0 ∨ ¬ f k = s.1
          · right
            rw [if_pos ⟨e, z⟩]
            refine ⟨by decide, ?_⟩
            by_cases y : f k = s.1
            · rcases h3 with ⟨a, b⟩ | ⟨a, v, b1, b2, b3, b4⟩
              · rcases z with z | z
                · exact absurd a z
                · exact absurd y z
              · exact ⟨v, by omega, b2, b3.trans e.symm, fun q => b4 (q.trans y)⟩
            · exact ⟨w, by omega, w2, w3.trans e.symm, fun q => y (q.symm.trans w4)⟩
          · left
            rw [if_neg (fun q => z q.2)]
            have z1 : s.2.2 = 0 := by
              by_cases y : s.2.2 = 0
              · exact y
              · exact absurd (Or.inl y) z
            have z2 : f k = s.1 := by
              by_cases y : f k = s.1
              · exact y
              · exact absurd (Or.inr y) z
            refine ⟨rfl, fun v hv q r => ?_⟩
            by_cases y : v = k
            · rw [y]
            · rcases h3 with ⟨a, b⟩ | ⟨a, -⟩
              · rw [b v (by omega) q (r.trans e), z2]
              · exact absurd z1 a
      · have lt : s.2.1.toInt < (μ k).toInt := by
          rw [Int32.lt_iff_toInt_lt] at c2
          have : ¬ (μ k).toInt = s.2.1.toInt := fun q => e (Int32.toInt_inj.mp q)
          omega
        have old : ∀ v, v < k → ¬ f v = -4 → (μ v).toInt < (μ k).toInt := fun v hv z => by
          have := h1 v hv z
          rw [Int32.le_iff_toInt_le] at this
          omega
        refine ⟨fun v hv z => ?_, ⟨k, by omega, c1, rfl, rfl⟩, Or.inl ⟨if_neg (fun z => e z.1), fun v hv z r => ?_⟩⟩
        · show μ v ≤ μ k
          by_cases q : v = k
          · rw [q]; exact Int32.le_refl _
          · rw [Int32.le_iff_toInt_le]
            have := old v (by omega) z
            omega
        · have r' : μ v = μ k := r
          show f v = f k
          by_cases q : v = k
          · rw [q]
          · have := old v (by omega) z
            rw [r'] at this
            omega
theorem tw_st (M : Mm) (d c : Int32) (i : Nat) : tw M d c (i + 1) = tst (twv M d c) (twt M) i (tw M d c i) := by rw [tw]; rfl
theorem trs_tw {M : Mm} {d c : Int32} : ∀ k, (∀ v, v < k → ¬ twv M d c v = -4 → ¬ twt M v < 0) → TRs (twv M d c) (twt M) k (tw M d c k)
  | 0, _ => Or.inl ⟨fun v hv => absurd hv (by omega), rfl⟩
  | k + 1, h => by rw [tw_st]; exact trs_s (h k (by omega)) (trs_tw k (fun v hv => h v (by omega)))
/-- numbers by their greatest bit -/
theorem bt_tb (x : Int32) (i : Nat) : bt x i = (tN x).testBit i := by unfold bt tN; rw [BitVec.testBit_toNat]
theorem tN_lt_p {x : Int32} {p : Nat} (h : ∀ i, i < 32 → bt x i = true → i < p) : tN x < 2 ^ p := by
  refine Nat.lt_pow_two_of_testBit (tN x) (fun i hi => ?_)
  rw [← bt_tb]
  by_cases l : i < 32
  · cases z : bt x i
    · rfl
    · have := h i l z
      omega
  · unfold bt
    exact BitVec.getLsbD_of_ge _ _ (by omega)
theorem tN_ge_p {x : Int32} {p : Nat} (h : bt x p = true) : 2 ^ p ≤ tN x := Nat.ge_two_pow_of_testBit (by rw [← bt_tb]; exact h)
theorem tI_of {x : Int32} (h : ∀ i, i < 32 → bt x i = true → i < 31) : x.toInt = (tN x : Int) := by
  have := tN_lt_p h
  show x.toBitVec.toInt = _
  rw [BitVec.toInt_eq_toNat_of_lt (by unfold tN at this; omega)]
  rfl
theorem cmp_b {y n : Int32} {p : Nat} (hp : p < 31) (h1 : ∀ i, i < 32 → bt n i = true → i < p) (h2 : bt y p = true) (h3 : ∀ i, i < 32 → bt y i = true → i < 31) : ¬ y ≤ n ∧ n ≤ y := by
  have a := tN_lt_p h1
  have b := tN_ge_p h2
  have e1 := tI_of h3
  have e2 := tI_of (x := n) (fun i hi z => by have := h1 i hi z; omega)
  rw [Int32.le_iff_toInt_le, Int32.le_iff_toInt_le, e1, e2]
  omega
/-- words of weight k, and the found one -/
def owk (M : Mm) (L : Nat) (fw : Int32) (k : Nat) : Int32 := gi M (L + 590) k ||| (if nI k = fw then 16777216 else 0)
theorem hvs_at {M : Mm} {L : Nat} {ws fw : Int32} {q : Nat} (hq : ¬ (ws &&& owk M L fw q) = 0) : ∀ k, q < k → (∀ j, q < j → j < k → (ws &&& owk M L fw j) = 0) → hvs M L ws fw k = ws &&& owk M L fw q
  | 0, h, _ => absurd h (by omega)
  | k + 1, h, h2 => by
    show (if (ws &&& owk M L fw k) = 0 then hvs M L ws fw k else ws &&& owk M L fw k) = _
    by_cases e : q = k
    · subst e
      rw [if_neg hq]
    · rw [if_pos (h2 k (by omega) (by omega))]
      exact hvs_at hq k (by omega) (fun j h3 h4 => h2 j h3 (by omega))
/-- what the class makes of two words is what the walk says -/
theorem stl_tr {A : Mm} {L R K : Nat} {y n fw : Int32} {f μ : Nat → Int32} {β : Nat → Nat} {s : Int32 × Int32 × Int32} (hβ : ∀ v, v < K → β v < 31) (hm : ∀ v w, v < w → w < K → β v < β w) (hf : ∀ v, v < K → f v = 1 ∨ f v = 0 ∨ f v = -4)
    (hy : ∀ x, x < 32 → (bt y x = true ↔ ∃ v, v < K ∧ β v = x ∧ f v = 1)) (hn : ∀ x, x < 32 → (bt n x = true ↔ ∃ v, v < K ∧ β v = x ∧ f v = 0))
    (y0 : ¬ y = 0) (n0 : ¬ n = 0) (r3 : gi A R 3 = 1 ∨ gi A R 3 = 2) (tr : TRs f μ K s)
    (h1 : gi A R 3 = 1 → ∀ v, v < K → μ v = nI v) (h2 : gi A R 3 = 2 → (∀ v, v < K → ¬ f v = -4 → ∃ k, k < 7 ∧ μ v = nI k) ∧ ∀ k, k < 7 → ∀ v, v < K → ¬ f v = -4 → (bt (owk A L fw k) (β v) = true ↔ μ v = nI k)) (hK : K ≤ 25) :
    stl A L R y n fw = if s.2.2 = 0 then s.1 else -4 := by
  have inj : ∀ v w, v < K → w < K → β v = β w → v = w := fun v w hv hw e => by
    by_cases a : v < w
    · have := hm v w a hw; omega
    · by_cases b : w < v
      · have := hm w v b hv; omega
      · omega
  have ny : ∃ v, v < K ∧ f v = 1 := by
    obtain ⟨x, hx, e⟩ := nz_b.mp y0
    obtain ⟨v, hv, -, e⟩ := (hy x hx).mp e
    exact ⟨v, hv, e⟩
  obtain ⟨vy, hvy, ey⟩ := ny
  have t2 := tr.resolve_left (fun z => by have := z.1 vy hvy; rw [ey] at this; exact absurd this (by decide))
  obtain ⟨t1, ⟨w, w1, w2, w3, w4⟩, t3⟩ := t2
  unfold stl
  rw [if_neg (fun z => z.elim y0 n0)]
  rcases r3 with r | r
  · rw [if_pos r]
    have mu := h1 r
    have wmax : ∀ v, v < K → ¬ f v = -4 → v ≤ w := fun v hv z => by
      have := t1 v hv z
      rw [← w3, mu v hv, mu w w1, nle (by omega) (by omega)] at this
      exact this
    have s0 : s.2.2 = 0 := by
      rcases t3 with ⟨a, -⟩ | ⟨-, v, v1, v2, v3, v4⟩
      · exact a
      · exfalso
        rw [← w3, mu v v1, mu w w1, ninj (by omega) (by omega)] at v3
        subst v3
        exact v4 w4
    rw [if_pos s0, ← w4]
    have bl : ∀ (x : Int32) (a : Int32), ¬ a = -4 → (∀ i, i < 32 → (bt x i = true ↔ ∃ v, v < K ∧ β v = i ∧ f v = a)) → ¬ f w = a → ∀ i, i < 32 → bt x i = true → i < β w := fun x a na hx nw i hi z => by
      obtain ⟨v, hv, e, ef⟩ := (hx i hi).mp z
      have le := wmax v hv (by rw [ef]; exact na)
      have ne : v ≠ w := fun q => nw (by rw [← q]; exact ef)
      rw [← e]
      exact hm v w (by omega) w1
    have b31 : ∀ (x : Int32) (a : Int32), (∀ i, i < 32 → (bt x i = true ↔ ∃ v, v < K ∧ β v = i ∧ f v = a)) → ∀ i, i < 32 → bt x i = true → i < 31 := fun x a hx i hi z => by
      obtain ⟨v, hv, e, -⟩ := (hx i hi).mp z
      rw [← e]; exact hβ v hv
    have bw := hβ w w1
    rcases hf w w1 with e | e | e
    · have := cmp_b (y := y) (n := n) (p := β w) bw (bl n 0 (by decide) hn (by rw [e]; decide)) ((hy _ (by omega)).mpr ⟨w, w1, rfl, e⟩) (b31 y 1 hy)
      rw [if_neg this.1, e]
    · have := cmp_b (y := n) (n := y) (p := β w) bw (bl y 1 (by decide) hy (by rw [e]; decide)) ((hn _ (by omega)).mpr ⟨w, w1, rfl, e⟩) (b31 n 0 hn)
      rw [if_pos this.2, e]
    · exact absurd e w2
  · rw [if_neg (by rw [r]; decide), if_pos r]
    obtain ⟨m1, m2⟩ := h2 r
    obtain ⟨q, hq, eq⟩ := m1 w w1 w2
    have bor : ∀ x, x < 32 → (bt (y ||| n) x = true ↔ ∃ v, v < K ∧ β v = x ∧ ¬ f v = -4) := fun x hx => by
      rw [b_or, Bool.or_eq_true, hy x hx, hn x hx]
      constructor
      · rintro (⟨v, a, b, c⟩ | ⟨v, a, b, c⟩)
        · exact ⟨v, a, b, by rw [c]; decide⟩
        · exact ⟨v, a, b, by rw [c]; decide⟩
      · rintro ⟨v, a, b, c⟩
        rcases hf v a with e | e | e
        · exact Or.inl ⟨v, a, b, e⟩
        · exact Or.inr ⟨v, a, b, e⟩
        · exact absurd e c
    have hvy : hvs A L (y ||| n) fw 7 = (y ||| n) &&& owk A L fw q := by
      refine hvs_at ?_ 7 hq (fun j h3 h4 => ?_)
      · refine nz_b.mpr ⟨β w, by have := hβ w w1; omega, ?_⟩
        rw [b_and, Bool.and_eq_true]
        exact ⟨(bor _ (by have := hβ w w1; omega)).mpr ⟨w, w1, rfl, w2⟩, (m2 q hq w w1 w2).mpr eq⟩
      · by_cases z : ((y ||| n) &&& owk A L fw j) = 0
        · exact z
        · exfalso
          obtain ⟨x, hx, e⟩ := nz_b.mp z
          rw [b_and, Bool.and_eq_true] at e
          obtain ⟨v, a, b, c⟩ := (bor x hx).mp e.1
          have e2 := e.2
          rw [← b] at e2
          have mj := (m2 j h4 v a c).mp e2
          have := t1 v a c
          rw [← w3, eq, mj, nle (by omega) (by omega)] at this
          omega
    have pick : ∀ (x a : Int32), ¬ a = -4 → (∀ i, i < 32 → (bt x i = true ↔ ∃ v, v < K ∧ β v = i ∧ f v = a)) → (¬ (x &&& hvs A L (y ||| n) fw 7) = 0 ↔ ∃ v, v < K ∧ f v = a ∧ μ v = s.2.1) := by
      intro x a na hx
      rw [hvy, nz_b]
      constructor
      · rintro ⟨i, hi, e⟩
        rw [b_and, b_and, Bool.and_eq_true, Bool.and_eq_true] at e
        obtain ⟨v, v1, v2, v3⟩ := (hx i hi).mp e.1
        have e2 := e.2.2
        rw [← v2] at e2
        exact ⟨v, v1, v3, by rw [(m2 q hq v v1 (by rw [v3]; exact na)).mp e2, ← w3, eq]⟩
      · rintro ⟨v, v1, v2, v3⟩
        have nf : ¬ f v = -4 := by rw [v2]; exact na
        refine ⟨β v, by have := hβ v v1; omega, ?_⟩
        rw [b_and, b_and, Bool.and_eq_true, Bool.and_eq_true]
        exact ⟨(hx _ (by have := hβ v v1; omega)).mpr ⟨v, v1, rfl, v2⟩, (bor _ (by have := hβ v v1; omega)).mpr ⟨v, v1, rfl, nf⟩, (m2 q hq v v1 nf).mpr (by rw [v3, ← w3, eq])⟩
    have py := pick y 1 (by decide) hy
    have pn := pick n 0 (by decide) hn
    generalize hvs A L (y ||| n) fw 7 = H at py pn
    unfold agr
    rcases t3 with ⟨a, b⟩ | ⟨a, v, v1, v2, v3, v4⟩
    · rw [if_pos a]
      rcases hf w w1 with e | e | e
      · have nz : (n &&& H) = 0 := by
          by_cases z : (n &&& H) = 0
          · exact z
          · obtain ⟨x, x1, x2, x3⟩ := pn.mp z
            have := b x x1 (by rw [x2]; decide) x3
            rw [x2, ← w4, e] at this
            exact absurd this (by decide)
        rw [if_pos nz, if_neg (py.mpr ⟨w, w1, e, w3⟩), ← w4, e]
      · have yz : (y &&& H) = 0 := by
          by_cases z : (y &&& H) = 0
          · exact z
          · obtain ⟨x, x1, x2, x3⟩ := py.mp z
            have := b x x1 (by rw [x2]; decide) x3
            rw [x2, ← w4, e] at this
            exact absurd this (by decide)
        rw [if_neg (pn.mpr ⟨w, w1, e, w3⟩), if_pos yz, ← w4, e]
      · exact absurd e w2
    · rw [if_neg a]
      have both : (∃ x, x < K ∧ f x = 1 ∧ μ x = s.2.1) ∧ ∃ x, x < K ∧ f x = 0 ∧ μ x = s.2.1 := by
        rcases hf w w1 with e | e | e
        · rcases hf v v1 with e' | e' | e'
          · exact absurd (e'.trans (e.symm.trans w4)) v4
          · exact ⟨⟨w, w1, e, w3⟩, v, v1, e', v3⟩
          · exact absurd e' v2
        · rcases hf v v1 with e' | e' | e'
          · exact ⟨⟨v, v1, e', v3⟩, w, w1, e, w3⟩
          · exact absurd (e'.trans (e.symm.trans w4)) v4
          · exact absurd e' v2
        · exact absurd e w2
      rw [if_neg (pn.mpr both.2), if_neg (py.mpr both.1)]
