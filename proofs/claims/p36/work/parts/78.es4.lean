/-! ===== the class asks the laws, exactly ===== -/
def lsv (g : Nat → Nat → Int32) (Y Z : Nat → Nat → Bool) (c i : Nat) : Int32 := if g i 0 = 5 then vl2 (Y i c) (Z i c) else -4
abbrev lsb (g : Nat → Nat → Int32) (lt : Bool) (i : Nat) (s : Int32 × Int32 × Int32) : Prop := s.1 = -4 ∨ (lt = true ∧ ¬ g i 7 ≤ s.2.1) ∨ (¬ lt = true ∧ ¬ s.2.1 ≤ g i 7)
def lsS (g : Nat → Nat → Int32) (Y Z : Nat → Nat → Bool) (lt : Bool) (c : Nat) : Nat → Int32 × Int32 × Int32
  | 0 => (-4, 0, 0)
  | i + 1 => if lsv g Y Z c i = -4 ∨ (¬ lsb g lt i (lsS g Y Z lt c i) ∧ ¬ g i 7 = (lsS g Y Z lt c i).2.1) then lsS g Y Z lt c i else (lsv g Y Z c i, g i 7, if lsb g lt i (lsS g Y Z lt c i) ∨ ((lsS g Y Z lt c i).2.2 = 0 ∧ lsv g Y Z c i = (lsS g Y Z lt c i).1) then 0 else 1)
/-- what the latest, or the first, law says of a case -/
def lsV (g : Nat → Nat → Int32) (Y Z : Nat → Nat → Bool) (lt : Bool) (c D : Nat) : Int32 := if (lsS g Y Z lt c D).2.2 = 0 then (lsS g Y Z lt c D).1 else -4
theorem lsS_n {g : Nat → Nat → Int32} {Y Z : Nat → Nat → Bool} {lt : Bool} {c D : Nat} (h : ∀ i, i < D → lsv g Y Z c i = -4) : ∀ i, i ≤ D → lsS g Y Z lt c i = (-4, 0, 0)
  | 0, _ => rfl
  | i + 1, hi => by rw [lsS, if_pos (Or.inl (h i hi))]; exact lsS_n h i (by omega)
/-- the chosen laws, and what the state says of them -/
def LC (y n ch day : Int32) (s : Int32 × Int32 × Int32) : Prop := (s = (-4, 0, 0) ∧ ch = 0) ∨ (¬ s.1 = -4 ∧ ¬ ch = 0 ∧ day = s.2.1 ∧ ((s.2.2 = 0 ∧ ((s.1 = 1 ∧ ¬ (y &&& ch) = 0 ∧ (n &&& ch) = 0) ∨ (s.1 = 0 ∧ (y &&& ch) = 0 ∧ ¬ (n &&& ch) = 0))) ∨ (s.2.2 = 1 ∧ ¬ (y &&& ch) = 0 ∧ ¬ (n &&& ch) = 0)))
theorem lc_agr {y n ch day : Int32} {s : Int32 × Int32 × Int32} (h : LC y n ch day s) : (if (n &&& ch) = 0 then (if (y &&& ch) = 0 then (-4 : Int32) else 1) else (if (y &&& ch) = 0 then 0 else -4)) = (if s.2.2 = 0 then s.1 else -4) := by
  rcases h with ⟨e, z⟩ | ⟨-, -, -, ⟨e, ⟨e1, a, b⟩ | ⟨e1, a, b⟩⟩ | ⟨e, a, b⟩⟩
  · rw [e, z, Int32.and_zero, Int32.and_zero]; rfl
  · rw [if_pos b, if_neg a, if_pos e, e1]
  · rw [if_neg b, if_pos a, if_pos e, e1]
  · rw [if_neg b, if_neg a, if_neg (by rw [e]; decide)]
theorem and_or_z (y a b : Int32) : (y &&& (a ||| b)) = 0 ↔ (y &&& a) = 0 ∧ (y &&& b) = 0 := by
  have k : ∀ x : Int32, x = 0 ↔ ∀ v, v < 32 → bt x v = false := fun x => by
    constructor
    · intro e v _; rw [e, b_0]
    · intro h; exact b_ext (fun v hv => by rw [h v hv, b_0])
  rw [k, k, k]
  constructor
  · intro h
    refine ⟨fun v hv => ?_, fun v hv => ?_⟩
    · have := h v hv
      rw [b_and, b_or] at this
      rw [b_and]
      revert this
      cases bt y v <;> cases bt a v <;> cases bt b v <;> decide
    · have := h v hv
      rw [b_and, b_or] at this
      rw [b_and]
      revert this
      cases bt y v <;> cases bt a v <;> cases bt b v <;> decide
  · rintro ⟨h1, h2⟩ v hv
    have a1 := h1 v hv
    have a2 := h2 v hv
    rw [b_and] at a1 a2
    rw [b_and, b_or]
    revert a1 a2
    cases bt y v <;> cases bt a v <;> cases bt b v <;> decide
theorem and_one_z (y : Int32) {i : Nat} (hi : i < 32) : (y &&& ((1 : Int32) <<< (nI i &&& 31))) = 0 ↔ bt y i = false := by
  constructor
  · intro h
    have := b_and y ((1 : Int32) <<< (nI i &&& 31)) i
    rw [h, b_0, b_one i hi i hi, decide_eq_true rfl, Bool.and_true] at this
    exact this.symm
  · intro h
    refine b_ext (fun v hv => ?_)
    rw [b_and, b_one i hi v hv, b_0]
    by_cases e : v = i
    · subst e; rw [h]; rfl
    · rw [decide_eq_false e, Bool.and_false]
theorem one_nz {i : Nat} (hi : i < 32) : ¬ ((1 : Int32) <<< (nI i &&& 31)) = 0 := fun h => by
  have := b_one i hi i hi
  rw [h, b_0, decide_eq_true rfl] at this
  exact absurd this (by decide)
theorem or_nz {a b : Int32} (h : ¬ a = 0) : ¬ (a ||| b) = 0 := fun z => by
  obtain ⟨v, hv, e⟩ := nz_b.mp h
  have := b_or a b v
  rw [z, b_0, e, Bool.true_or] at this
  exact absurd this (by decide)
/-- one law more: better, of the same day, of another day -/
theorem lc_better {y n : Int32} {i : Nat} (hi : i < 32) {v d : Int32} (hv : (v = 1 ∧ bt y i = true ∧ bt n i = false) ∨ (v = 0 ∧ bt y i = false ∧ bt n i = true)) : LC y n (0 ||| ((1 : Int32) <<< (nI i &&& 31))) d (v, d, 0) := by
  rw [show ∀ x : Int32, (0 ||| x) = x from fun x => Int32.zero_or]
  right
  have t : ∀ x : Int32, bt x i = true → ¬ (x &&& ((1 : Int32) <<< (nI i &&& 31))) = 0 := fun x e z => by
    rw [and_one_z x hi, e] at z
    exact absurd z (by decide)
  have f : ∀ x : Int32, bt x i = false → (x &&& ((1 : Int32) <<< (nI i &&& 31))) = 0 := fun x e => (and_one_z x hi).mpr e
  rcases hv with ⟨rfl, a, b⟩ | ⟨rfl, a, b⟩
  · exact ⟨show ¬ (1 : Int32) = -4 by decide, one_nz hi, rfl, Or.inl ⟨rfl, Or.inl ⟨rfl, t y a, f n b⟩⟩⟩
  · exact ⟨show ¬ (0 : Int32) = -4 by decide, one_nz hi, rfl, Or.inl ⟨rfl, Or.inr ⟨rfl, f y a, t n b⟩⟩⟩
theorem lc_same {y n ch d : Int32} {s : Int32 × Int32 × Int32} {i : Nat} (hi : i < 32) {v : Int32} (hv : (v = 1 ∧ bt y i = true ∧ bt n i = false) ∨ (v = 0 ∧ bt y i = false ∧ bt n i = true)) (n0 : ¬ ch = 0) (h : LC y n ch d s) : LC y n (ch ||| ((1 : Int32) <<< (nI i &&& 31))) d (v, d, if s.2.2 = 0 ∧ v = s.1 then 0 else 1) := by
  have t : ∀ x : Int32, bt x i = true → ¬ (x &&& (ch ||| ((1 : Int32) <<< (nI i &&& 31)))) = 0 := fun x e z => by
    rw [and_or_z, and_one_z x hi, e] at z
    exact absurd z.2 (by decide)
  have f : ∀ x : Int32, bt x i = false → ((x &&& (ch ||| ((1 : Int32) <<< (nI i &&& 31)))) = 0 ↔ (x &&& ch) = 0) := fun x e => by
    rw [and_or_z, and_one_z x hi]
    exact ⟨fun z => z.1, fun z => ⟨z, e⟩⟩
  rcases h with ⟨-, z⟩ | ⟨a1, a2, a3, h⟩
  · exact absurd z n0
  · right
    have v4 : ¬ v = -4 := by rcases hv with ⟨rfl, -⟩ | ⟨rfl, -⟩ <;> decide
    refine ⟨v4, or_nz n0, rfl, ?_⟩
    rcases hv with ⟨rfl, a, b⟩ | ⟨rfl, a, b⟩
    · rcases h with ⟨e, ⟨e1, c1, c2⟩ | ⟨e1, c1, c2⟩⟩ | ⟨e, c1, c2⟩
      · left; exact ⟨if_pos ⟨e, e1.symm⟩, Or.inl ⟨rfl, t y a, (f n b).mpr c2⟩⟩
      · right; exact ⟨if_neg (fun z => by rw [e1] at z; exact absurd z.2 (by decide)), t y a, fun z => c2 ((f n b).mp z)⟩
      · right; exact ⟨if_neg (fun z => by rw [e] at z; exact absurd z.1 (by decide)), t y a, fun z => c2 ((f n b).mp z)⟩
    · rcases h with ⟨e, ⟨e1, c1, c2⟩ | ⟨e1, c1, c2⟩⟩ | ⟨e, c1, c2⟩
      · right; exact ⟨if_neg (fun z => by rw [e1] at z; exact absurd z.2 (by decide)), fun z => c1 ((f y a).mp z), t n b⟩
      · left; exact ⟨if_pos ⟨e, e1.symm⟩, Or.inr ⟨rfl, (f y a).mpr c1, t n b⟩⟩
      · right; exact ⟨if_neg (fun z => by rw [e] at z; exact absurd z.1 (by decide)), fun z => c1 ((f y a).mp z), t n b⟩
/-- the laws' two rows alone change -/
def F7 (r : Nat) (M N : Mm) : Prop := gr N = gr M ∧ gl N = gl M ∧ ∀ a, a ≠ r + 333 → a ≠ r + 397 → gi N a = gi M a
theorem f7_rf (r : Nat) (M : Mm) : F7 r M M := ⟨rfl, rfl, fun _ _ _ => rfl⟩
theorem f7_si {r j x : Nat} {M N : Mm} {v : Int32} (h : x = r + 333 ∨ x = r + 397) (f : F7 r M N) : F7 r M (si N x j v) := ⟨f.1, f.2.1, fun a h1 h2 => by rw [gi_ne (by omega)]; exact f.2.2 a h1 h2⟩
theorem f7_st {r : Nat} {M N : Mm} (f : F7 r M N) : ST r M N := by
  obtain ⟨f1, f2, f3⟩ := f
  exact ⟨f1, f2, by rw [f3 r (by omega) (by omega)], fun v hv i hi => by rw [f3 _ (by omega) (by omega)], fun a ha => f3 a (by omega) (by omega), f3 _ (by omega) (by omega)⟩
section ES4
variable {M : Mm} {r D : Nat} {g : Nat → Nat → Int32} {Y Z : Nat → Nat → Bool}
theorem eS_lawSaying {c : Nat} {b : Int32} {lt : Bool} {K : Int32 → Mm → Prop} (l : LD M r D) (hc : c < 64) (hb : ¬ b = 0 ↔ lt = true) (ed : ∀ w, w < D → g w 0 = 5 → gi M (r + 776 + 64 * w) 8 = g w 7) (lw : ∀ v, v < 32 → (bt (gi M r 10) v = true ↔ v < D ∧ g v 0 = 5)) (cy : CY M r Y Z) (xc : ∀ v c, ¬ (Y v c = true ∧ Z v c = true)) (h : K (lsV g Y Z lt c D) M) : CI mLi_lawSaying [.ref r, .int (nI c), .int b] M K := by
  have hl := l.1
  have hD := l.2.2.1
  have cc : (nI c).toNatClampNeg = c := ncl (by omega)
  refine call_of rfl (Nat.le_of_ble_eq_true rfl) rfl (vLi_lawSaying_0 hl.1 (sLi_speaking hl hc (vLi_lawSaying_5 hl.1 ?_)))
  have sb : ∀ v, v < 32 → (bt ((gi M (r + 205) c ||| gi M (r + 269) c) &&& gi M r 10) v = true ↔ v < D ∧ ¬ lsv g Y Z c v = -4) := by
    intro v hv
    obtain ⟨a1, a2⟩ := cy c hc v hv
    rw [b_and, b_or, Bool.and_eq_true, Bool.or_eq_true, a1, a2, lw v hv]
    unfold lsv vl2
    by_cases k : g v 0 = 5
    · rw [if_pos k]
      cases Y v c <;> cases Z v c <;> simp [k]
    · rw [if_neg k]
      exact ⟨fun z => absurd z.2.2 k, fun z => absurd rfl z.2⟩
  generalize eS : ((gi M (r + 205) c ||| gi M (r + 269) c) &&& gi M r 10) = S at sb
  have fin : ∀ ch day, LC (gi M (r + 205) c) (gi M (r + 269) c) ch day (lsS g Y Z lt c D) → vp_in (nI c) 64 ∧ vp_in (nI c) 64 ∧ CI mC_agreed [.int ((gi M (r + 205) (nI c).toNatClampNeg) &&& ch), .int ((gi M (r + 269) (nI c).toNatClampNeg) &&& ch)] M (fun rv N => X mLi_lawSaying 135 [] [.int rv] N (mC mLi_lawSaying, mS mLi_lawSaying) (QI K)) := by
    intro ch day hL
    refine ⟨vin hc (by decide), vin hc (by decide), sC_agreed (vLi_lawSaying_135 ?_)⟩
    rw [cc, lc_agr hL]
    exact h
  by_cases S0 : S = 0
  · have nn : ∀ i, i < D → lsv g Y Z c i = -4 := fun i hi => by
      by_cases z : lsv g Y Z c i = -4
      · exact z
      · have := (sb i (by omega)).mpr ⟨hi, z⟩
        rw [S0, b_0] at this
        exact absurd this (by decide)
    refine vLi_lawSaying_21 hl.1 (lr3 hl) (lr4 hl) ⟨fun _ => fin 0 (-4) (Or.inl ⟨lsS_n nn D (Nat.le_refl D), rfl⟩), fun q => absurd S0 q.2⟩
  · refine lp D (P := fun i => ∀ ch day, LC (gi M (r + 205) c) (gi M (r + 269) c) ch day (lsS g Y Z lt c i) → X mLi_lawSaying 21 [(0, .ref r), (1, .int (nI c)), (2, .int b), (3, .int S), (4, .int ch), (5, .int day), (6, .int (nI i))] [] M (mC mLi_lawSaying, mS mLi_lawSaying) (QI K)) (fun i hi ih ch day hL => ?_) (fun ch day hL => ?_) 0 (-4) (Or.inl ⟨rfl, rfl⟩)
    · refine vLi_lawSaying_21 hl.1 (lr3 hl) (lr4 hl) ⟨fun q => ?_, fun _ => sC_holds (vLi_lawSaying_40 hl.1 (lr0 hl) ⟨fun q => ?_, fun q => ⟨ld_v l hi, r + 776 + 64 * i, ld_gw l (by omega), ?_⟩⟩)⟩
      · exfalso
        rcases q with q | q
        · exact ld_le l hi q
        · exact S0 q.2
      · have nl : lsv g Y Z c i = -4 := by
          by_cases z : lsv g Y Z c i = -4
          · exact z
          · exfalso
            rw [if_pos ((bitu _ (by omega)).mpr ((sb i (by omega)).mpr ⟨hi, z⟩))] at q
            exact absurd q (by decide)
        have e : lsS g Y Z lt c (i + 1) = lsS g Y Z lt c i := by rw [lsS, if_pos (Or.inl nl)]
        rw [e] at ih
        rw [nI_s]; exact ih _ _ hL
      · have yl : ¬ lsv g Y Z c i = -4 := by
          by_cases z : bt S i = true
          · exact ((sb i (by omega)).mp z).2
          · exfalso
            rw [if_neg (fun y => z ((bitu _ (by omega)).mp y))] at q
            exact q rfl
        have k5 : g i 0 = 5 := by
          by_cases z : g i 0 = 5
          · exact z
          · exfalso; unfold lsv at yl; rw [if_neg z] at yl; exact yl rfl
        rw [ed i hi k5]
        obtain ⟨y1, y2⟩ := cy c hc i (by omega)
        have hv : (lsv g Y Z c i = 1 ∧ bt (gi M (r + 205) c) i = true ∧ bt (gi M (r + 269) c) i = false) ∨ (lsv g Y Z c i = 0 ∧ bt (gi M (r + 205) c) i = false ∧ bt (gi M (r + 269) c) i = true) := by
          have x := xc i c
          rw [y1, y2]
          unfold lsv vl2 at yl ⊢
          rw [if_pos k5] at yl ⊢
          revert yl x
          cases Y i c <;> cases Z i c <;> decide
        -- is it better
        have bet : (ch = 0 ∨ (¬ ch = 0 ∧ b = 0 ∧ ¬ day ≤ g i 7) ∨ (¬ ch = 0 ∧ ¬ b = 0 ∧ ¬ g i 7 ≤ day)) ↔ lsb g lt i (lsS g Y Z lt c i) := by
          rcases hL with ⟨e, z⟩ | ⟨a1, a2, a3, -⟩
          · exact ⟨fun _ => Or.inl (by rw [e]), fun _ => Or.inl z⟩
          · rw [a3]
            constructor
            · rintro (z | z | z)
              · exact absurd z a2
              · exact Or.inr (Or.inr ⟨fun y => hb.mpr y z.2.1, z.2.2⟩)
              · exact Or.inr (Or.inl ⟨hb.mp z.2.1, z.2.2⟩)
            · rintro (z | z | z)
              · exact absurd z a1
              · exact Or.inr (Or.inr ⟨a2, hb.mpr z.1, z.2⟩)
              · refine Or.inr (Or.inl ⟨a2, ?_, z.2⟩)
                by_cases y : b = 0
                · exact y
                · exact absurd (hb.mp y) z.1
        refine ⟨fun p => vLi_lawSaying_88 ?_, fun p => vLi_lawSaying_88 ?_⟩
        · have bb := bet.mp p
          have e : lsS g Y Z lt c (i + 1) = (lsv g Y Z c i, g i 7, 0) := by
            rw [lsS, if_neg (fun z => z.elim yl (fun z => z.1 bb)), if_pos (Or.inl bb)]
          rw [e] at ih
          rw [nI_s, if_pos rfl]
          exact ih _ _ (lc_better (by omega) hv)
        · have nb : ¬ lsb g lt i (lsS g Y Z lt c i) := fun z => by
            rcases bet.mpr z with y | y | y
            · rcases p with p | p <;> exact p.1 y
            · rcases p with p | p
              · exact y.2.2 p.2.2
              · exact p.2.1 y.2.1
            · rcases p with p | p
              · exact y.2.1 p.2.1
              · exact y.2.2 p.2.2
          have cn : ¬ ch = 0 := by rcases p with p | p <;> exact p.1
          have dd : day = (lsS g Y Z lt c i).2.1 := by
            rcases hL with ⟨-, z⟩ | ⟨-, -, a3, -⟩
            · exact absurd z cn
            · exact a3
          by_cases sd : g i 7 = day
          · have e : lsS g Y Z lt c (i + 1) = (lsv g Y Z c i, day, if (lsS g Y Z lt c i).2.2 = 0 ∧ lsv g Y Z c i = (lsS g Y Z lt c i).1 then 0 else 1) := by
              rw [lsS, if_neg (fun z => z.elim yl (fun z => z.2 (sd.trans dd)))]
              by_cases w : (lsS g Y Z lt c i).2.2 = 0 ∧ lsv g Y Z c i = (lsS g Y Z lt c i).1
              · rw [if_pos (Or.inr w), if_pos w, sd]
              · rw [if_neg (fun z => z.elim nb w), if_neg w, sd]
            rw [e] at ih
            rw [nI_s, if_pos sd]
            exact ih _ _ (lc_same (by omega) hv cn hL)
          · have e : lsS g Y Z lt c (i + 1) = lsS g Y Z lt c i := by
              rw [lsS, if_pos (Or.inr ⟨nb, fun z => sd (z.trans dd.symm)⟩)]
            rw [e] at ih
            rw [nI_s, if_neg sd, or_032]
            exact ih _ _ hL
    · exact vLi_lawSaying_21 hl.1 (lr3 hl) (lr4 hl) ⟨fun _ => fin ch day hL, fun q => absurd (ld_se l) q.1⟩
theorem eS_askLaws {K : Mm → Prop} (l : LD M r D) (ed : ∀ w, w < D → g w 0 = 5 → gi M (r + 776 + 64 * w) 8 = g w 7) (lw : ∀ v, v < 32 → (bt (gi M r 10) v = true ↔ v < D ∧ g v 0 = 5)) (cy : CY M r Y Z) (xc : ∀ v c, ¬ (Y v c = true ∧ Z v c = true)) (h : ∀ N, F7 r M N → (∀ c, c < 64 → gi N (r + 333) c = lsV g Y Z true c D ∧ gi N (r + 397) c = lsV g Y Z false c D) → K N) : CV mLi_askLaws [.ref r] M K := by
  have hl := l.1
  refine call_of rfl (Nat.le_of_ble_eq_true rfl) rfl (vLi_askLaws_0 ?_)
  have edN : ∀ {N}, F7 r M N → ∀ w, w < D → g w 0 = 5 → gi N (r + 776 + 64 * w) 8 = g w 7 := fun f w hw k => by rw [f.2.2 _ (by omega) (by omega)]; exact ed w hw k
  have lwN : ∀ {N}, F7 r M N → ∀ v, v < 32 → (bt (gi N r 10) v = true ↔ v < D ∧ g v 0 = 5) := fun f v hv => by rw [f.2.2 r (by omega) (by omega)]; exact lw v hv
  have cyN : ∀ {N}, F7 r M N → CY N r Y Z := fun f c hc v hv => by rw [f.2.2 _ (by omega) (by omega), f.2.2 _ (by omega) (by omega)]; exact cy c hc v hv
  refine lp 64 (P := fun c => ∀ N, F7 r M N → (∀ e, e < c → gi N (r + 333) e = lsV g Y Z true e D ∧ gi N (r + 397) e = lsV g Y Z false e D) → X mLi_askLaws 2 [(0, .ref r), (1, .int (nI c))] [] N (mC mLi_askLaws, mS mLi_askLaws) (QV K)) (fun c hc ih N fN wN => ?_) (fun N fN wN => ?_) _ (f7_rf r M) (fun e he => absurd he (by omega))
  · have lN := ld_st (f7_st fN) l
    have cc : (nI c).toNatClampNeg = c := ncl (by omega)
    refine vLi_askLaws_2 hl.1 (lr5 lN.1) ⟨fun q => absurd q (nge rfl (by decide) hc), fun _ => eS_lawSaying (lt := true) lN hc ⟨fun _ => rfl, fun _ => by decide⟩ (edN fN) (lwN fN) (cyN fN) xc (vLi_askLaws_19 (lrk hl 333 14 rfl (by decide)) hl.1 (lr6 lN.1) ⟨vin hc (by decide), ?_⟩)⟩
    rw [cc]
    have f1 : F7 r M (si N (r + 333) c (lsV g Y Z true c D)) := f7_si (Or.inl rfl) fN
    refine eS_lawSaying (lt := false) (ld_st (f7_st f1) l) hc ⟨fun z => absurd rfl z, fun z => absurd z (by decide)⟩ (edN f1) (lwN f1) (cyN f1) xc (vLi_askLaws_31 (lrk hl 397 14 rfl (by decide)) ⟨vin hc (by decide), ?_⟩)
    rw [cc, nI_s]
    refine ih _ (f7_si (Or.inr rfl) f1) (fun e he => ?_)
    rw [giR _ _ _ _ _ _ (show r + 333 ≠ r + 397 by omega), gxs, gxs, giR _ _ _ _ _ _ (show r + 397 ≠ r + 333 by omega)]
    by_cases z : e = c
    · subst z
      rw [if_pos rfl, if_pos rfl]; exact ⟨rfl, rfl⟩
    · rw [if_neg z, if_neg z]; exact wN e (by omega)
  · exact vLi_askLaws_2 hl.1 (lr5 (ld_st (f7_st fN) l).1) ⟨fun _ => h N fN wN, fun q => absurd (nself rfl) q⟩
end ES4
