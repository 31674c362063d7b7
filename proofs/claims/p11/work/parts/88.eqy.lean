/-! ===== meets, the same on both sides ===== -/
theorem sp1_ne {g : Nat → Nat → Int32} {u : Int32} {q : SQ} {w v : Nat} (h : v ≠ w) : (sp1 g u q w).2.1 v = q.2.1 v ∧ (sp1 g u q w).2.2 v = q.2.2 v := by
  unfold sp1
  by_cases c : bt q.1 w = false ∧ bt u w = false ∧ (fowg g w &&& (q.1 ^^^ (-1))) = 0
  · rw [if_pos c]
    show upb q.2.1 w _ v = _ ∧ upb q.2.2 w _ v = _
    unfold upb
    rw [if_neg h, if_neg h]; exact ⟨rfl, rfl⟩
  · rw [if_neg c]; exact ⟨rfl, rfl⟩
theorem spr_ge {g : Nat → Nat → Int32} {u : Int32} {q : SQ} {v : Nat} : ∀ w, w ≤ v → (spr g u q w).2.1 v = q.2.1 v ∧ (spr g u q w).2.2 v = q.2.2 v
  | 0, _ => ⟨rfl, rfl⟩
  | w + 1, h => by
    obtain ⟨a, b⟩ := spr_ge (g := g) (u := u) (q := q) (v := v) w (by omega)
    rw [spr]
    obtain ⟨c, d⟩ := sp1_ne (g := g) (u := u) (q := spr g u q w) (w := w) (v := v) (by omega)
    exact ⟨c.trans a, d.trans b⟩
theorem spR_ge {g : Nat → Nat → Int32} {u : Int32} {q : SQ} {W v : Nat} (h : W ≤ v) : ∀ n, (spR g u q W n).2.1 v = q.2.1 v ∧ (spR g u q W n).2.2 v = q.2.2 v
  | 0 => ⟨rfl, rfl⟩
  | n + 1 => by
    obtain ⟨a, b⟩ := spR_ge (g := g) (u := u) (q := q) h n
    rw [spR]
    obtain ⟨c, d⟩ := spr_ge (g := g) (u := u) (q := spR g u q W n) W h
    exact ⟨c.trans a, d.trans b⟩
theorem said_ge {g : Nat → Nat → Int32} {W v c : Nat} (h : W ≤ v) : (said g W).2.1 v c = false ∧ (said g W).2.2 v c = false := by
  obtain ⟨a, b⟩ := spR_ge (g := g) (u := unsd g W) (q := sq0) h W
  unfold said
  rw [a, b]; exact ⟨rfl, rfl⟩
section EQY
variable {M : Mm} {W : Nat}
/-- whether the reference's meets has a word -/
def mtp (M : Mm) (w : Int32) (c : Nat) (v : Nat) : Prop := (w = 1 ∧ td (gl M 6874 v) (gl M 6938 v) (nI c) = 1) ∨ (¬ w = 1 ∧ ¬ td (gl M 6874 v) (gl M 6938 v) (nI c) = -4 ∧ (w = 0 ∨ ¬ cw M v = 0))
theorem eM_meets {c w : Int32} {K : Int32 → Mm → Prop} (j : JW M W) (hW4 : W ≤ 24) (h0 : isC c = false → K (-1) M) (h1 : ∀ k, k < 64 → c = nI k → (¬ w = 0 ∧ ¬ w = 1 ∧ ¬ w = 2) → K (-1) M) (h2 : ∀ k, k < 64 → c = nI k → (w = 0 ∨ w = 1 ∨ w = 2) → ∀ x, (∀ v, v < 32 → (bt x v = true ↔ v < W ∧ mtp M w k v)) → K x M) : CI mM_meets [.ref 6027, .int c, .int w] M K := by
  obtain ⟨hm, hW, hW2, hw⟩ := j
  refine call_of rfl (Nat.le_of_ble_eq_true rfl) rfl (vM_meets_0 (sM_isCase (fun q => vM_meets_4 ⟨fun _ => h0 q, fun q => absurd rfl q⟩) (fun i hi e => vM_meets_4 ⟨fun q => absurd q (by decide), fun _ => inW (fun q => vM_meets_16 ⟨fun q => absurd rfl q, fun _ => h1 i hi e q⟩) (fun q => vM_meets_16 ⟨fun _ => ?_, fun q => absurd q (by decide)⟩)⟩)))
  subst e
  have key := lp W (P := fun k => ∀ x, (∀ v, v < 32 → (bt x v = true ↔ v < k ∧ mtp M w i v)) → X mM_meets 26 [(0, .ref 6027), (1, .int (nI i)), (2, .int w), (3, .int x), (4, .int (nI k))] [] M (mC mM_meets, mS mM_meets) (QI K)) (fun k hk ih x hx => ?_) (fun x hx => ?_)
  · exact key 0 (fun v hv => by rw [b_0]; exact ⟨fun z => absurd z (by decide), fun z => absurd z.1 (by omega)⟩)
  · obtain ⟨⟨b, hb, eb⟩, hc⟩ := hw k hk
    have nW : ¬ gi M 6027 0 ≤ nI k := by rw [hW]; exact nge rfl (by omega) hk
    have ck : (nI k).toNatClampNeg = k := ncl (by omega)
    have st : ∀ (p : Prop) [Decidable p], (p ↔ mtp M w i k) → ∀ v, v < 32 → (bt (x ||| (if p then ((1 : Int32) <<< (nI k &&& 31)) else 0)) v = true ↔ v < k + 1 ∧ mtp M w i v) := by
      intro p _ hp v hv
      rw [bt_orp _ (show k < 32 by omega) hv, hx v hv]
      constructor
      · rintro (z | ⟨z, rfl⟩)
        · exact ⟨by omega, z.2⟩
        · exact ⟨by omega, hp.mp z⟩
      · rintro ⟨z1, z2⟩
        by_cases e : v = k
        · subst e; exact Or.inr ⟨hp.mpr z2, rfl⟩
        · exact Or.inl ⟨by omega, z2⟩
    have b0 : ¬ mtp M w i k → X mM_meets 99 [(0, .ref 6027), (1, .int (nI i)), (2, .int w), (3, .int x), (4, .int (nI k))] [.int 0] M (mC mM_meets, mS mM_meets) (QI K) := fun n => vM_meets_99 (by
      rw [nI_s, if_pos rfl]
      have := ih _ (st False ⟨fun z => z.elim, fun z => absurd z n⟩)
      rw [if_neg (fun z : False => z)] at this
      exact this)
    have b1 : mtp M w i k → X mM_meets 99 [(0, .ref 6027), (1, .int (nI i)), (2, .int w), (3, .int x), (4, .int (nI k))] [.int 1] M (mC mM_meets, mS mM_meets) (QI K) := fun y => vM_meets_99 (by
      rw [nI_s, if_neg (by decide)]
      have := ih _ (st True ⟨fun _ => y, fun _ => trivial⟩)
      rw [if_pos trivial] at this
      exact this)
    refine vM_meets_26 rfl (mr25 hm) (mr26 hm) ⟨fun _ => vin (by omega) (by decide), fun _ => vin (by omega) (by decide), fun p => absurd p nW, fun _ => ?_⟩
    rw [ck]
    refine sM_told (vM_meets_53 rfl ⟨fun p => vM_meets_98 (b0 ?_), fun p => vM_meets_94 (b1 ?_), fun p => sM_counts hm (by omega) eb hb (vM_meets_91 ⟨fun z => vM_meets_98 (b0 ?_), fun z => vM_meets_94 (b1 ?_)⟩), fun p => b0 ?_, fun p => b1 ?_⟩)
    · rintro (z | z)
      · exact p.1 z.1
      · exact z.2.1 p.2
    · exact Or.inr ⟨p.1, p.2.1, Or.inl p.2.2⟩
    · rintro (y | y)
      · exact p.1 y.1
      · rcases y.2.2 with y | y
        · exact p.2.2 y
        · exact y z
    · exact Or.inr ⟨p.1, p.2.1, Or.inr z⟩
    · rintro (y | y)
      · exact p.2 y.2
      · exact y.1 p.1
    · exact Or.inl ⟨p.1, p.2⟩
  · have yW : gi M 6027 0 ≤ nI W := by rw [hW]; exact nself rfl
    exact vM_meets_26 rfl (mr25 hm) (mr26 hm) ⟨fun p => absurd yW p, fun p => absurd yW p, fun _ => h2 i hi rfl q x hx, fun p => absurd yW p⟩
theorem pz_meets {v w : Int32} {Z : Int32 → Int32 → Mm → Prop} (i0 : INY M) (h : ∀ r s N, INY N → r = s → Z r s N) : CI mC_meets [.ref 10, .int v, .int w] M (fun r N => CI mM_meets [.ref 6027, .int v, .int w] N (fun s O => Z r s O)) := by
  have i1 := i0
  obtain ⟨L, P, R, S, U, D, W, t, i, ez⟩ := i0
  have c := i.1.1
  have hW : W ≤ 24 := i.2.1.2.1
  obtain ⟨G, ey⟩ := ez.2
  have cy := ey.2.2.1.2.2.2
  have ry := ey.2.2.2.2.2.1
  have rk : ∀ w, w < W → ∃ b, b < 8 ∧ wd M w 2 = nI b := fun w hw => (i.2.1.1.2.2.2 w hw).1
  have nk : ∀ {k : Nat}, k < 64 → ¬ isC (nI k) = false := fun hk z => by rw [yC hk] at z; exact absurd z (by decide)
  have kk : ∀ {k k' : Nat}, k < 64 → k' < 64 → nI k = nI k' → k' = k := fun h1 h2 e => ((ninj (by omega) (by omega)).mp e).symm
  -- what a word says, of the table
  have tdv : ∀ k, k < 64 → ∀ x, x < W → td (gl M 6874 x) (gl M 6938 x) (nI k) = vl2 ((said G W).2.1 x k) ((said G W).2.2 x k) := by
    intro k hk x hx
    obtain ⟨b1, b2⟩ := ry x hx k hk
    unfold td vl2
    by_cases p : (said G W).2.1 x k = true
    · rw [if_pos p, if_pos ((lbit _ hk).mpr (b1.trans p))]
    · rw [if_neg p, if_neg (fun z => p (b1.symm.trans ((lbit _ hk).mp z)))]
      by_cases q : (said G W).2.2 x k = true
      · rw [if_pos q, if_pos ((lbit _ hk).mpr (b2.trans q))]
      · rw [if_neg q, if_neg (fun z => q (b2.symm.trans ((lbit _ hk).mp z)))]
  have v1 : ∀ y z : Bool, (vl2 y z = 1 ↔ y = true) ∧ (¬ vl2 y z = -4 ↔ (y = true ∨ z = true)) := by
    intro y z
    cases y <;> cases z <;> decide
  have bad : (v < 0 ∨ 64 ≤ v) → CI mM_meets [.ref 6027, .int v, .int w] M (fun s O => Z (-1) s O) := fun q =>
    eM_meets i.2.1.1 hW (fun _ => h _ _ M i1 rfl) (fun _ _ _ _ => h _ _ M i1 rfl) (fun k hk ek _ x _ => by
      exfalso
      have z := nC q
      rw [ek] at z
      exact nk hk z)
  have good : ∀ k, k < 64 → v = nI k → (w = 0 ∨ w = 1 ∨ w = 2) → ∀ r, (∀ x, x < 32 → (bt r x = true ↔ x < W ∧ mtp M w k x)) → CI mM_meets [.ref 6027, .int v, .int w] M (fun s O => Z r s O) := by
    intro k hk ek hw r hr
    refine eM_meets i.2.1.1 hW (fun z => ?_) (fun k' hk' ek' z => ?_) (fun k' hk' ek' _ x hx => h _ _ M i1 ?_)
    · exfalso; rw [ek] at z; exact nk hk z
    · exfalso
      rcases hw with e | e | e
      · exact z.1 e
      · exact z.2.1 e
      · exact z.2.2 e
    · have := kk hk hk' (ek.symm.trans ek')
      subst this
      refine b_ext (fun y hy => ?_)
      rw [Bool.eq_iff_iff, hr y hy, hx y hy]
  have ys : ∀ k, k < 64 → ∀ x, x < 32 → (bt (gi M (L + 205) k) x = true ↔ x < W ∧ (said G W).2.1 x k = true) ∧ (bt (gi M (L + 269) k) x = true ↔ x < W ∧ (said G W).2.2 x k = true) := by
    intro k hk x hx
    obtain ⟨a1, a2⟩ := cy k hk x hx
    rw [a1, a2]
    by_cases lx : x < W
    · exact ⟨⟨fun z => ⟨lx, z⟩, fun z => z.2⟩, ⟨fun z => ⟨lx, z⟩, fun z => z.2⟩⟩
    · obtain ⟨s1, s2⟩ := said_ge (g := G) (W := W) (v := x) (c := k) (by omega)
      rw [s1, s2]
      exact ⟨⟨fun z => absurd z (by decide), fun z => absurd z.1 lx⟩, ⟨fun z => absurd z (by decide), fun z => absurd z.1 lx⟩⟩
  have sp : ∀ k, k < 64 → ∀ x, x < 32 → (bt (gi M (L + 205) k ||| gi M (L + 269) k) x = true ↔ x < W ∧ ¬ td (gl M 6874 x) (gl M 6938 x) (nI k) = -4) := by
    intro k hk x hx
    obtain ⟨a1, a2⟩ := ys k hk x hx
    rw [b_or, Bool.or_eq_true, a1, a2]
    constructor
    · rintro (z | z)
      · exact ⟨z.1, by rw [tdv k hk x z.1]; exact (v1 _ _).2.mpr (Or.inl z.2)⟩
      · exact ⟨z.1, by rw [tdv k hk x z.1]; exact (v1 _ _).2.mpr (Or.inr z.2)⟩
    · rintro ⟨z1, z2⟩
      rw [tdv k hk x z1] at z2
      rcases (v1 _ _).2.mp z2 with z | z
      · exact Or.inl ⟨z1, z⟩
      · exact Or.inr ⟨z1, z⟩
  refine call_of rfl (Nat.le_of_ble_eq_true rfl) rfl (vC_meets_0 (sC_isCase (fun q => vC_meets_4 rfl (cx4 c) (lr3 (cxlr c)) ⟨fun q => absurd rfl q, fun _ => bad q⟩) (fun k hk ek => vC_meets_4 rfl (cx4 c) (lr3 (cxlr c)) ⟨fun _ => ⟨fun q => ?_, fun q => ⟨?_, ?_⟩, fun q => ?_, fun q => ?_⟩, fun q => absurd q (by decide)⟩)))
  · rw [ek]
    refine sLi_speaking (cxlr c) hk (vC_meets_44 ?_)
    rw [← ek]
    refine good k hk ek (Or.inl q) _ (fun x hx => ?_)
    rw [sp k hk x hx]
    exact ⟨fun z => ⟨z.1, Or.inr ⟨by rw [q]; decide, z.2, Or.inl q⟩⟩, fun z => ⟨z.1, z.2.elim (fun y => absurd (q.symm.trans y.1) (by decide)) (fun y => y.2.1)⟩⟩
  · rw [ek]; exact vin hk (by decide)
  · have ck : v.toNatClampNeg = k := by rw [ek]; exact ncl (by omega)
    rw [ck]
    refine good k hk ek (Or.inr (Or.inl q)) _ (fun x hx => ?_)
    rw [(ys k hk x hx).1]
    constructor
    · rintro ⟨z1, z2⟩
      exact ⟨z1, Or.inl ⟨q, by rw [tdv k hk x z1]; exact (v1 _ _).1.mpr z2⟩⟩
    · rintro ⟨z1, z2⟩
      refine ⟨z1, ?_⟩
      rcases z2 with z2 | z2
      · have e := z2.2
        rw [tdv k hk x z1] at e
        exact (v1 _ _).1.mp e
      · exact absurd q z2.1
  · rw [ek]
    refine sLi_speaking (cxlr c) hk (vC_meets_63 rfl (cx4 c) (cx6 c) (sLi_counting (cxlr c) (raM3 (cxR c)) (vC_meets_78 ?_)))
    rw [← ek]
    refine good k hk ek (Or.inr (Or.inr q)) _ (fun x hx => ?_)
    rw [b_and, Bool.and_eq_true, sp k hk x hx, cnt_b ez.1 ey rk hx]
    constructor
    · rintro ⟨z1, z2⟩
      exact ⟨z1.1, Or.inr ⟨by rw [q]; decide, z1.2, Or.inr z2.2⟩⟩
    · rintro ⟨z1, z2⟩
      rcases z2 with z2 | z2
      · exact absurd (q.symm.trans z2.1) (by decide)
      · refine ⟨⟨z1, z2.2.1⟩, z1, ?_⟩
        rcases z2.2.2 with y | y
        · exact absurd (q.symm.trans y) (by decide)
        · exact y
  · exact eM_meets i.2.1.1 hW (fun _ => h _ _ M i1 rfl) (fun _ _ _ _ => h _ _ M i1 rfl) (fun k' hk' ek' z x hx => by
      exfalso
      rcases z with e | e | e
      · exact q.1 e
      · exact q.2.1 e
      · exact q.2.2 e)
end EQY
