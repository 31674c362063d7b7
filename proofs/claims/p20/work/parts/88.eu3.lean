/-! ===== opinions, laws, what holds: the same on both sides ===== -/
section EU3
variable {A N : Mm} {L R W : Nat} {G : Nat → Nat → Int32}
/-- what becomes of words of one doctor, on both sides -/
theorem two_e (m : CMP A N L R W G) (hW : W ≤ 24) {d c : Nat} (hd : d < 8) (hc : c < 64) (y0 : ¬ (his A L d &&& gi A (L + 205) c) = 0) (n0' : ¬ (his A L d &&& gi A (L + 269) c) = 0) : stl A L R (his A L d &&& gi A (L + 205) c) (his A L d &&& gi A (L + 269) c) 0 = o2 N W (nI d) (nI c) := by
  obtain ⟨hy, hn⟩ := his_b m hW hd hc
  have e3 : gi A R 3 = gi N 6543 3 := m.2.2.2.2.2.2.2.1 3 (by decide)
  have t3 := m.2.2.2.2.2.2.2.2.1.1
  have ws := m.2.2.2.2.2.1.2.1
  unfold o2
  rcases t3 with r | r | r
  · have z : gi N 6543 3 ≤ 0 := by rw [r]; exact Int32.le_refl _
    rw [if_pos z]
    unfold stl
    rw [if_neg (fun z => z.elim y0 n0'), e3, r, if_neg (by decide), if_neg (by decide)]
  · have nz : ¬ gi N 6543 3 ≤ 0 := by rw [r]; decide
    rw [if_neg nz]
    have mu : ∀ v, twt N v = nI v := fun v => by unfold twt; rw [if_pos r]
    refine stl_tr (K := W) (f := twv N (nI d) (nI c)) (μ := twt N) (β := fun v => v) (fun v hv => by omega) (fun v w h _ => h) (fun v _ => twv_c N _ _ v) (fun x hx => ?_) (fun x hx => ?_) y0 n0' (Or.inl (by rw [e3]; exact r)) (trs_tw W (fun v hv _ => ?_)) (fun _ v _ => mu v) (fun q => ?_) (by omega)
    · rw [hy x hx]
      exact ⟨fun z => ⟨x, z.1, rfl, z.2⟩, fun ⟨v, a, b, e⟩ => by subst b; exact ⟨a, e⟩⟩
    · rw [hn x hx]
      exact ⟨fun z => ⟨x, z.1, rfl, z.2⟩, fun ⟨v, a, b, e⟩ => by subst b; exact ⟨a, e⟩⟩
    · rw [mu]; exact n0 v (by omega)
    · exfalso
      rw [e3, r] at q
      exact absurd q (by decide)
  · have nz : ¬ gi N 6543 3 ≤ 0 := by rw [r]; decide
    rw [if_neg nz]
    have mu : ∀ v, v < W → ¬ twv N (nI d) (nI c) v = -4 → twt N v = wgv G v := fun v hv z => by
      unfold twt
      rw [if_neg (by rw [r]; decide)]
      exact wt_e m hv hW (twv_s m hW hc hv z)
    have wk : ∀ v, v < W → ¬ twv N (nI d) (nI c) v = -4 → ∃ k, k < 7 ∧ twt N v = nI k := fun v hv z => by
      rw [mu v hv z]; exact wgv_k m hv (twv_s m hW hc hv z)
    refine stl_tr (K := W) (f := twv N (nI d) (nI c)) (μ := twt N) (β := fun v => v) (fun v hv => by omega) (fun v w h _ => h) (fun v _ => twv_c N _ _ v) (fun x hx => ?_) (fun x hx => ?_) y0 n0' (Or.inr (by rw [e3]; exact r)) (trs_tw W (fun v hv z => ?_)) (fun q => ?_) (fun _ => ⟨wk, fun k hk v hv z => ?_⟩) (by omega)
    · rw [hy x hx]
      exact ⟨fun z => ⟨x, z.1, rfl, z.2⟩, fun ⟨v, a, b, e⟩ => by subst b; exact ⟨a, e⟩⟩
    · rw [hn x hx]
      exact ⟨fun z => ⟨x, z.1, rfl, z.2⟩, fun ⟨v, a, b, e⟩ => by subst b; exact ⟨a, e⟩⟩
    · obtain ⟨k, hk, e⟩ := wk v hv z
      rw [e]; exact n0 k (by omega)
    · exfalso
      rw [e3, r] at q
      exact absurd q (by decide)
    · show bt (owk A L 0 k) v = true ↔ twt N v = nI k
      rw [mu v hv z, ← (ws k hk v (by omega)).2 hv (twv_s m hW hc hv z)]
      unfold owk
      rw [b_or, Bool.or_eq_true]
      refine ⟨fun q => q.elim id (fun q => ?_), Or.inl⟩
      exfalso
      have b24 : ∀ v, v < 24 → bt 16777216 v = false := by decide +kernel
      by_cases z : nI k = 0
      · rw [if_pos z, b24 v (by omega)] at q; exact absurd q (by decide)
      · rw [if_neg z, b_0] at q; exact absurd q (by decide)
theorem opn_e (m : CMP A N L R W G) (hW : W ≤ 24) {d c : Nat} (hd : d < 8) (hc : c < 64) : opn A L R d c = td (eyv N W (nI d) 64) (enw N W (nI d) 64) (nI c) ∧ ¬ (lb (eyv N W (nI d) 64) c = true ∧ lb (enw N W (nI d) 64) c = true) := by
  obtain ⟨hy, hn⟩ := his_b m hW hd hc
  obtain ⟨f1, f2⟩ := fyn_b m hW (d := d) hc W (Nat.le_refl W)
  obtain ⟨b1, b2⟩ := eyv_b (N := N) (W := W) (d := nI d) hc 64 (Nat.le_refl 64)
  have ny : ¬ (his A L d &&& gi A (L + 205) c) = 0 ↔ lb (fyn N (nI d) W).1 c = true := by
    rw [nz_b, f1]
    constructor
    · rintro ⟨v, hv, e⟩; exact ⟨v, (hy v hv).mp e⟩
    · rintro ⟨v, a, b⟩; exact ⟨v, by omega, (hy v (by omega)).mpr ⟨a, b⟩⟩
  have nn : ¬ (his A L d &&& gi A (L + 269) c) = 0 ↔ lb (fyn N (nI d) W).2 c = true := by
    rw [nz_b, f2]
    constructor
    · rintro ⟨v, hv, e⟩; exact ⟨v, (hn v hv).mp e⟩
    · rintro ⟨v, a, b⟩; exact ⟨v, by omega, (hn v (by omega)).mpr ⟨a, b⟩⟩
  have twe := two_e m hW hd hc
  rw [clv_b] at b1 b2
  have tdd : ∀ y z : Int64, td y z (nI c) = vl2 (lb y c) (lb z c) := fun y z => by
    unfold td vl2
    by_cases p : lb y c = true
    · rw [if_pos p, if_pos ((lbit _ hc).mpr p)]
    · rw [if_neg p, if_neg (fun z => p ((lbit _ hc).mp z))]
      by_cases q : lb z c = true
      · rw [if_pos q, if_pos ((lbit _ hc).mpr q)]
      · rw [if_neg q, if_neg (fun z => q ((lbit _ hc).mp z))]
  rw [tdd]
  unfold opn
  generalize his A L d &&& gi A (L + 205) c = y at ny twe
  generalize his A L d &&& gi A (L + 269) c = n at nn twe
  generalize lb (fyn N (nI d) W).1 c = p at *
  generalize lb (fyn N (nI d) W).2 c = q at *
  have bf : ∀ {b : Bool}, ¬ b = true → b = false := fun h => by simpa using h
  cases ep : p
  · have y0 : y = 0 := by
      by_cases z : y = 0
      · exact z
      · have := ny.mp z; rw [ep] at this; exact absurd this (by decide)
    have e1 : lb (eyv N W (nI d) 64) c = false := bf (fun z => by
      rcases b1.mp z with w | w
      · rw [ep] at w; exact absurd w.1 (by decide)
      · rw [ep] at w; exact absurd w.2.1.1 (by decide))
    refine ⟨?_, fun z => by rw [e1] at z; exact absurd z.1 (by decide)⟩
    unfold stl
    rw [if_pos (Or.inl y0), e1]
    unfold agr
    rw [if_pos y0, if_pos y0]
    cases eq : q
    · have n0' : n = 0 := by
        by_cases z : n = 0
        · exact z
        · have := nn.mp z; rw [eq] at this; exact absurd this (by decide)
      have e2 : lb (enw N W (nI d) 64) c = false := bf (fun z => by
        rcases b2.mp z with w | w
        · rw [eq] at w; exact absurd w.1 (by decide)
        · rw [eq] at w; exact absurd w.2.1.2 (by decide))
      rw [if_pos n0', e2]; rfl
    · have n1 : ¬ n = 0 := nn.mpr eq
      have e2 : lb (enw N W (nI d) 64) c = true := b2.mpr (Or.inl ⟨eq, ep⟩)
      rw [if_neg n1, e2]; rfl
  · have y1 : ¬ y = 0 := ny.mpr ep
    cases eq : q
    · have n0' : n = 0 := by
        by_cases z : n = 0
        · exact z
        · have := nn.mp z; rw [eq] at this; exact absurd this (by decide)
      have e1 : lb (eyv N W (nI d) 64) c = true := b1.mpr (Or.inl ⟨ep, eq⟩)
      have e2 : lb (enw N W (nI d) 64) c = false := bf (fun z => by
        rcases b2.mp z with w | w
        · rw [eq] at w; exact absurd w.1 (by decide)
        · rw [eq] at w; exact absurd w.2.1.2 (by decide))
      refine ⟨?_, fun z => by rw [e2] at z; exact absurd z.2 (by decide)⟩
      unfold stl
      rw [if_pos (Or.inr n0'), e1]
      unfold agr
      rw [if_pos n0', if_neg y1]; rfl
    · have n1 : ¬ n = 0 := nn.mpr eq
      rw [twe y1 n1]
      have k1 : lb (eyv N W (nI d) 64) c = true ↔ o2 N W (nI d) (nI c) = 1 := by
        rw [b1, ep, eq]
        exact ⟨fun z => z.elim (fun z => absurd z.2 (by decide)) (fun z => z.2.2), fun z => Or.inr ⟨hc, ⟨rfl, rfl⟩, z⟩⟩
      have k2 : lb (enw N W (nI d) 64) c = true ↔ o2 N W (nI d) (nI c) = 0 := by
        rw [b2, ep, eq]
        exact ⟨fun z => z.elim (fun z => absurd z.2 (by decide)) (fun z => z.2.2), fun z => Or.inr ⟨hc, ⟨rfl, rfl⟩, z⟩⟩
      have oc : o2 N W (nI d) (nI c) = 1 ∨ o2 N W (nI d) (nI c) = 0 ∨ o2 N W (nI d) (nI c) = -4 := by
        unfold o2
        have key : ∀ k, (tw N (nI d) (nI c) k).1 = 1 ∨ (tw N (nI d) (nI c) k).1 = 0 ∨ (tw N (nI d) (nI c) k).1 = -4 := by
          intro k
          induction k with
          | zero => exact Or.inr (Or.inr rfl)
          | succ k ih =>
            rw [tw_st]
            unfold tst
            split
            · exact ih
            · exact twv_c N _ _ k
        split
        · exact Or.inr (Or.inr rfl)
        · split
          · exact key W
          · exact Or.inr (Or.inr rfl)
      refine ⟨?_, fun z => ?_⟩
      · unfold vl2
        rcases oc with e | e | e
        · rw [if_pos (k1.mpr e), e]
        · rw [if_neg (fun z => by rw [k1.mp z] at e; exact absurd e (by decide)), if_pos (k2.mpr e), e]
        · rw [if_neg (fun z => by rw [k1.mp z] at e; exact absurd e (by decide)), if_neg (fun z => by rw [k2.mp z] at e; exact absurd e (by decide)), e]
      · have a := k1.mp z.1
        have b := k2.mp z.2
        rw [a] at b
        exact absurd b (by decide)
/-- the law of a case, on both sides -/
theorem law_e (m : CMP A N L R W G) {c : Nat} (hc : c < 64) : lwI A L R c = laV N W (nI c) := by
  obtain ⟨-, -, -, ry, rows, wl, -, e7, ⟨-, t6, -⟩, -⟩ := m
  have e6 : gi A R 6 = gi N 6543 6 := e7 6 (by decide)
  have lv : ∀ i, i < W → lav N (nI c) i = lsv G (said G W).2.1 (said G W).2.2 c i := fun i hi => by
    obtain ⟨r1, r2⟩ := ry i hi c hc
    unfold lav lsv
    rw [rows i hi 0 (by decide), td_v hc r1 r2]
  have key : ∀ lt : Bool, (gi N 6543 6 = 1 ↔ lt = true) → ∀ i, i ≤ W → laS N (nI c) i = lsS G (said G W).2.1 (said G W).2.2 lt c i := by
    intro lt hl i
    induction i with
    | zero => intro _; rfl
    | succ i ih =>
      intro hi
      have ih' := ih (by omega)
      have r7 := rows i (by omega) 7 (by decide)
      have lab' : lab N i (laS N (nI c) i) ↔ lsb G lt i (lsS G (said G W).2.1 (said G W).2.2 lt c i) := by
        unfold lab lsb
        rw [ih', r7, hl]
      rw [laS, lsS, lv i (by omega)]
      by_cases a : lsv G (said G W).2.1 (said G W).2.2 c i = -4 ∨ (¬ lsb G lt i (lsS G (said G W).2.1 (said G W).2.2 lt c i) ∧ ¬ G i 7 = (lsS G (said G W).2.1 (said G W).2.2 lt c i).2.1)
      · have a' : lsv G (said G W).2.1 (said G W).2.2 c i = -4 ∨ (¬ lab N i (laS N (nI c) i) ∧ ¬ wd N i 7 = (laS N (nI c) i).2.1) := by rw [lab', ih', r7]; exact a
        rw [if_pos a, if_pos a', ih']
      · have a' : ¬ (lsv G (said G W).2.1 (said G W).2.2 c i = -4 ∨ (¬ lab N i (laS N (nI c) i) ∧ ¬ wd N i 7 = (laS N (nI c) i).2.1)) := by rw [lab', ih', r7]; exact a
        rw [if_neg a, if_neg a']
        by_cases b : lsb G lt i (lsS G (said G W).2.1 (said G W).2.2 lt c i) ∨ ((lsS G (said G W).2.1 (said G W).2.2 lt c i).2.2 = 0 ∧ lsv G (said G W).2.1 (said G W).2.2 c i = (lsS G (said G W).2.1 (said G W).2.2 lt c i).1)
        · have b' : lab N i (laS N (nI c) i) ∨ ((laS N (nI c) i).2.2 = 0 ∧ lsv G (said G W).2.1 (said G W).2.2 c i = (laS N (nI c) i).1) := by rw [lab', ih']; exact b
          rw [if_pos b, if_pos b', r7]
        · have b' : ¬ (lab N i (laS N (nI c) i) ∨ ((laS N (nI c) i).2.2 = 0 ∧ lsv G (said G W).2.1 (said G W).2.2 c i = (laS N (nI c) i).1)) := by rw [lab', ih']; exact b
          rw [if_neg b, if_neg b', r7]
  obtain ⟨w1, w2⟩ := wl.2.2.1 c hc
  unfold lwI laV
  rw [e6]
  rcases t6 with r | r | r
  · rw [if_pos r, if_pos (by rw [r]; exact Int32.le_refl _)]
  · rw [if_neg (by rw [r]; decide), if_neg (by rw [r]; decide), if_neg (by rw [r]; decide), w1, key true (by rw [r]; exact ⟨fun _ => rfl, fun _ => rfl⟩) W (Nat.le_refl W)]
    rfl
  · rw [if_neg (by rw [r]; decide), if_pos r, if_neg (by rw [r]; decide), w2, key false (by rw [r]; exact ⟨fun z => absurd z (by decide), fun z => absurd z (by decide)⟩) W (Nat.le_refl W)]
    rfl
/-- how many say yes, how many no -/
theorem sum_e (m : CMP A N L R W G) (hW : W ≤ 24) {c : Nat} (hc : c < 64) : ∀ k, k ≤ 8 → ocn (fun d => opn A L R d c) 1 k = sb (gl (EO N W)) 7003 c k ∧ ocn (fun d => opn A L R d c) 0 k = sb (gl (EO N W)) 7067 c k
  | 0, _ => ⟨rfl, rfl⟩
  | k + 1, hk => by
    obtain ⟨i1, i2⟩ := sum_e m hW hc k (by omega)
    obtain ⟨e, x⟩ := opn_e m hW (d := k) (by omega) hc
    have g3 : gl (EO N W) 7003 k = eyv N W (nI k) 64 := by rw [gl_eo, if_pos ⟨rfl, by omega⟩]
    have g6 : gl (EO N W) 7067 k = enw N W (nI k) 64 := by rw [gl_eo, if_neg (by simp), if_pos ⟨rfl, by omega⟩]
    have t1 : ∀ z : Int64, ((z >>> ((nI c).toInt64 &&& 63)) &&& 1).toInt32 = if lb z c = true then 1 else 0 := fun z => by
      by_cases q : lb z c = true
      · rw [if_pos q, (lbit _ hc).mpr q]; rfl
      · rw [if_neg q]
        have qf : lb z c = false := by simpa using q
        have e0 : ((z >>> ((nI c).toInt64 &&& 63)) &&& 1) = 0 := by
          refine l_ext (fun j hj => ?_)
          rw [l_and, l_1 j hj, l_0]
          by_cases ej : j = 0
          · subst ej
            rw [l_shr c hc, qf]; rfl
          · rw [decide_eq_false ej, Bool.and_false]
        rw [e0]; rfl
    rw [ocn, ocn, sb, sb, i1, i2, g3, g6, t1, t1, e]
    have td1 : td (eyv N W (nI k) 64) (enw N W (nI k) 64) (nI c) = vl2 (lb (eyv N W (nI k) 64) c) (lb (enw N W (nI k) 64) c) := by
      unfold td vl2
      by_cases p : lb (eyv N W (nI k) 64) c = true
      · rw [if_pos p, if_pos ((lbit _ hc).mpr p)]
      · rw [if_neg p, if_neg (fun z => p ((lbit _ hc).mp z))]
        by_cases q : lb (enw N W (nI k) 64) c = true
        · rw [if_pos q, if_pos ((lbit _ hc).mpr q)]
        · rw [if_neg q, if_neg (fun z => q ((lbit _ hc).mp z))]
    rw [td1]
    revert x
    cases lb (eyv N W (nI k) 64) c <;> cases lb (enw N W (nI k) 64) c <;> intro x
    · exact ⟨rfl, rfl⟩
    · exact ⟨rfl, rfl⟩
    · exact ⟨rfl, rfl⟩
    · exact absurd ⟨rfl, rfl⟩ x
theorem head_e (m : CMP A N L R W G) (hW : W ≤ 24) (hh : HD N) {c : Nat} (hc : c < 64) : hds (gi A R 4) (fun d => opn A L R d c) = hdv (EO N W) c := by
  have e4 : gi A R 4 = gi N 6543 4 := m.2.2.2.2.2.2.2.1 4 (by decide)
  unfold hds hdv
  have g4 : gi (EO N W) 6543 4 = gi N 6543 4 := rfl
  rw [e4, g4]
  rcases hh with h | ⟨e, he, h⟩
  · rw [h, if_pos (Or.inl (by decide)), if_pos rfl]
  · have n1 : ¬ (nI e < 0 ∨ 8 ≤ nI e) := fun z => by
      rcases z with z | z
      · exact n0 e (by omega) z
      · rw [show (8 : Int32) = nI 8 from rfl, nle (by omega) (by decide)] at z
        omega
    rw [h, if_neg n1, if_neg (nI4 (by omega)), ncl (by omega), gl_eo, if_pos ⟨rfl, he⟩, gl_eo, if_neg (by simp), if_pos ⟨rfl, he⟩]
    exact (opn_e m hW he hc).1
theorem held_e (m : CMP A N L R W G) (hW : W ≤ 24) (hh : HD N) {c : Nat} (hc : c < 64) : ysC A L R c = sb (gl (EO N W)) 7003 c 8 ∧ nsC A L R c = sb (gl (EO N W)) 7067 c 8 ∧ byC A L R c = byv (EO N W) W c ∧ heC A L R c = hev (EO N W) W c := by
  obtain ⟨s1, s2⟩ := sum_e m hW hc 8 (Nat.le_refl 8)
  have e5 : gi A R 5 = gi (EO N W) 6543 5 := m.2.2.2.2.2.2.2.1 5 (by decide)
  have l : lwI A L R c = laV (EO N W) W (nI c) := (law_e m hc).trans (laV_sm (eo_sm N W) _).symm
  have hd := head_e m hW hh hc
  have b : byC A L R c = byv (EO N W) W c := by
    unfold byC byv ysC nsC
    rw [s1, s2, l, hd, e5]
  refine ⟨s1, s2, b, ?_⟩
  unfold heC hev
  rw [b, l, hd, e5]
  unfold ysC nsC
  rw [s1, s2]
  unfold byv
  generalize laV (EO N W) W (nI c) = x1
  generalize sb (gl (EO N W)) 7003 c 8 = x2
  generalize sb (gl (EO N W)) 7067 c 8 = x3
  generalize hdv (EO N W) c = x4
  generalize gi (EO N W) 6543 5 = x5
  unfold anb hef byf
  by_cases q1 : x1 = -4
  · by_cases q2 : x2 = x3
    · by_cases q3 : x4 = -4
      · by_cases q4 : x5 = -4
        · simp [q1, q2, q3, q4]
        · simp [q1, q2, q3, q4]
      · simp [q1, q2, q3]
    · simp [q1, q2]
  · simp [q1]
end EU3
