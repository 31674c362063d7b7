section MG95
/-! ===== a found word: what a doctor says then, on both sides ===== -/
/-- the reference's memory S is N with one word more, of doctor d, where all marks m are so the answer a -/
def XS (N S : Mm) (W d : Nat) (a : Int32) (m : Nat) : Prop :=
  (∀ w, w < W → ∀ k, k < 8 → wd S w k = wd N w k) ∧ gi S 6543 = gi N 6543 ∧ gi S 6157 = gi N 6157 ∧ gi S 6027 9 = gi N 6027 9 ∧ (gi S 6027 24 = gi N 6027 24 ∧ bt (gi S 6027 24) W = false) ∧ (∀ v, v < W → gl S 6874 v = gl N 6874 v ∧ gl S 6938 v = gl N 6938 v) ∧ (wd S W 0 = 0 ∧ wd S W 1 = nI d ∧ wd S W 3 = nI m ∧ wd S W 4 = 0 ∧ wd S W 6 = -4) ∧
  ∀ c, c < 64 → (lb (gl S 6874 W) c = true ↔ (nI c &&& nI m) = nI m ∧ a = 1) ∧ (lb (gl S 6938 W) c = true ↔ (nI c &&& nI m) = nI m ∧ ¬ a = 1)
theorem b_24 : ∀ x, x < 32 → bt 16777216 x = decide (x = 24) := by decide +kernel
def bet (W v : Nat) : Nat := if v < W then v else 24
theorem fyn_g {S : Mm} {d : Int32} {c K : Nat} (hc : c < 64) (hx : ∀ v, v < K → ¬ (lb (gl S 6874 v) c = true ∧ lb (gl S 6938 v) c = true)) : ∀ k, k ≤ K → (lb (fyn S d k).1 c = true ↔ ∃ v, v < k ∧ twv S d (nI c) v = 1) ∧ (lb (fyn S d k).2 c = true ↔ ∃ v, v < k ∧ twv S d (nI c) v = 0)
  | 0, _ => by
    rw [fyn]
    exact ⟨⟨fun z => absurd ((l_0 c).symm.trans z) (by decide), fun ⟨v, h, _⟩ => absurd h (by omega)⟩, ⟨fun z => absurd ((l_0 c).symm.trans z) (by decide), fun ⟨v, h, _⟩ => absurd h (by omega)⟩⟩
  | k + 1, hk => by
    obtain ⟨i1, i2⟩ := fyn_g (d := d) hc hx k (by omega)
    have xx := hx k (by omega)
    rw [fyn]
    by_cases q : wd S k 1 = d ∧ ¬ cw S k = 0
    · have e : twv S d (nI c) k = vl2 (lb (gl S 6874 k) c) (lb (gl S 6938 k) c) := by unfold twv; rw [if_pos q, td_b _ _ hc]
      obtain ⟨f1, f2, -⟩ := fsv _ _ xx
      rw [if_pos q]
      refine ⟨?_, ?_⟩
      · show lb ((fyn S d k).1 ||| gl S 6874 k) c = true ↔ _
        rw [l_or, Bool.or_eq_true, i1]
        constructor
        · rintro (⟨v, a, b⟩ | z)
          · exact ⟨v, by omega, b⟩
          · exact ⟨k, by omega, by rw [e]; exact f1.mpr z⟩
        · rintro ⟨v, a, b⟩
          by_cases ev : v = k
          · subst ev
            rw [e] at b
            exact Or.inr (f1.mp b)
          · exact Or.inl ⟨v, by omega, b⟩
      · show lb ((fyn S d k).2 ||| gl S 6938 k) c = true ↔ _
        rw [l_or, Bool.or_eq_true, i2]
        constructor
        · rintro (⟨v, a, b⟩ | z)
          · exact ⟨v, by omega, b⟩
          · exact ⟨k, by omega, by rw [e]; exact f2.mpr z⟩
        · rintro ⟨v, a, b⟩
          by_cases ev : v = k
          · subst ev
            rw [e] at b
            exact Or.inr (f2.mp b)
          · exact Or.inl ⟨v, by omega, b⟩
    · have e : twv S d (nI c) k = -4 := by unfold twv; rw [if_neg q]
      rw [if_neg q, i1, i2]
      have st : ∀ x : Int32, ¬ x = -4 → ((∃ v, v < k ∧ twv S d (nI c) v = x) ↔ ∃ v, v < k + 1 ∧ twv S d (nI c) v = x) := fun x nx => by
        constructor
        · rintro ⟨v, a, b⟩; exact ⟨v, by omega, b⟩
        · rintro ⟨v, a, b⟩
          by_cases ev : v = k
          · subst ev
            exact absurd (b.symm.trans e) nx
          · exact ⟨v, by omega, b⟩
      exact ⟨st 1 (by decide), st 0 (by decide)⟩
theorem o2_3 (S : Mm) (K : Nat) (d c : Int32) : o2 S K d c = 1 ∨ o2 S K d c = 0 ∨ o2 S K d c = -4 := by
  unfold o2
  have key : ∀ k, (tw S d c k).1 = 1 ∨ (tw S d c k).1 = 0 ∨ (tw S d c k).1 = -4 := by
    intro k
    induction k with
    | zero => exact Or.inr (Or.inr rfl)
    | succ k ih =>
      rw [tw_st]
      unfold tst
      split
      · exact ih
      · exact twv_c S _ _ k
  split
  · exact Or.inr (Or.inr rfl)
  · split
    · exact key K
    · exact Or.inr (Or.inr rfl)
theorem opn_g {A S : Mm} {L R K c : Nat} {d y n fw : Int32} (hc : c < 64) (ny : ¬ y = 0 ↔ lb (fyn S d K).1 c = true) (nn : ¬ n = 0 ↔ lb (fyn S d K).2 c = true) (twe : ¬ y = 0 → ¬ n = 0 → stl A L R y n fw = o2 S K d (nI c)) : stl A L R y n fw = vl2 (lb (eyv S K d 64) c) (lb (enw S K d 64) c) := by
  obtain ⟨b1, b2⟩ := eyv_b (N := S) (W := K) (d := d) hc 64 (Nat.le_refl 64)
  rw [clv_b] at b1 b2
  generalize lb (fyn S d K).1 c = p at *
  generalize lb (fyn S d K).2 c = q at *
  have bf : ∀ {b : Bool}, ¬ b = true → b = false := fun h => by simpa using h
  cases ep : p
  · have y0 : y = 0 := by
      by_cases z : y = 0
      · exact z
      · have := ny.mp z; rw [ep] at this; exact absurd this (by decide)
    have e1 : lb (eyv S K d 64) c = false := bf (fun z => by
      rcases b1.mp z with w | w
      · rw [ep] at w; exact absurd w.1 (by decide)
      · rw [ep] at w; exact absurd w.2.1.1 (by decide))
    unfold stl
    rw [if_pos (Or.inl y0), e1]
    unfold agr
    rw [if_pos y0, if_pos y0]
    cases eq : q
    · have n0' : n = 0 := by
        by_cases z : n = 0
        · exact z
        · have := nn.mp z; rw [eq] at this; exact absurd this (by decide)
      have e2 : lb (enw S K d 64) c = false := bf (fun z => by
        rcases b2.mp z with w | w
        · rw [eq] at w; exact absurd w.1 (by decide)
        · rw [eq] at w; exact absurd w.2.1.2 (by decide))
      rw [if_pos n0', e2]; rfl
    · have n1 : ¬ n = 0 := nn.mpr eq
      have e2 : lb (enw S K d 64) c = true := b2.mpr (Or.inl ⟨eq, ep⟩)
      rw [if_neg n1, e2]; rfl
  · have y1 : ¬ y = 0 := ny.mpr ep
    cases eq : q
    · have n0' : n = 0 := by
        by_cases z : n = 0
        · exact z
        · have := nn.mp z; rw [eq] at this; exact absurd this (by decide)
      have e1 : lb (eyv S K d 64) c = true := b1.mpr (Or.inl ⟨ep, eq⟩)
      unfold stl
      rw [if_pos (Or.inr n0'), e1]
      unfold agr
      rw [if_pos n0', if_neg y1]; rfl
    · have n1 : ¬ n = 0 := nn.mpr eq
      rw [twe y1 n1]
      have k1 : lb (eyv S K d 64) c = true ↔ o2 S K d (nI c) = 1 := by
        rw [b1, ep, eq]
        exact ⟨fun z => z.elim (fun z => absurd z.2 (by decide)) (fun z => z.2.2), fun z => Or.inr ⟨hc, ⟨rfl, rfl⟩, z⟩⟩
      have k2 : lb (enw S K d 64) c = true ↔ o2 S K d (nI c) = 0 := by
        rw [b2, ep, eq]
        exact ⟨fun z => z.elim (fun z => absurd z.2 (by decide)) (fun z => z.2.2), fun z => Or.inr ⟨hc, ⟨rfl, rfl⟩, z⟩⟩
      unfold vl2
      rcases o2_3 S K d (nI c) with e | e | e
      · rw [if_pos (k1.mpr e), e]
      · rw [if_neg (fun z => by rw [k1.mp z] at e; exact absurd e (by decide)), if_pos (k2.mpr e), e]
      · rw [if_neg (fun z => by rw [k1.mp z] at e; exact absurd e (by decide)), if_neg (fun z => by rw [k2.mp z] at e; exact absurd e (by decide)), e]
theorem hvs_fw {A : Mm} {L : Nat} {ws fw : Int32} (h : bt ws 24 = false) : ∀ k, hvs A L ws fw k = hvs A L ws 0 k
  | 0 => rfl
  | k + 1 => by
    have e : ∀ g : Int32, (ws &&& (gi A (L + 590) k ||| (if nI k = g then 16777216 else 0))) = ws &&& gi A (L + 590) k := fun g => by
      refine b_ext (fun x hx => ?_)
      rw [b_and, b_and, b_or]
      by_cases q : nI k = g
      · rw [if_pos q, b_24 x hx]
        by_cases z : x = 24
        · rw [z, h, Bool.false_and, Bool.false_and]
        · rw [decide_eq_false z, Bool.or_false]
      · rw [if_neg q, b_0, Bool.or_false]
    rw [hvs, hvs, hvs_fw h k, e, e]
theorem stl_fw {A : Mm} {L R : Nat} {y n fw : Int32} (h : bt (y ||| n) 24 = false) : stl A L R y n fw = stl A L R y n 0 := by
  unfold stl; rw [hvs_fw h]
section EX2
variable {A M N S : Mm} {L P R U D W t d m : Nat} {G : Nat → Nat → Int32} {a : Int32}
theorem cw_xs (xs : XS N S W d a m) {v : Nat} (hv : v < W) : cw S v = cw N v := by
  obtain ⟨x1, x2, x3, x4, -⟩ := xs
  unfold cw
  rw [x1 v hv 0 (by decide), x1 v hv 1 (by decide), x1 v hv 2 (by decide), x2, x3, x4]
theorem twv_xs (xs : XS N S W d a m) (e c : Int32) {v : Nat} (hv : v < W) : twv S e c v = twv N e c v := by
  unfold twv
  rw [cw_xs xs hv, xs.1 v hv 1 (by decide), (xs.2.2.2.2.2.1 v hv).1, (xs.2.2.2.2.2.1 v hv).2]
theorem la_xs (xs : XS N S W d a m) (c : Int32) : laV S (W + 1) c = laV N W c := by
  obtain ⟨x1, x2, x3, x4, -, x6, x7, -⟩ := xs
  have key : ∀ i, i ≤ W → laS S c i = laS N c i := by
    intro i
    induction i with
    | zero => intro _; rfl
    | succ i ih =>
      intro hi
      have e : lav S c i = lav N c i := by
        unfold lav; rw [x1 i (by omega) 0 (by decide), (x6 i (by omega)).1, (x6 i (by omega)).2]
      simp only [laS, e, ih (by omega), lab, x1 i (show i < W by omega) 7 (by decide), x2]
  have eW : laS S c (W + 1) = laS S c W := by
    have : lav S c W = -4 := by unfold lav; rw [x7.1, if_neg (by decide)]
    rw [laS, if_pos (Or.inl this)]
  unfold laV
  rw [eW, key W (Nat.le_refl W), x2]
theorem wt_g (rows : ∀ w, w < W → ∀ k, k < 8 → wd S w k = G w k) (hu : gi S 6027 24 = unsd G W) (rs : ∀ w, w < W → RS6 G W w) {v : Nat} (hv : v < W) (hW : W ≤ 24) (hs : bt (unsd G W) v = false) : wt S v = wgv G v := by
  have nu : ¬ uns S v := fun z => by
    unfold uns at z
    rw [bit1 _ (by omega), hu, hs] at z
    exact absurd z (by decide)
  have r6 : ∀ w, w < W → G w 6 = -4 ∨ ∃ f, f < W ∧ G w 6 = nI f := fun w hw => by
    rcases (rs w hw).1 with z | ⟨-, f, hf, -, e⟩
    · exact Or.inl z.2
    · exact Or.inr ⟨f, hf, e⟩
  obtain ⟨e1, e2⟩ := eng_cg (g := G) (g' := wd S) hW (fun w hw => (rows w hw 6 (by decide)).symm) r6 25 v hv
  unfold wt wgv
  rw [if_neg nu, eng_e, ← e1, rows _ e2 3 (by decide), rows _ e2 4 (by decide)]
theorem wt_W (xs : XS N S W d a m) (hW : W ≤ 24) : wt S W = co (nI m) 32 := by
  obtain ⟨-, -, -, -, x5, -, ⟨-, -, y3, y4, y6⟩, -⟩ := xs
  have nu : ¬ uns S W := fun z => by
    unfold uns at z
    rw [bit1 _ (by omega), x5.2] at z
    exact absurd z (by decide)
  have c0 : co 0 32 = 0 := by decide +kernel
  unfold wt
  rw [if_neg nu, eng_e, eng_0 y6, y3, y4, c0, Int32.add_zero]
theorem twv_W (xs : XS N S W d a m) (hd : d < 8) (ha : a = 0 ∨ a = 1) (main : bt (gi N 6543 0) d = true) {c : Nat} (hc : c < 64) : twv S (nI d) (nI c) W = if (nI c &&& nI m) = nI m then a else -4 := by
  obtain ⟨-, x2, -, -, -, -, ⟨y0, y1, -⟩, x8⟩ := xs
  have cw1 : ¬ cw S W = 0 := by
    unfold cw
    rw [y0, y1, if_neg (by decide), if_neg (fun z => absurd z.1 (by decide)), if_pos (Or.inl (by rw [bit1 _ (by omega), x2]; exact main))]
    decide
  unfold twv
  rw [if_pos ⟨y1, cw1⟩, td_b _ _ hc]
  obtain ⟨z1, z2⟩ := x8 c hc
  unfold vl2
  by_cases q : (nI c &&& nI m) = nI m
  · rw [if_pos q]
    rcases ha with rfl | rfl
    · rw [if_neg (fun z => absurd (z1.mp z).2 (by decide)), if_pos (z2.mpr ⟨q, by decide⟩)]
    · rw [if_pos (z1.mpr ⟨q, rfl⟩)]
  · rw [if_neg q, if_neg (fun z => q (z1.mp z).1), if_neg (fun z => q (z2.mp z).1)]
theorem two_g (mc : CMP A N L R W G) (hW : W ≤ 24) (xs : XS N S W d a m) (hd : d < 8) (hm : m < 64) (ha : a = 0 ∨ a = 1) (main : bt (gi N 6543 0) d = true) {c : Nat} (hc : c < 64) {y n : Int32} (hy : ∀ x, x < 32 → (bt y x = true ↔ ∃ v, v < W + 1 ∧ bet W v = x ∧ twv S (nI d) (nI c) v = 1)) (hn : ∀ x, x < 32 → (bt n x = true ↔ ∃ v, v < W + 1 ∧ bet W v = x ∧ twv S (nI d) (nI c) v = 0)) (y0 : ¬ y = 0) (n0' : ¬ n = 0) : stl A L R y n (co (nI m) 32) = o2 S (W + 1) (nI d) (nI c) := by
  have r4 : gi S 6543 3 = gi N 6543 3 := by rw [xs.2.1]
  have e3 : gi A R 3 = gi N 6543 3 := mc.2.2.2.2.2.2.2.1 3 (by decide)
  have t3 := mc.2.2.2.2.2.2.2.2.1.1
  have ws := mc.2.2.2.2.2.1.2.1
  have hb : ∀ v, v < W + 1 → bet W v < 31 := fun v hv => by unfold bet; split <;> omega
  have hbm : ∀ v w, v < w → w < W + 1 → bet W v < bet W w := fun v w h h' => by
    unfold bet
    rw [if_pos (by omega)]
    split <;> omega
  unfold o2
  rw [r4]
  rcases t3 with r | r | r
  · have z : gi N 6543 3 ≤ 0 := by rw [r]; exact Int32.le_refl _
    rw [if_pos z]
    unfold stl
    rw [if_neg (fun z => z.elim y0 n0'), e3, r, if_neg (by decide), if_neg (by decide)]
  · have nz : ¬ gi N 6543 3 ≤ 0 := by rw [r]; decide
    rw [if_neg nz]
    have mu : ∀ v, twt S v = nI v := fun v => by unfold twt; rw [r4, if_pos r]
    refine stl_tr (K := W + 1) (f := twv S (nI d) (nI c)) (μ := twt S) (β := bet W) hb hbm (fun v _ => twv_c S _ _ v) hy hn y0 n0' (Or.inl (by rw [e3]; exact r)) (trs_tw (W + 1) (fun v hv _ => ?_)) (fun _ v _ => mu v) (fun q => ?_) (by omega)
    · rw [mu]; exact n0 v (by omega)
    · exfalso
      rw [e3, r] at q
      exact absurd q (by decide)
  · have nz : ¬ gi N 6543 3 ≤ 0 := by rw [r]; decide
    rw [if_neg nz]
    have rows : ∀ w, w < W → ∀ k, k < 8 → wd S w k = G w k := fun w hw k hk => (xs.1 w hw k hk).trans (mc.2.2.2.2.1 w hw k hk)
    have hu : gi S 6027 24 = unsd G W := xs.2.2.2.2.1.1.trans mc.2.2.2.2.2.2.1
    have rs := mc.2.2.2.2.2.2.2.2.2.2.1
    have sd : ∀ v, v < W → ¬ twv S (nI d) (nI c) v = -4 → bt (unsd G W) v = false := fun v hv z => by
      rw [twv_xs xs _ _ hv] at z
      exact twv_s mc hW hc hv z
    have tw2 : ∀ v, twt S v = wt S v := fun v => by unfold twt; rw [r4, if_neg (by rw [r]; decide)]
    have mu : ∀ v, v < W → ¬ twv S (nI d) (nI c) v = -4 → twt S v = wgv G v := fun v hv z => by
      rw [tw2]; exact wt_g rows hu rs hv hW (sd v hv z)
    have muW : twt S W = nI (pc8 m) := by rw [tw2, wt_W xs hW, co_64 m hm]
    have p6 := pc_6 m hm
    have wk : ∀ v, v < W + 1 → ¬ twv S (nI d) (nI c) v = -4 → ∃ k, k < 7 ∧ twt S v = nI k := fun v hv z => by
      by_cases e : v < W
      · rw [mu v e z]; exact wgv_k mc e (sd v e z)
      · have : v = W := by omega
        subst this
        exact ⟨pc8 m, by omega, muW⟩
    refine stl_tr (K := W + 1) (f := twv S (nI d) (nI c)) (μ := twt S) (β := bet W) hb hbm (fun v _ => twv_c S _ _ v) hy hn y0 n0' (Or.inr (by rw [e3]; exact r)) (trs_tw (W + 1) (fun v hv z => ?_)) (fun q => ?_) (fun _ => ⟨wk, fun k hk v hv z => ?_⟩) (by omega)
    · obtain ⟨k, hk, e⟩ := wk v hv z
      rw [e]; exact n0 k (by omega)
    · exfalso
      rw [e3, r] at q
      exact absurd q (by decide)
    · unfold owk bet
      by_cases e : v < W
      · rw [if_pos e, mu v e z, ← (ws k hk v (by omega)).2 e (sd v e z), b_or, Bool.or_eq_true]
        refine ⟨fun q => q.elim id (fun q => ?_), Or.inl⟩
        exfalso
        by_cases y : nI k = co (nI m) 32
        · rw [if_pos y, b_24 v (by omega), decide_eq_true_eq] at q; omega
        · rw [if_neg y, b_0] at q; exact absurd q (by decide)
      · have ev : v = W := by omega
        subst ev
        rw [if_neg e, b_or, (ws k hk 24 (by decide)).1 hW, Bool.false_or, muW, co_64 m hm]
        by_cases y : nI k = nI (pc8 m)
        · rw [if_pos y, b_24 24 (by decide)]; exact ⟨fun _ => y.symm, fun _ => rfl⟩
        · rw [if_neg y, b_0]; exact ⟨fun q => absurd q (by decide), fun q => absurd q.symm y⟩
/-- what the doctor says with the found word -/
def xsv (A : Mm) (L R d : Nat) (a : Int32) (m c : Nat) : Int32 := stl A L R ((his A L d &&& gi A (L + 205) c) ||| (if a = 1 then 16777216 else 0)) ((his A L d &&& gi A (L + 269) c) ||| (if a = 0 then 16777216 else 0)) (co (nI m) 32)
theorem x_e (mc : CMP A N L R W G) (hW : W ≤ 24) (xs : XS N S W d a m) (hd : d < 8) (hm : m < 64) (ha : a = 0 ∨ a = 1) (main : bt (gi N 6543 0) d = true) {c : Nat} (hc : c < 64) : rop S (W + 1) c d = if (nI c &&& nI m) = nI m then xsv A L R d a m c else opn A L R d c := by
  obtain ⟨hy, hn⟩ := his_b mc hW hd hc
  have tW := twv_W xs hd ha main hc
  have ry := mc.2.2.2.1
  have hx : ∀ v, v < W + 1 → ¬ (lb (gl S 6874 v) c = true ∧ lb (gl S 6938 v) c = true) := fun v hv => by
    by_cases e : v < W
    · rw [(xs.2.2.2.2.2.1 v e).1, (xs.2.2.2.2.2.1 v e).2, (ry v e c hc).1, (ry v e c hc).2]
      exact said_x G hW v c
    · have ev : v = W := by omega
      subst ev
      obtain ⟨z1, z2⟩ := xs.2.2.2.2.2.2.2 c hc
      rintro ⟨p, q⟩
      exact (z2.mp q).2 (z1.mp p).2
  obtain ⟨f1, f2⟩ := fyn_g (d := nI d) hc hx (W + 1) (Nat.le_refl _)
  -- the two sets of words, with the found one
  have gen : ∀ y n : Int32, (∀ x, x < 32 → (bt y x = true ↔ ∃ v, v < W + 1 ∧ bet W v = x ∧ twv S (nI d) (nI c) v = 1)) → (∀ x, x < 32 → (bt n x = true ↔ ∃ v, v < W + 1 ∧ bet W v = x ∧ twv S (nI d) (nI c) v = 0)) → stl A L R y n (co (nI m) 32) = rop S (W + 1) c d := fun y n py pn => by
    have b31 : ∀ v, v < W + 1 → bet W v < 32 := fun v hv => by unfold bet; split <;> omega
    refine opn_g hc ?_ ?_ (fun y0 n0' => two_g mc hW xs hd hm ha main hc py pn y0 n0')
    · rw [nz_b, f1]
      constructor
      · rintro ⟨x, hx, e⟩
        obtain ⟨v, v1, -, v3⟩ := (py x hx).mp e
        exact ⟨v, v1, v3⟩
      · rintro ⟨v, v1, v3⟩
        exact ⟨bet W v, b31 v v1, (py _ (b31 v v1)).mpr ⟨v, v1, rfl, v3⟩⟩
    · rw [nz_b, f2]
      constructor
      · rintro ⟨x, hx, e⟩
        obtain ⟨v, v1, -, v3⟩ := (pn x hx).mp e
        exact ⟨v, v1, v3⟩
      · rintro ⟨v, v1, v3⟩
        exact ⟨bet W v, b31 v v1, (pn _ (b31 v v1)).mpr ⟨v, v1, rfl, v3⟩⟩
  have bits : ∀ (z : Int32) (r : Int32) (p : Prop) [Decidable p], ¬ r = -4 → (∀ x, x < 32 → (bt z x = true ↔ x < W ∧ twv N (nI d) (nI c) x = r)) → (p ↔ twv S (nI d) (nI c) W = r) → ∀ x, x < 32 → (bt (z ||| (if p then 16777216 else 0)) x = true ↔ ∃ v, v < W + 1 ∧ bet W v = x ∧ twv S (nI d) (nI c) v = r) := by
    intro z r p _ nr hz hp x hx
    have l2 : bt (if p then (16777216 : Int32) else 0) x = true ↔ p ∧ x = 24 := by
      by_cases q : p
      · rw [if_pos q, b_24 x hx, decide_eq_true_eq]; exact ⟨fun e => ⟨q, e⟩, fun e => e.2⟩
      · rw [if_neg q, b_0]; exact ⟨fun e => absurd e (by decide), fun e => absurd e.1 q⟩
    rw [b_or, Bool.or_eq_true, hz x hx, l2]
    constructor
    · rintro (⟨h1, h2⟩ | ⟨h1, h2⟩)
      · exact ⟨x, by omega, by unfold bet; rw [if_pos h1], by rw [twv_xs xs _ _ h1]; exact h2⟩
      · exact ⟨W, by omega, by unfold bet; rw [if_neg (by omega)]; exact h2.symm, hp.mp h1⟩
    · rintro ⟨v, v1, v2, v3⟩
      by_cases e : v < W
      · unfold bet at v2
        rw [if_pos e] at v2
        rw [twv_xs xs _ _ e] at v3
        rw [← v2]; exact Or.inl ⟨e, v3⟩
      · have ev : v = W := by omega
        subst ev
        unfold bet at v2
        rw [if_neg e] at v2
        exact Or.inr ⟨hp.mpr v3, v2.symm⟩
  by_cases q : (nI c &&& nI m) = nI m
  · rw [if_pos q]
    rw [if_pos q] at tW
    refine (gen _ _ (bits _ 1 (a = 1) (by decide) hy (by rw [tW])) (bits _ 0 (a = 0) (by decide) hn (by rw [tW]))).symm
  · rw [if_neg q]
    rw [if_neg q] at tW
    have h1 := bits _ 1 False (by decide) hy (by rw [tW]; exact ⟨fun z => z.elim, fun z => absurd z (by decide)⟩)
    have h0 := bits _ 0 False (by decide) hn (by rw [tW]; exact ⟨fun z => z.elim, fun z => absurd z (by decide)⟩)
    rw [if_neg (fun z => z), or_032] at h1 h0
    rw [← gen _ _ h1 h0]
    refine stl_fw ?_
    rw [b_or]
    have k1 : bt (his A L d &&& gi A (L + 205) c) 24 = false := by
      cases z : bt (his A L d &&& gi A (L + 205) c) 24
      · rfl
      · have := ((hy 24 (by decide)).mp z).1; omega
    have k2 : bt (his A L d &&& gi A (L + 269) c) 24 = false := by
      cases z : bt (his A L d &&& gi A (L + 269) c) 24
      · rfl
      · have := ((hn 24 (by decide)).mp z).1; omega
    rw [k1, k2]; rfl
end EX2
end MG95
section MG96
/-! ===== turns: the same on both sides ===== -/
theorem sb_64 : ∀ m, m < 64 → ∀ c, c < 64 → ((nI m &&& (nI c ^^^ (-1))) = 0 ↔ (nI c &&& nI m) = nI m) := by decide +kernel
theorem tb_1 {M : Mm} {W : Nat} {d a m : Int32} : wd (TB M W d a m) W 1 = d := by
  unfold wd TB
  rw [gi_si, if_neg (fun q => by omega), gi_si, if_neg (fun q => by omega), gi_si, if_neg (fun q => by omega), gi_si, if_neg (fun q => by omega), gi_si, if_neg (fun q => by omega), gi_si, if_neg (fun q => by omega), gi_si, if_pos ⟨rfl, rfl⟩]
theorem tb_3 {M : Mm} {W : Nat} {d a m : Int32} : wd (TB M W d a m) W 3 = m := by
  unfold wd TB
  rw [gi_si, if_neg (fun q => by omega), gi_si, if_neg (fun q => by omega), gi_si, if_neg (fun q => by omega), gi_si, if_neg (fun q => by omega), gi_si, if_pos ⟨rfl, rfl⟩]
theorem tb_4 {M : Mm} {W : Nat} {d a m : Int32} : wd (TB M W d a m) W 4 = 0 := by
  unfold wd TB
  rw [gi_si, if_neg (fun q => by omega), gi_si, if_neg (fun q => by omega), gi_si, if_neg (fun q => by omega), gi_si, if_pos ⟨rfl, rfl⟩]
theorem tb_5 {M : Mm} {W : Nat} {d a m : Int32} : wd (TB M W d a m) W 5 = a := by
  unfold wd TB
  rw [gi_si, if_neg (fun q => by omega), gi_si, if_neg (fun q => by omega), gi_si, if_pos ⟨rfl, rfl⟩]
theorem uM_turnsBy {M : Mm} {W d mk : Nat} {a : Int32} {K : Int32 → Mm → Prop} (j : JW M W) (hW : W ≤ 24) (hh : HD M) (hu : UM M W) (hd : d < 8) (rows : ∀ e, e < 8 → ¬ e = d → gl M 7003 e = eyv M W (nI e) 64 ∧ gl M 7067 e = enw M W (nI e) 64) (h : ∀ S N, QF W M N → XS M S W d a mk → (∀ e, ¬ e = d → gl N 7003 e = gl M 7003 e ∧ gl N 7067 e = gl M 7067 e) → gi N 7438 = gi M 7438 → K (nbp (nq (rhu M W d (fun c => rop S (W + 1) c d)) (gi M 7438)) 64) N) : CI mM_turnsBy [.ref 6027, .int (nI d), .int a, .int (nI mk)] M K := by
  obtain ⟨hm, hW0, hW2, hw⟩ := id j
  generalize em : nI mk = m at h ⊢
  refine call_of rfl (Nat.le_of_ble_eq_true rfl) rfl (vM_turnsBy_0 rfl (mr1 hm) ?_)
  have i0 : (10 : Int32) * nI W = nI (10 * W) := by
    have := nI_ix W 0
    rwa [show (nI 0 : Int32) = 0 from rfl, Int32.add_zero, Nat.add_zero] at this
  have i : ∀ k, nI (10 * W) + nI k = nI (10 * W + k) := fun k => by
    show Int32.ofNat _ + Int32.ofNat _ = Int32.ofNat _
    rw [Int32.ofNat_add]
  have i1 : nI (10 * W) + 1 = nI (10 * W + 1) := i 1
  have i2 : nI (10 * W) + 2 = nI (10 * W + 2) := i 2
  have i3 : nI (10 * W) + 3 = nI (10 * W + 3) := i 3
  have i4 : nI (10 * W) + 4 = nI (10 * W + 4) := i 4
  have i5 : nI (10 * W) + 5 = nI (10 * W + 5) := i 5
  have i6 : nI (10 * W) + 6 = nI (10 * W + 6) := i 6
  have i7 : nI (10 * W) + 7 = nI (10 * W + 7) := i 7
  rw [hW0, i0, i1, i2, i3, i4, i5, i6, i7]
  refine ⟨vin (by omega) (by decide), vin (by omega) (by decide), vin (by omega) (by decide), vin (by omega) (by decide), vin (by omega) (by decide), vin (by omega) (by decide), vin (by omega) (by decide), vin (by omega) (by decide), ?_⟩
  rw [ncl (show 10 * W < 2 ^ 31 by omega), ncl (show 10 * W + 1 < 2 ^ 31 by omega), ncl (show 10 * W + 2 < 2 ^ 31 by omega), ncl (show 10 * W + 3 < 2 ^ 31 by omega), ncl (show 10 * W + 4 < 2 ^ 31 by omega), ncl (show 10 * W + 5 < 2 ^ 31 by omega), ncl (show 10 * W + 6 < 2 ^ 31 by omega), ncl (show 10 * W + 7 < 2 ^ 31 by omega)]
  change CV mM_sayWord [.ref 6027, .int (nI W)] (si (si (TB M W (nI d) a m) 6027 0 (gi (TB M W (nI d) a m) 6027 0 + 1)) 6027 24 (gi (si (TB M W (nI d) a m) 6027 0 (gi (TB M W (nI d) a m) 6027 0 + 1)) 6027 24 &&& (((1 : Int32) <<< (nI W &&& 31)) - 1))) _
  have t1 : ∀ b k, b ≠ 6101 → gi (TB M W (nI d) a m) b k = gi M b k := fun b k q => tb_o q
  have t2 : ∀ k, k < 10 * W → gi (TB M W (nI d) a m) 6101 k = gi M 6101 k := fun k q => tb_l q
  have t3 : wd (TB M W (nI d) a m) W 0 = 0 := tb_0
  have t4 : wd (TB M W (nI d) a m) W 2 = 0 := tb_2
  have t5 : wd (TB M W (nI d) a m) W 6 = -4 := tb_6
  have u1 : wd (TB M W (nI d) a m) W 1 = nI d := tb_1
  have u3 : wd (TB M W (nI d) a m) W 3 = m := tb_3
  have u4 : wd (TB M W (nI d) a m) W 4 = 0 := tb_4
  have u5 : wd (TB M W (nI d) a m) W 5 = a := tb_5
  have t6 : gr (TB M W (nI d) a m) = gr M := rfl
  have t7 : gl (TB M W (nI d) a m) = gl M := rfl
  generalize TB M W (nI d) a m = T at t1 t2 t3 t4 t5 t6 t7 u1 u3 u4 u5 ⊢
  rw [t1 6027 0 (by decide), hW0, nI_s, gi_si, if_neg (by decide), t1 6027 24 (by decide), show gi M 6027 24 &&& (((1 : Int32) <<< (nI W &&& 31)) - 1) = gi M 6027 24 from hu]
  have p1 : ∀ b k, b ≠ 6101 → b ≠ 6027 → gi (si (si T 6027 0 (nI (W + 1))) 6027 24 (gi M 6027 24)) b k = gi M b k := fun b k q r => by rw [giR _ _ _ _ _ _ r, giR _ _ _ _ _ _ r]; exact t1 b k q
  have p2 : ∀ k, gi (si (si T 6027 0 (nI (W + 1))) 6027 24 (gi M 6027 24)) 6101 k = gi T 6101 k := fun k => by rw [giR _ _ _ _ _ _ (by decide), giR _ _ _ _ _ _ (by decide)]
  have p3 : gi (si (si T 6027 0 (nI (W + 1))) 6027 24 (gi M 6027 24)) 6027 0 = nI (W + 1) := by rw [gi_si, if_neg (by decide), gi_si, if_pos ⟨rfl, rfl⟩]
  have p4 : ∀ k, k ≠ 0 → gi (si (si T 6027 0 (nI (W + 1))) 6027 24 (gi M 6027 24)) 6027 k = gi M 6027 k := fun k q => by
    rw [gi_si]
    by_cases e : k = 24
    · rw [if_pos ⟨rfl, e⟩, e]
    · rw [if_neg (fun r => e r.2), gi_si, if_neg (fun r => q r.2)]; exact t1 _ _ (by decide)
  have p5 : gr (si (si T 6027 0 (nI (W + 1))) 6027 24 (gi M 6027 24)) = gr M := t6
  have p6 : gl (si (si T 6027 0 (nI (W + 1))) 6027 24 (gi M 6027 24)) = gl M := t7
  generalize si (si T 6027 0 (nI (W + 1))) 6027 24 (gi M 6027 24) = P at p1 p2 p3 p4 p5 p6 ⊢
  have w1 : ∀ v k, v < W → k < 10 → wd P v k = wd M v k := fun v k hv hk => (p2 _).trans (t2 _ (by omega))
  have w2 : ∀ k, wd P W k = wd T W k := fun k => p2 _
  have jP : JW P (W + 1) := by
    refine ⟨mr_w hm p5, p3, by omega, fun w hw1 => ?_⟩
    by_cases e : w = W
    · subst e
      exact ⟨⟨0, by decide, (w2 2).trans t4⟩, fun _ => Or.inl ((w2 6).trans t5)⟩
    · obtain ⟨⟨b, hb, eb⟩, c⟩ := hw w (by omega)
      refine ⟨⟨b, hb, (w1 w 2 (by omega) (by decide)).trans eb⟩, fun u => chn_up (Nat.le_succ W) _ _ (chn_wd (fun v hv => w1 v 6 hv (by decide)) _ _ (by omega) (c ?_))⟩
      unfold uns at u ⊢
      rwa [p4 24 (by decide)] at u
  have hP : HD P := by unfold HD; rw [p1 6543 4 (by decide) (by decide)]; exact hh
  refine sM_sayWord jP.1 (by omega) (fun q => absurd ((w2 0).trans t3) q) ?_
  have sv : swv P W = (if a = 1 then cwi m 0 64 else 0, if a = 1 then 0 else cwi m 0 64) := by
    unfold swv
    rw [w2 0, w2 3, w2 4, w2 5, t3, u3, u4, u5, if_pos (Or.inl rfl)]
  rw [sv]
  have jS : JW (sl (sl P 6874 W (if a = 1 then cwi m 0 64 else 0)) 6938 W (if a = 1 then 0 else cwi m 0 64)) (W + 1) := jw_g rfl rfl jP
  have s1 : gi (sl (sl P 6874 W (if a = 1 then cwi m 0 64 else 0)) 6938 W (if a = 1 then 0 else cwi m 0 64)) = gi P := rfl
  have s2 : gr (sl (sl P 6874 W (if a = 1 then cwi m 0 64 else 0)) 6938 W (if a = 1 then 0 else cwi m 0 64)) = gr M := p5
  have s3 : ∀ b k, ¬ ((b = 6874 ∨ b = 6938) ∧ k = W) → gl (sl (sl P 6874 W (if a = 1 then cwi m 0 64 else 0)) 6938 W (if a = 1 then 0 else cwi m 0 64)) b k = gl M b k := fun b k q => by
    rw [gl_sl, if_neg (fun r => q ⟨Or.inr r.1, r.2⟩), gl_sl, if_neg (fun r => q ⟨Or.inl r.1, r.2⟩), p6]
  have s4 : gl (sl (sl P 6874 W (if a = 1 then cwi m 0 64 else 0)) 6938 W (if a = 1 then 0 else cwi m 0 64)) 6874 W = if a = 1 then cwi m 0 64 else 0 := by
    rw [gl_sl, if_neg (fun r => absurd r.1 (by decide)), gl_sl, if_pos ⟨rfl, rfl⟩]
  have s5 : gl (sl (sl P 6874 W (if a = 1 then cwi m 0 64 else 0)) 6938 W (if a = 1 then 0 else cwi m 0 64)) 6938 W = if a = 1 then 0 else cwi m 0 64 := by
    rw [gl_sl, if_pos ⟨rfl, rfl⟩]
  have hS : HD (sl (sl P 6874 W (if a = 1 then cwi m 0 64 else 0)) 6938 W (if a = 1 then 0 else cwi m 0 64)) := hP
  have s6 : ∀ v k, wd (sl (sl P 6874 W (if a = 1 then cwi m 0 64 else 0)) 6938 W (if a = 1 then 0 else cwi m 0 64)) v k = wd P v k := fun _ _ => rfl
  show X mM_turnsBy 143 _ [] (sl (sl P 6874 W (if a = 1 then cwi m 0 64 else 0)) 6938 W (if a = 1 then 0 else cwi m 0 64)) _ _
  generalize sl (sl P 6874 W (if a = 1 then cwi m 0 64 else 0)) 6938 W (if a = 1 then 0 else cwi m 0 64) = S at jS s1 s2 s3 s4 s5 s6 hS ⊢
  have xs : XS M S W d a mk := by
    refine ⟨fun w hw k hk => (s6 w k).trans (w1 w k hw (by omega)), ?_, ?_, ?_, ⟨?_, ?_⟩, fun v hv => ⟨s3 _ _ (fun q => by omega), s3 _ _ (fun q => by omega)⟩, ⟨?_, ?_, ?_, ?_, ?_⟩, fun c hc => ?_⟩
    · rw [s1]; funext k; exact p1 _ _ (by decide) (by decide)
    · rw [s1]; funext k; exact p1 _ _ (by decide) (by decide)
    · rw [s1]; exact p4 9 (by decide)
    · rw [s1]; exact p4 24 (by decide)
    · rw [s1, p4 24 (by decide), ← show gi M 6027 24 &&& (((1 : Int32) <<< (nI W &&& 31)) - 1) = gi M 6027 24 from hu, b_and, mask_b W hW W (by omega), decide_eq_false (Nat.lt_irrefl W), Bool.and_false]
    · rw [s6, w2, t3]
    · rw [s6, w2, u1]
    · rw [s6, w2, u3, em]
    · rw [s6, w2, u4]
    · rw [s6, w2, t5]
    · have cb := cwi_b m 0 64 (Nat.le_refl _) c hc
      have c0 : (nI c &&& 0) = 0 := b_ext (fun x _ => by rw [b_and, b_0, Bool.and_false])
      rw [s4, s5, em]
      by_cases q : a = 1
      · rw [if_pos q, if_pos q, cb, l_0]
        exact ⟨⟨fun z => ⟨z.2.1, q⟩, fun z => ⟨hc, z.1, c0⟩⟩, ⟨fun z => absurd z (by decide), fun z => absurd q z.2⟩⟩
      · rw [if_neg q, if_neg q, cb, l_0]
        exact ⟨⟨fun z => absurd z (by decide), fun z => absurd z.2 q⟩, ⟨fun z => ⟨z.2.1, q⟩, fun z => ⟨hc, z.1, c0⟩⟩⟩
  refine vM_turnsBy_143 rfl (sM_findOne jS hd (fun N1 f1 _ gy gn => vM_turnsBy_148 rfl (sM_findHeld (jw_sm (of_sm f1) jS) (hd_sm (of_sm (W := W + 1) f1) hS) (fun N2 f2 hf2 => vM_turnsBy_152 rfl (sM_findChanged (mr_w hm ((f2.2.2.trans f1.2.1).trans s2)) (fun N3 c1 c2 c3 c4 e35 _ => vM_turnsBy_166 rfl ?_))))))
  have k2 : ∀ b, b ≠ 7310 → b ≠ 7374 → b ≠ 7246 → b ≠ 7182 → gi N2 b = gi P b := fun b q1 q2 q3 q4 => by rw [f2.1 b q1 q2 q3 q4, f1.1, s1]
  have e6 := k2 6027 (by decide) (by decide) (by decide) (by decide)
  have e74 : gi N2 7438 = gi M 7438 := by
    rw [k2 7438 (by decide) (by decide) (by decide) (by decide)]; funext k; exact p1 _ _ (by decide) (by decide)
  have qf : QF W M N3 := by
    refine ⟨((c4.trans f2.2.2).trans f1.2.1).trans s2, fun b q => ?_, fun k hk => ?_, fun k q => ?_, fun b k q r => ?_⟩
    · rw [c1 b (fun e => q (by omega))]
      funext k
      rw [giR _ _ _ _ _ _ (fun e => q (by omega)), k2 b (fun e => q (by omega)) (fun e => q (by omega)) (fun e => q (by omega)) (fun e => q (by omega))]
      exact p1 b k (fun e => q (by omega)) (fun e => q (by omega))
    · rw [c1 6101 (by decide), giR _ _ _ _ _ _ (by decide), k2 6101 (by decide) (by decide) (by decide) (by decide), p2, t2 k hk]
    · rw [c2 k (fun e => q (by omega)) (fun e => q (by omega)), gi_si]
      by_cases e : k = 0
      · subst e
        rw [if_pos ⟨rfl, rfl⟩, e6, p3, hW0, ← nI_s]
        exact Int32.add_sub_cancel _ _
      · rw [if_neg (fun r => e r.2), e6, p4 k e]
    · rw [c3]
      show gl N2 b k = _
      rw [f2.2.1, f1.2.2 b k (fun e => q e.1), s3 b k r]
  have gl3 : ∀ b e, (b = 7003 ∨ b = 7067) → ¬ e = d → gl N3 b e = gl M b e := fun b e hb he => by
    rw [c3]
    show gl N2 b e = _
    rw [f2.2.1, f1.2.2 b e (fun q => he q.2), s3 b e (fun q => by omega)]
  have o2 : ∀ b k, b ≠ 6027 → gi (si N2 6027 0 (gi N2 6027 0 - 1)) b k = gi N2 b k := fun b k q => giR _ _ _ _ _ _ q
  have h1 : ∀ c, c < 64 → gi (si N2 6027 0 (gi N2 6027 0 - 1)) 7182 c = rhu M W d (fun c => rop S (W + 1) c d) c := fun c hc => by
    rw [o2 _ _ (by decide), (hf2 c hc).2.2.2]
    have h43 : gi N1 6543 = gi M 6543 := by rw [f1.1, s1]; funext k; exact p1 _ _ (by decide) (by decide)
    rw [hev_of (o := oud (rop M W c) d (rop S (W + 1) c d)) hc (hd_sm (of_sm (W := W + 1) f1) hS) (fun e he => ?_), laV_sm (of_sm f1), la_xs xs, h43]
    · rfl
    · unfold oud
      by_cases z : e = d
      · subst z
        rw [if_pos rfl, gy, gn]
        exact ⟨rfl, eyn_x hc⟩
      · rw [if_neg z, f1.2.2 _ _ (fun q => z q.2), f1.2.2 _ _ (fun q => z q.2), s3 _ _ (fun q => by omega), s3 _ _ (fun q => by omega), (rows e he z).1, (rows e he z).2]
        exact ⟨rfl, eyn_x hc⟩
  have := h S N3 qf xs (fun e he => ⟨gl3 _ _ (Or.inl rfl) he, gl3 _ _ (Or.inr rfl) he⟩ ) (by
    rw [c1 7438 (by decide)]; funext k; rw [o2 _ _ (by decide), e74])
  rw [e35, cnt_p, nbp_cg 64 (fun c hc => nq_cg (h1 c hc) (show gi (si N2 6027 0 (gi N2 6027 0 - 1)) 7438 c = gi M 7438 c by rw [o2 _ _ (by decide), e74]))]
  exact this
section EX3
variable {A M N S : Mm} {L P R U D W t d : Nat} {G : Nat → Nat → Int32} {a : Int32}
theorem xs_qf {m : Nat} {O : Mm} (f : QF W M O) (x : XS O S W d a m) : XS M S W d a m := by
  obtain ⟨x1, x2, x3, x4, x5, x6, x7, x8⟩ := x
  refine ⟨fun w hw k hk => (x1 w hw k hk).trans (f.2.2.1 _ (by omega)), x2.trans (f.2.1 _ (by decide)), x3.trans (f.2.1 _ (by decide)), x4.trans (f.2.2.2.1 _ (by decide)), ⟨x5.1.trans (f.2.2.2.1 _ (by decide)), x5.2⟩, fun v hv => ⟨(x6 v hv).1.trans (f.2.2.2.2 _ _ (by decide) (by omega)), (x6 v hv).2.trans (f.2.2.2.2 _ _ (by decide) (by omega))⟩, x7, x8⟩
theorem rhu_sm {O : Mm} (s : SM W M O) (j : JW M W) (x : Nat → Int32) (c : Nat) : rhu O W d x c = rhu M W d x c := by
  unfold rhu
  rw [laV_sm s, s.2.2.1]
  refine hof_cg (fun e _ => ?_)
  unfold oud
  by_cases z : e = d
  · rw [if_pos z, if_pos z]
  · rw [if_neg z, if_neg z]; exact rop_sm s j c e
theorem uM_turns {v a u : Int32} {K : Int32 → Mm → Prop} (j : JW M W) (hW : W ≤ 24) (hh : HD M) (hu : UM M W) (hb : (isD v && (isE a && isC u)) = false → K (-1) M) (hs : (isD v && (isE a && isC u)) = true → ∀ d, d < 8 → v = nI d → ¬ bt (gi M 6543 0) d = true → K (-2) M) (h : (isD v && (isE a && isC u)) = true → ∀ d m S N, d < 8 → v = nI d → m < 64 → u = nI m → bt (gi M 6543 0) d = true → QF W M N → XS M S W d a m → K (nbp (nq (rhu M W d (fun c => rop S (W + 1) c d)) (rhe M W)) 64) N) : CI mM_turns [.ref 6027, .int v, .int a, .int u] M K := by
  refine call_of rfl (Nat.le_of_ble_eq_true rfl) rfl (vM_turns_0 (sM_isDoctor (fun q => vM_turns_4 ⟨fun _ => hb (by rw [q]; rfl), fun q => absurd rfl q⟩) (fun i hi e => vM_turns_4 ⟨fun q => absurd q (by decide), fun _ => sM_inE (fun q => vM_turns_14 ⟨fun _ => hb (by rw [q, Bool.false_and, Bool.and_false]), fun q => absurd rfl q⟩) (fun qa => vM_turns_14 ⟨fun q => absurd q (by decide), fun _ => sM_isCase (fun q => vM_turns_21 rfl (mr18 j.1) ⟨fun q => absurd rfl q.1, fun q => absurd rfl q.1, fun _ => hb (by rw [q, Bool.and_false, Bool.and_false])⟩) (fun k hk e2 => vM_turns_21 rfl (mr18 j.1) ⟨fun q => tM_findAll j hh (fun N f hf hv => ?_), fun q => ?_, fun q => absurd q (by decide)⟩)⟩)⟩)))
  · subst e e2
    have f1 : QF W M N := qf_af f
    refine vM_turns_46 rfl (kh_row (mr_w j.1 f1.1) ?_)
    have f2 := qf_tr f1 (qf_row (M := N) (n := 64) (g := gi N 7182))
    have o7 : ∀ c, c < 64 → gi (rwm N 7438 64 (gi N 7182)) 7438 c = rhe M W c := fun c hc => ((if_pos ⟨rfl, hc⟩).trans (hf c hc).2.2.2).trans (hev_eo hh hc)
    have ol : gl (rwm N 7438 64 (gi N 7182)) = gl N := rfl
    generalize rwm N 7438 64 (gi N 7182) = O at f2 o7 ol ⊢
    have jO := jw_sm (qf_sm f2) j
    refine vM_turns_50 rfl (uM_turnsBy jO hW (hd_sm (qf_sm f2) hh) (um_qf f2 hu) hi (fun e he _ => ?_) (fun S P f3 xs _ _ => vM_turns_57 ?_))
    · rw [ol, eyv_sm (qf_sm f2) j, enw_sm (qf_sm f2) j]
      exact ⟨(hv e he).2.1, (hv e he).2.2⟩
    · rw [nbp_cg 64 (fun c hc => nq_cg (rhu_sm (qf_sm f2) j _ c) (o7 c hc))]
      refine h (by rw [yD hi, yE qa, yC hk]; rfl) i k S P hi rfl hk rfl ?_ (qf_tr f2 f3) (xs_qf f2 xs)
      by_cases z : bt (gi M 6543 0) i = true
      · exact z
      · exact absurd (bit0' (gi M 6543 0) (by omega) z) q.2
  · refine hs (by rw [e, e2, yD hi, yE qa, yC hk]; rfl) i hi e (fun z => ?_)
    rw [e] at q
    have := (bit1 (gi M 6543 0) (m := i) (by omega)).mpr z
    rw [q.2] at this
    exact absurd this (by decide)
/-- the class: does a found word turn the case that was weighed -/
theorem eWe_turnsBy {c : Nat} {fw l : Int32} {o : Nat → Int32} {K : Int32 → Mm → Prop} (w : WH M L R) (hd : d < 8) (hc : c < 64) (f4 : gi M 5192 4 = nI c) (f5 : gi M 5192 5 = l) (f6 : gi M 5192 6 = ocn o 1 8) (f7 : gi M 5192 7 = ocn o 0 8) (fo : ∀ e, e < 8 → gi M 5261 e = o e) (f9 : gi M 5192 9 = hof l o (gi M R 4) (gi M R 5)) (h : K (if hof l (oud o d (stl M L R ((his M L d &&& gi M (L + 205) c) ||| (if a = 1 then 16777216 else 0)) ((his M L d &&& gi M (L + 269) c) ||| (if a = 0 then 16777216 else 0)) fw)) (gi M R 4) (gi M R 5) = hof l o (gi M R 4) (gi M R 5) then 0 else 1) M) : CI mWe_turnsBy [.ref 5192, .int (nI d), .int a, .int fw] M K := by
  have lr := w.2.2.2.1
  have cd : (nI d).toNatClampNeg = d := ncl (by omega)
  have cc : (nI c).toNatClampNeg = c := ncl (by omega)
  refine call_of rfl (Nat.le_of_ble_eq_true rfl) rfl (vWe_turnsBy_0 rfl w.1 (lr7 lr) (lr3 lr) (lr4 lr) ?_)
  rw [f4, cd, cc]
  refine ⟨vin hd (by decide), vin hc (by decide), vin hc (by decide), sWe_settled w ?_⟩
  change X mWe_turnsBy 82 [(0, .ref 5192), (1, .int (nI d))] [.int (stl M L R ((his M L d &&& gi M (L + 205) c) ||| (if a = 1 then 16777216 else 0)) ((his M L d &&& gi M (L + 269) c) ||| (if a = 0 then 16777216 else 0)) fw)] M _ _
  generalize stl M L R ((his M L d &&& gi M (L + 205) c) ||| (if a = 1 then 16777216 else 0)) ((his M L d &&& gi M (L + 269) c) ||| (if a = 0 then 16777216 else 0)) fw = x at h ⊢
  refine vWe_turnsBy_82 rfl w.2.2.1 ?_
  rw [cd, fo d hd]
  refine ⟨vin hd (by decide), fun q => ?_, fun q => eWe_heldIf w hd f5 f6 f7 fo (vWe_turnsBy_102 rfl ?_)⟩
  · have e : hof l (oud o d x) (gi M R 4) (gi M R 5) = hof l o (gi M R 4) (gi M R 5) := hof_cg (fun e _ => by
      unfold oud
      by_cases z : e = d
      · rw [if_pos z, q, z]
      · rw [if_neg z])
    rw [if_pos e] at h; exact h
  · rw [f9]
    exact ⟨fun q => by rw [if_pos q] at h; exact h, fun q => by rw [if_neg q] at h; exact h⟩
/-- the cases that a found word turns, by the class -/
def tnp (A : Mm) (L R d : Nat) (a : Int32) (m c : Nat) : Bool := decide ((nI c &&& nI m) = nI m ∧ ¬ hof (lwI A L R c) (oud (fun e => opn A L R e c) d (xsv A L R d a m c)) (gi A R 4) (gi A R 5) = heC A L R c)
theorem tnp_e {m : Nat} (mc : CMP A N L R W G) (hW : W ≤ 24) (xs : XS N S W d a m) (hd : d < 8) (hm : m < 64) (ha : a = 0 ∨ a = 1) (main : bt (gi N 6543 0) d = true) {c : Nat} (hc : c < 64) : tnp A L R d a m c = nq (rhu N W d (fun c => rop S (W + 1) c d)) (rhe N W) c := by
  obtain ⟨e1, e2, e3, e4⟩ := hold_e mc hW hc
  have e5 := x_e mc hW xs hd hm ha main hc
  have e6 := heC_e mc hW hc
  unfold tnp nq rhu
  rw [e6]
  show _ = decide (¬ hof (laV N W (nI c)) (oud (rop N W c) d (rop S (W + 1) c d)) (gi N 6543 4) (gi N 6543 5) = rhe N W c)
  rw [e5, e1, e3, e4]
  by_cases q : (nI c &&& nI m) = nI m
  · rw [if_pos q]
    have e7 : hof (laV N W (nI c)) (oud (fun e => opn A L R e c) d (xsv A L R d a m c)) (gi N 6543 4) (gi N 6543 5) = hof (laV N W (nI c)) (oud (rop N W c) d (xsv A L R d a m c)) (gi N 6543 4) (gi N 6543 5) := hof_cg (fun e he => by
      unfold oud
      by_cases z : e = d
      · rw [if_pos z, if_pos z]
      · rw [if_neg z, if_neg z]; exact e2 e he)
    rw [e7]
    by_cases z : hof (laV N W (nI c)) (oud (rop N W c) d (xsv A L R d a m c)) (gi N 6543 4) (gi N 6543 5) = rhe N W c
    · rw [decide_eq_false (fun y => y.2 z), decide_eq_false (fun y => y z)]
    · rw [decide_eq_true ⟨q, z⟩, decide_eq_true z]
  · rw [if_neg q]
    have e7 : hof (laV N W (nI c)) (oud (rop N W c) d (opn A L R d c)) (gi N 6543 4) (gi N 6543 5) = rhe N W c := hof_cg (fun e he => by
      unfold oud
      by_cases z : e = d
      · rw [if_pos z, z]; exact e2 d hd
      · rw [if_neg z])
    rw [decide_eq_false (fun y => q y.1), decide_eq_false (fun y => y e7)]
theorem pz_turns {v a u : Int32} {Z : Int32 → Int32 → Mm → Prop} (i0 : INY M) (h : ∀ r s N, INY N → r = s → Z r s N) : CI mC_turns [.ref 10, .int v, .int a, .int u] M (fun r N => CI mM_turns [.ref 6027, .int v, .int a, .int u] N (fun s O => Z r s O)) := by
  obtain ⟨L, P, R, S, U, D, W, t, i, ez⟩ := i0
  have c := i.1.1
  have hW : W ≤ 24 := i.2.1.2.1
  obtain ⟨G, ey⟩ := ez.2
  have iny : ∀ N O, CQ M N → QF W N O → INY O := fun N O f g => ⟨L, P, R, S, U, D, W, t, iv_qf g (iv_cq f i), ez_qf g (ez_cq f ez)⟩
  have r0 : gi M R 0 = gi M 6543 0 := ez.1.2.2.2.1 0 (by decide)
  have bad : (isD v && (isE a && isC u)) = false → CI mM_turns [.ref 6027, .int v, .int a, .int u] M (fun s O => Z (-1) s O) := fun q => uM_turns i.2.1.1 hW i.2.1.2.2.1 i.2.1.2.2.2.2 (fun _ => h _ _ M (iny M M (cq_rf M) (qf_rf W M)) rfl) (fun y => absurd (q.symm.trans y) (by decide)) (fun y => absurd (q.symm.trans y) (by decide))
  refine call_of rfl (Nat.le_of_ble_eq_true rfl) rfl (vC_turns_0 (sC_isDoctor (fun q => vC_turns_4 ⟨fun _ => bad (by rw [nD q]; rfl), fun q => absurd rfl q⟩) (fun d hd ed => vC_turns_4 ⟨fun q => absurd q (by decide), fun _ => sC_isEither (fun q1 q2 => vC_turns_11 ⟨fun _ => bad (by rw [nE q1 q2, Bool.false_and, Bool.and_false]), fun q => absurd rfl q⟩) (fun ea => vC_turns_11 ⟨fun q => absurd q (by decide), fun _ => sC_isCase (fun q => vC_turns_18 rfl (cx6 c) ⟨fun q => absurd rfl q, fun _ => bad (by rw [nC q, Bool.and_false, Bool.and_false])⟩) (fun m hm em => vC_turns_18 rfl (cx6 c) ⟨fun _ => sRu_isMain (raM3 (cxR c)) (vC_turns_31 rfl ⟨fun q => lC_weighNow c (vC_turns_41 ?_), fun q => ?_⟩), fun q => absurd q (by decide)⟩)⟩)⟩)))
  · clear bad
    subst ed em
    have yes : (isD (nI d) && (isE a && isC (nI m))) = true := by rw [yD hd, yE ea, yC hm]; rfl
    have main : bt (gi M 6543 0) d = true := by
      by_cases z : ((ushr (gi M R 0) (nI d)) &&& 1) = 1
      · rw [← r0]; exact (bitu _ (by omega)).mp z
      · rw [if_neg z] at q; exact absurd rfl q
    generalize eB : bgn M L R (gi M 10 9) = B
    have wB : WH B L R := by rw [← eB]; exact cxw c _
    have cqB : ∀ {N}, WQ B N → CQ M N := fun q => by rw [← eB] at q; exact cqb q
    have mB : ∀ {N}, CQ M N → CMP B N L R W G := fun f => by rw [← eB]; exact cmp_of i ez.1 ey f
    refine lp 64 (P := fun k => ∀ N, WQ B N → X mC_turns 47 [(0, .ref 10), (1, .int (nI d)), (2, .int a), (3, .int (nI m)), (4, .int (nbp (tnp B L R d a m) k)), (5, .int (nI k))] [] N (mC mC_turns, mS mC_turns) (QI (fun r N => CI mM_turns [.ref 6027, .int (nI d), .int a, .int (nI m)] N (fun s O => Z r s O)))) (fun k hk ih N qN => ?_) (fun N qN => ?_) B (wq_rf B)
    · have wN := wh_gr wB qN.1
      have cN := cx_cq (cqB qN) c
      have sk := sb_64 m hm k hk
      refine vC_turns_47 rfl (cx11 cN) ⟨fun q => absurd q (nge rfl (by decide) hk), fun q => ?_, fun q => eWe_weigh wN (cxL c) (cxR c) hk (fun O qO vO => ?_)⟩
      · have := ih N qN
        rw [nbp, show tnp B L R d a m k = false from decide_eq_false (fun z => q.2 (sk.mpr z.1)), if_neg (by decide), Int32.add_zero] at this
        rw [nI_s]; exact this
      · have qBO := wq_tr qN qO
        have cO := cx_cq (cqB qBO) c
        obtain ⟨v4, v5, vo, v6, v7, -, v9⟩ := vO
        have v9' : gi O 5192 9 = heC B L R k := (show gi O 5192 9 = heC N L R k from v9).trans (heC_wq qN (cxL c) (cxR c) k)
        refine vC_turns_72 rfl (cx11 cO) (sJi_bitCount (fun r er => vC_turns_84 rfl ?_))
        refine eWe_turnsBy (o := fun e => opn B L R e k) (l := lwI B L R k) (wh_gr wN qO.1) hd hk v4 (v5.trans (lwI_wq qN (cxL c) (cxR c) k)) ?_ ?_ (fun e he => (vo e he).trans (opn_wq qN (cxL c) (cxR c) e k)) ?_ (vC_turns_87 ?_)
        · exact (show gi O 5192 6 = ysC N L R k from v6).trans (ysC_wq qN (cxL c) (cxR c) k)
        · exact (show gi O 5192 7 = nsC N L R k from v7).trans (nsC_wq qN (cxL c) (cxR c) k)
        · rw [v9', qBO.2.2.1 R (ra_ne (cxR c)), heC_h]
        · have := ih O qBO
          have e1 : stl O L R ((his O L d &&& gi O (L + 205) k) ||| (if a = 1 then 16777216 else 0)) ((his O L d &&& gi O (L + 269) k) ||| (if a = 0 then 16777216 else 0)) r = xsv B L R d a m k := by
            unfold xsv
            rw [stl_wq qBO (cxL c) (cxR c), his_wq qBO (cxL c), qBO.2.2.1 (L + 205) (la_ne (cxL c) (by decide)), qBO.2.2.1 (L + 269) (la_ne (cxL c) (by decide)), er, bc_co]
          rw [e1, qBO.2.2.1 R (ra_ne (cxR c)), ← heC_h]
          rw [nbp] at this
          rw [nI_s]
          by_cases z : hof (lwI B L R k) (oud (fun e => opn B L R e k) d (xsv B L R d a m k)) (gi B R 4) (gi B R 5) = heC B L R k
          · rw [show tnp B L R d a m k = false from decide_eq_false (fun y => y.2 z), if_neg (by decide)] at this
            rw [if_pos z, if_pos rfl]; exact this
          · rw [show tnp B L R d a m k = true from decide_eq_true ⟨sk.mp q.2, z⟩, if_pos rfl] at this
            rw [if_neg z, if_neg (by decide)]; exact this
    · have fN := cqB qN
      have iN := iv_cq fN i
      have mainN : bt (gi N 6543 0) d = true := by rw [fN.2.2 6543 (by decide)]; exact main
      refine vC_turns_47 rfl (cx11 (cx_cq fN c)) ⟨fun _ => ?_, fun q => absurd (nself rfl) q.1, fun q => absurd (nself rfl) q.1⟩
      refine uM_turns iN.2.1.1 hW iN.2.1.2.2.1 iN.2.1.2.2.2.2 (fun y => absurd (y.symm.trans yes) (by decide)) (fun _ d' hd' ed' nb => ?_) (fun _ d' m' S' O hd' ed' hm' em' _ f xs => ?_)
      · exfalso
        rw [ninj (by omega) (by omega)] at ed'
        rw [← ed'] at nb
        exact nb mainN
      · rw [ninj (by omega) (by omega)] at ed' em'
        subst ed' em'
        refine h _ _ O (iny N O fN f) (nbp_cg 64 (fun k hk => tnp_e (mB fN) hW xs hd hm ea mainN hk))
  · subst ed em
    have yes : (isD (nI d) && (isE a && isC (nI m))) = true := by rw [yD hd, yE ea, yC hm]; rfl
    have nmain : ¬ bt (gi M 6543 0) d = true := fun z => by
      rw [if_pos ((bitu _ (by omega)).mpr (by rw [r0]; exact z))] at q
      exact absurd q (by decide)
    refine uM_turns i.2.1.1 hW i.2.1.2.2.1 i.2.1.2.2.2.2 (fun y => absurd (y.symm.trans yes) (by decide)) (fun _ d' hd' ed' nb => h _ _ M (iny M M (cq_rf M) (qf_rf W M)) rfl) (fun _ d' m' S' O hd' ed' hm' em' mn f xs => ?_)
    exfalso
    rw [ninj (by omega) (by omega)] at ed'
    rw [← ed'] at mn
    exact nmain mn
end EX3
end MG96
