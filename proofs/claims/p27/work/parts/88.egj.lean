section MG96
/-! ===== a found word: what a doctor says then, on both sides ===== -/
/-- the reference's memory S is N with one word more, of doctor d, where all marks m are so the answer a -/
def XS (N S : Mm) (W d : Nat) (a : Int32) (m : Nat) : Prop :=
  (∀ w, w < W → ∀ k, k < 8 → wd S w k = wd N w k) ∧ gi S 6543 = gi N 6543 ∧ gi S 6157 = gi N 6157 ∧ gi S 6027 9 = gi N 6027 9 ∧ (gi S 6027 24 = gi N 6027 24 ∧ bt (gi S 6027 24) W = false) ∧ (∀ v, v < W → gl S 6874 v = gl N 6874 v ∧ gl S 6938 v = gl N 6938 v) ∧ (wd S W 0 = 0 ∧ wd S W 1 = nI d ∧ wd S W 3 = nI m ∧ wd S W 4 = 0 ∧ wd S W 6 = -4) ∧
  ∀ c, c < 64 → (lb (gl S 6874 W) c = true ↔ (nI c &&& nI m) = nI m ∧ a = 1) ∧ (lb (gl S 6938 W) c = true ↔ (nI c &&& nI m) = nI m ∧ ¬ a = 1)
theorem b_24 : ∀ x, x < 32 → bt 16777216 x = decide (x = 24) := by decide +kernel
def bet (W v : Nat) : Nat := if v < W then v else 24
theorem fyn_g {S : Mm} {d : Int32} {c K : Nat} (hc : c < 64) (hx : ∀ v, v < K → ¬ (lb (gl S 6874 v) c = true ∧ lb (gl S 6938 v) c = true)) : ∀ k, k ≤ K → (lb (fyn S d k).1 c = true ↔ ∃ v, v < k ∧ twv S d (nI c) v = 1) ∧ (lb (fyn S d k).2 c = true ↔ ∃ v, v < k ∧ twv S d (nI c) v = 0)
  | 0, _ => by
    rw [fyn]
    exact ⟨⟨fun z => absurd ((l_0 c).symm.trans z) (by decide), fun ⟨v, h, _⟩ => absurd h (by omega)⟩, ⟨fun z => absurd ((l_0 c).symm.trans z) (by decide), fun ⟨v, h, _⟩ => absurd h (by omega)⟩⟩
  | k + 1, hk => by
    obtain ⟨i1, i2⟩ := fyn_g (d := d) hc hx k (by omega)
    have xx := hx k (by omega)
    rw [fyn]
    by_cases q : wd S k 1 = d ∧ ¬ cw S k = 0
    · have e : twv S d (nI c) k = vl2 (lb (gl S 6874 k) c) (lb (gl S 6938 k) c) := by unfold twv; rw [if_pos q, td_b _ _ hc]
      obtain ⟨f1, f2, -⟩ := fsv _ _ xx
      rw [if_pos q]
      refine ⟨?_, ?_⟩
      · show lb ((fyn S d k).1 ||| gl S 6874 k) c = true ↔ _
        rw [l_or, Bool.or_eq_true, i1]
        constructor
        · rintro (⟨v, a, b⟩ | z)
          · exact ⟨v, by omega, b⟩
          · exact ⟨k, by omega, by rw [e]; exact f1.mpr z⟩
        · rintro ⟨v, a, b⟩
          by_cases ev : v = k
          · subst ev
            rw [e] at b
            exact Or.inr (f1.mp b)
          · exact Or.inl ⟨v, by omega, b⟩
      · show lb ((fyn S d k).2 ||| gl S 6938 k) c = true ↔ _
        rw [l_or, Bool.or_eq_true, i2]
        constructor
        · rintro (⟨v, a, b⟩ | z)
          · exact ⟨v, by omega, b⟩
          · exact ⟨k, by omega, by rw [e]; exact f2.mpr z⟩
        · rintro ⟨v, a, b⟩
          by_cases ev : v = k
          · subst ev
            rw [e] at b
            exact Or.inr (f2.mp b)
          · exact Or.inl ⟨v, by omega, b⟩
    · have e : twv S d (nI c) k = -4 := by unfold twv; rw [if_neg q]
      rw [if_neg q, i1, i2]
      have st : ∀ x : Int32, ¬ x = -4 → ((∃ v, v < k ∧ twv S d (nI c) v = x) ↔ ∃ v, v < k + 1 ∧ twv S d (nI c) v = x) := fun x nx => by
        constructor
        · rintro ⟨v, a, b⟩; exact ⟨v, by omega, b⟩
        · rintro ⟨v, a, b⟩
          by_cases ev : v = k
          · subst ev
            exact absurd (b.symm.trans e) nx
          · exact ⟨v, by omega, b⟩
      exact ⟨st 1 (by decide), st 0 (by decide)⟩
theorem o2_3 (S : Mm) (K : Nat) (d c : Int32) : o2 S K d c = 1 ∨ o2 S K d c = 0 ∨ o2 S K d c = -4 := by
  unfold o2
  have key : ∀ k, (tw S d c k).1 = 1 ∨ (tw S d c k).1 = 0 ∨ (tw S d c k).1 = -4 := by
    intro k
    induction k with
    | zero => exact Or.inr (Or.inr rfl)
    | succ k ih =>
      rw [tw_st]
      unfold tst
      split
      · exact ih
      · exact twv_c S _ _ k
  split
  · exact Or.inr (Or.inr rfl)
  · split
    · exact key K
    · exact Or.inr (Or.inr rfl)
theorem opn_g {A S : Mm} {L R K c : Nat} {d y n fw : Int32} (hc : c < 64) (ny : ¬ y = 0 ↔ lb (fyn S d K).1 c = true) (nn : ¬ n = 0 ↔ lb (fyn S d K).2 c = true) (twe : ¬ y = 0 → ¬ n = 0 → stl A L R y n fw = o2 S K d (nI c)) : stl A L R y n fw = vl2 (lb (eyv S K d 64) c) (lb (enw S K d 64) c) := by
  obtain ⟨b1, b2⟩ := eyv_b (N := S) (W := K) (d := d) hc 64 (Nat.le_refl 64)
  rw [clv_b] at b1 b2
  generalize lb (fyn S d K).1 c = p at *
  generalize lb (fyn S d K).2 c = q at *
  have bf : ∀ {b : Bool}, ¬ b = true → b = false := fun h => by simpa using h
  cases ep : p
  · have y0 : y = 0 := by
      by_cases z : y = 0
      · exact z
      · have := ny.mp z; rw [ep] at this; exact absurd this (by decide)
    have e1 : lb (eyv S K d 64) c = false := bf (fun z => by
      rcases b1.mp z with w | w
      · rw [ep] at w; exact absurd w.1 (by decide)
      · rw [ep] at w; exact absurd w.2.1.1 (by decide))
    unfold stl
    rw [if_pos (Or.inl y0), e1]
    unfold agr
    rw [if_pos y0, if_pos y0]
    cases eq : q
    · have n0' : n = 0 := by
        by_cases z : n = 0
        · exact z
        · have := nn.mp z; rw [eq] at this; exact absurd this (by decide)
      have e2 : lb (enw S K d 64) c = false := bf (fun z => by
        rcases b2.mp z with w | w
        · rw [eq] at w; exact absurd w.1 (by decide)
        · rw [eq] at w; exact absurd w.2.1.2 (by decide))
      rw [if_pos n0', e2]; rfl
    · have n1 : ¬ n = 0 := nn.mpr eq
      have e2 : lb (enw S K d 64) c = true := b2.mpr (Or.inl ⟨eq, ep⟩)
      rw [if_neg n1, e2]; rfl
  · have y1 : ¬ y = 0 := ny.mpr ep
    cases eq : q
    · have n0' : n = 0 := by
        by_cases z : n = 0
        · exact z
        · have := nn.mp z; rw [eq] at this; exact absurd this (by decide)
      have e1 : lb (eyv S K d 64) c = true := b1.mpr (Or.inl ⟨ep, eq⟩)
      unfold stl
      rw [if_pos (Or.inr n0'), e1]
      unfold agr
      rw [if_pos n0', if_neg y1]; rfl
    · have n1 : ¬ n = 0 := nn.mpr eq
      rw [twe y1 n1]
      have k1 : lb (eyv S K d 64) c = true ↔ o2 S K d (nI c) = 1 := by
        rw [b1, ep, eq]
        exact ⟨fun z => z.elim (fun z => absurd z.2 (by decide)) (fun z => z.2.2), fun z => Or.inr ⟨hc, ⟨rfl, rfl⟩, z⟩⟩
      have k2 : lb (enw S K d 64) c = true ↔ o2 S K d (nI c) = 0 := by
        rw [b2, ep, eq]
        exact ⟨fun z => z.elim (fun z => absurd z.2 (by decide)) (fun z => z.2.2), fun z => Or.inr ⟨hc, ⟨rfl, rfl⟩, z⟩⟩
      unfold vl2
      rcases o2_3 S K d (nI c) with e | e | e
      · rw [if_pos (k1.mpr e), e]
      · rw [if_neg (fun z => by rw [k1.mp z] at e; exact absurd e (by decide)), if_pos (k2.mpr e), e]
      · rw [if_neg (fun z => by rw [k1.mp z] at e; exact absurd e (by decide)), if_neg (fun z => by rw [k2.mp z] at e; exact absurd e (by decide)), e]
theorem hvs_fw {A : Mm} {L : Nat} {ws fw : Int32} (h : bt ws 24 = false) : ∀ k, hvs A L ws fw k = hvs A L ws 0 k
  | 0 => rfl
  | k + 1 => by
    have e : ∀ g : Int32, (ws &&& (gi A (L + 590) k ||| (if nI k = g then 16777216 else 0))) = ws &&& gi A (L + 590) k := fun g => by
      refine b_ext (fun x hx => ?_)
      rw [b_and, b_and, b_or]
      by_cases q : nI k = g
      · rw [if_pos q, b_24 x hx]
        by_cases z : x = 24
        · rw [z, h, Bool.false_and, Bool.false_and]
        · rw [decide_eq_false z, Bool.or_false]
      · rw [if_neg q, b_0, Bool.or_false]
    rw [hvs, hvs, hvs_fw h k, e, e]
theorem stl_fw {A : Mm} {L R : Nat} {y n fw : Int32} (h : bt (y ||| n) 24 = false) : stl A L R y n fw = stl A L R y n 0 := by
  unfold stl; rw [hvs_fw h]
section EX2
variable {A M N S : Mm} {L P R U D W t d m : Nat} {G : Nat → Nat → Int32} {a : Int32}
theorem cw_xs (xs : XS N S W d a m) {v : Nat} (hv : v < W) : cw S v = cw N v := by
  obtain ⟨x1, x2, x3, x4, -⟩ := xs
  unfold cw
  rw [x1 v hv 0 (by decide), x1 v hv 1 (by decide), x1 v hv 2 (by decide), x2, x3, x4]
theorem twv_xs (xs : XS N S W d a m) (e c : Int32) {v : Nat} (hv : v < W) : twv S e c v = twv N e c v := by
  unfold twv
  rw [cw_xs xs hv, xs.1 v hv 1 (by decide), (xs.2.2.2.2.2.1 v hv).1, (xs.2.2.2.2.2.1 v hv).2]
theorem la_xs (xs : XS N S W d a m) (c : Int32) : laV S (W + 1) c = laV N W c := by
  obtain ⟨x1, x2, x3, x4, -, x6, x7, -⟩ := xs
  have key : ∀ i, i ≤ W → laS S c i = laS N c i := by
    intro i
    induction i with
    | zero => intro _; rfl
    | succ i ih =>
      intro hi
      have e : lav S c i = lav N c i := by
        unfold lav; rw [x1 i (by omega) 0 (by decide), (x6 i (by omega)).1, (x6 i (by omega)).2]
      simp only [laS, e, ih (by omega), lab, x1 i (show i < W by omega) 7 (by decide), x2]
  have eW : laS S c (W + 1) = laS S c W := by
    have : lav S c W = -4 := by unfold lav; rw [x7.1, if_neg (by decide)]
    rw [laS, if_pos (Or.inl this)]
  unfold laV
  rw [eW, key W (Nat.le_refl W), x2]
theorem wt_g (rows : ∀ w, w < W → ∀ k, k < 8 → wd S w k = G w k) (hu : gi S 6027 24 = unsd G W) (rs : ∀ w, w < W → RS6 G W w) {v : Nat} (hv : v < W) (hW : W ≤ 24) (hs : bt (unsd G W) v = false) : wt S v = wgv G v := by
  have nu : ¬ uns S v := fun z => by
    unfold uns at z
    rw [bit1 _ (by omega), hu, hs] at z
    exact absurd z (by decide)
  have r6 : ∀ w, w < W → G w 6 = -4 ∨ ∃ f, f < W ∧ G w 6 = nI f := fun w hw => by
    rcases (rs w hw).1 with z | ⟨-, f, hf, -, e⟩
    · exact Or.inl z.2
    · exact Or.inr ⟨f, hf, e⟩
  obtain ⟨e1, e2⟩ := eng_cg (g := G) (g' := wd S) hW (fun w hw => (rows w hw 6 (by decide)).symm) r6 25 v hv
  unfold wt wgv
  rw [if_neg nu, eng_e, ← e1, rows _ e2 3 (by decide), rows _ e2 4 (by decide)]
theorem wt_W (xs : XS N S W d a m) (hW : W ≤ 24) : wt S W = co (nI m) 32 := by
  obtain ⟨-, -, -, -, x5, -, ⟨-, -, y3, y4, y6⟩, -⟩ := xs
  have nu : ¬ uns S W := fun z => by
    unfold uns at z
    rw [bit1 _ (by omega), x5.2] at z
    exact absurd z (by decide)
  have c0 : co 0 32 = 0 := by decide +kernel
  unfold wt
  rw [if_neg nu, eng_e, eng_0 y6, y3, y4, c0, Int32.add_zero]
theorem twv_W (xs : XS N S W d a m) (hd : d < 8) (ha : a = 0 ∨ a = 1) (main : bt (gi N 6543 0) d = true) {c : Nat} (hc : c < 64) : twv S (nI d) (nI c) W = if (nI c &&& nI m) = nI m then a else -4 := by
  obtain ⟨-, x2, -, -, -, -, ⟨y0, y1, -⟩, x8⟩ := xs
  have cw1 : ¬ cw S W = 0 := by
    unfold cw
    rw [y0, y1, if_neg (by decide), if_neg (fun z => absurd z.1 (by decide)), if_pos (Or.inl (by rw [bit1 _ (by omega), x2]; exact main))]
    decide
  unfold twv
  rw [if_pos ⟨y1, cw1⟩, td_b _ _ hc]
  obtain ⟨z1, z2⟩ := x8 c hc
  unfold vl2
  by_cases q : (nI c &&& nI m) = nI m
  · rw [if_pos q]
    rcases ha with rfl | rfl
    · rw [if_neg (fun z => absurd (z1.mp z).2 (by decide)), if_pos (z2.mpr ⟨q, by decide⟩)]
    · rw [if_pos (z1.mpr ⟨q, rfl⟩)]
  · rw [if_neg q, if_neg (fun z => q (z1.mp z).1), if_neg (fun z => q (z2.mp z).1)]
theorem two_g (mc : CMP A N L R W G) (hW : W ≤ 24) (xs : XS N S W d a m) (hd : d < 8) (hm : m < 64) (ha : a = 0 ∨ a = 1) (main : bt (gi N 6543 0) d = true) {c : Nat} (hc : c < 64) {y n : Int32} (hy : ∀ x, x < 32 → (bt y x = true ↔ ∃ v, v < W + 1 ∧ bet W v = x ∧ twv S (nI d) (nI c) v = 1)) (hn : ∀ x, x < 32 → (bt n x = true ↔ ∃ v, v < W + 1 ∧ bet W v = x ∧ twv S (nI d) (nI c) v = 0)) (y0 : ¬ y = 0) (n0' : ¬ n = 0) : stl A L R y n (co (nI m) 32) = o2 S (W + 1) (nI d) (nI c) := by
  have r4 : gi S 6543 3 = gi N 6543 3 := by rw [xs.2.1]
  have e3 : gi A R 3 = gi N 6543 3 := mc.2.2.2.2.2.2.2.1 3 (by decide)
  have t3 := mc.2.2.2.2.2.2.2.2.1.1
  have ws := mc.2.2.2.2.2.1.2.1
  have hb : ∀ v, v < W + 1 → bet W v < 31 := fun v hv => by unfold bet; split <;> omega
  have hbm : ∀ v w, v < w → w < W + 1 → bet W v < bet W w := fun v w h h' => by
    unfold bet
    rw [if_pos (by omega)]
    split <;> omega
  unfold o2
  rw [r4]
  rcases t3 with r | r | r
  · have z : gi N 6543 3 ≤ 0 := by rw [r]; exact Int32.le_refl _
    rw [if_pos z]
    unfold stl
    rw [if_neg (fun z => z.elim y0 n0'), e3, r, if_neg (by decide), if_neg (by decide)]
  · have nz : ¬ gi N 6543 3 ≤ 0 := by rw [r]; decide
    rw [if_neg nz]
    have mu : ∀ v, twt S v = nI v := fun v => by unfold twt; rw [r4, if_pos r]
    refine stl_tr (K := W + 1) (f := twv S (nI d) (nI c)) (μ := twt S) (β := bet W) hb hbm (fun v _ => twv_c S _ _ v) hy hn y0 n0' (Or.inl (by rw [e3]; exact r)) (trs_tw (W + 1) (fun v hv _ => ?_)) (fun _ v _ => mu v) (fun q => ?_) (by omega)
    · rw [mu]; exact n0 v (by omega)
    · exfalso
      rw [e3, r] at q
      exact absurd q (by decide)
  · have nz : ¬ gi N 6543 3 ≤ 0 := by rw [r]; decide
    rw [if_neg nz]
    have rows : ∀ w, w < W → ∀ k, k < 8 → wd S w k = G w k := fun w hw k hk => (xs.1 w hw k hk).trans (mc.2.2.2.2.1 w hw k hk)
    have hu : gi S 6027 24 = unsd G W := xs.2.2.2.2.1.1.trans mc.2.2.2.2.2.2.1
    have rs := mc.2.2.2.2.2.2.2.2.2.2.1
    have sd : ∀ v, v < W → ¬ twv S (nI d) (nI c) v = -4 → bt (unsd G W) v = false := fun v hv z => by
      rw [twv_xs xs _ _ hv] at z
      exact twv_s mc hW hc hv z
    have tw2 : ∀ v, twt S v = wt S v := fun v => by unfold twt; rw [r4, if_neg (by rw [r]; decide)]
    have mu : ∀ v, v < W → ¬ twv S (nI d) (nI c) v = -4 → twt S v = wgv G v := fun v hv z => by
      rw [tw2]; exact wt_g rows hu rs hv hW (sd v hv z)
    have muW : twt S W = nI (pc8 m) := by rw [tw2, wt_W xs hW, co_64 m hm]
    have p6 := pc_6 m hm
    have wk : ∀ v, v < W + 1 → ¬ twv S (nI d) (nI c) v = -4 → ∃ k, k < 7 ∧ twt S v = nI k := fun v hv z => by
      by_cases e : v < W
      · rw [mu v e z]; exact wgv_k mc e (sd v e z)
      · have : v = W := by omega
        subst this
        exact ⟨pc8 m, by omega, muW⟩
    refine stl_tr (K := W + 1) (f := twv S (nI d) (nI c)) (μ := twt S) (β := bet W) hb hbm (fun v _ => twv_c S _ _ v) hy hn y0 n0' (Or.inr (by rw [e3]; exact r)) (trs_tw (W + 1) (fun v hv z => ?_)) (fun q => ?_) (fun _ => ⟨wk, fun k hk v hv z => ?_⟩) (by omega)
    · obtain ⟨k, hk, e⟩ := wk v hv z
      rw [e]; exact n0 k (by omega)
    · exfalso
      rw [e3, r] at q
      exact absurd q (by decide)
    · unfold owk bet
      by_cases e : v < W
      · rw [if_pos e, mu v e z, ← (ws k hk v (by omega)).2 e (sd v e z), b_or, Bool.or_eq_true]
        refine ⟨fun q => q.elim id (fun q => ?_), Or.inl⟩
        exfalso
        by_cases y : nI k = co (nI m) 32
        · rw [if_pos y, b_24 v (by omega), decide_eq_true_eq] at q; omega
        · rw [if_neg y, b_0] at q; exact absurd q (by decide)
      · have ev : v = W := by omega
        subst ev
        rw [if_neg e, b_or, (ws k hk 24 (by decide)).1 hW, Bool.false_or, muW, co_64 m hm]
        by_cases y : nI k = nI (pc8 m)
        · rw [if_pos y, b_24 24 (by decide)]; exact ⟨fun _ => y.symm, fun _ => rfl⟩
        · rw [if_neg y, b_0]; exact ⟨fun q => absurd q (by decide), fun q => absurd q.symm y⟩
/-- what the doctor says with the found word -/
def xsv (A : Mm) (L R d : Nat) (a : Int32) (m c : Nat) : Int32 := stl A L R ((his A L d &&& gi A (L + 205) c) ||| (if a = 1 then 16777216 else 0)) ((his A L d &&& gi A (L + 269) c) ||| (if a = 0 then 16777216 else 0)) (co (nI m) 32)
theorem x_e (mc : CMP A N L R W G) (hW : W ≤ 24) (xs : XS N S W d a m) (hd : d < 8) (hm : m < 64) (ha : a = 0 ∨ a = 1) (main : bt (gi N 6543 0) d = true) {c : Nat} (hc : c < 64) : rop S (W + 1) c d = if (nI c &&& nI m) = nI m then xsv A L R d a m c else opn A L R d c := by
  obtain ⟨hy, hn⟩ := his_b mc hW hd hc
  have tW := twv_W xs hd ha main hc
  have ry := mc.2.2.2.1
  have hx : ∀ v, v < W + 1 → ¬ (lb (gl S 6874 v) c = true ∧ lb (gl S 6938 v) c = true) := fun v hv => by
    by_cases e : v < W
    · rw [(xs.2.2.2.2.2.1 v e).1, (xs.2.2.2.2.2.1 v e).2, (ry v e c hc).1, (ry v e c hc).2]
      exact said_x G hW v c
    · have ev : v = W := by omega
      subst ev
      obtain ⟨z1, z2⟩ := xs.2.2.2.2.2.2.2 c hc
      rintro ⟨p, q⟩
      exact (z2.mp q).2 (z1.mp p).2
  obtain ⟨f1, f2⟩ := fyn_g (d := nI d) hc hx (W + 1) (Nat.le_refl _)
  -- the two sets of words, with the found one
  have gen : ∀ y n : Int32, (∀ x, x < 32 → (bt y x = true ↔ ∃ v, v < W + 1 ∧ bet W v = x ∧ twv S (nI d) (nI c) v = 1)) → (∀ x, x < 32 → (bt n x = true ↔ ∃ v, v < W + 1 ∧ bet W v = x ∧ twv S (nI d) (nI c) v = 0)) → stl A L R y n (co (nI m) 32) = rop S (W + 1) c d := fun y n py pn => by
    have b31 : ∀ v, v < W + 1 → bet W v < 32 := fun v hv => by unfold bet; split <;> omega
    refine opn_g hc ?_ ?_ (fun y0 n0' => two_g mc hW xs hd hm ha main hc py pn y0 n0')
    · rw [nz_b, f1]
      constructor
      · rintro ⟨x, hx, e⟩
        obtain ⟨v, v1, -, v3⟩ := (py x hx).mp e
        exact ⟨v, v1, v3⟩
      · rintro ⟨v, v1, v3⟩
        exact ⟨bet W v, b31 v v1, (py _ (b31 v v1)).mpr ⟨v, v1, rfl, v3⟩⟩
    · rw [nz_b, f2]
      constructor
      · rintro ⟨x, hx, e⟩
        obtain ⟨v, v1, -, v3⟩ := (pn x hx).mp e
        exact ⟨v, v1, v3⟩
      · rintro ⟨v, v1, v3⟩
        exact ⟨bet W v, b31 v v1, (pn _ (b31 v v1)).mpr ⟨v, v1, rfl, v3⟩⟩
  have bits : ∀ (z : Int32) (r : Int32) (p : Prop) [Decidable p], ¬ r = -4 → (∀ x, x < 32 → (bt z x = true ↔ x < W ∧ twv N (nI d) (nI c) x = r)) → (p ↔ twv S (nI d) (nI c) W = r) → ∀ x, x < 32 → (bt (z ||| (if p then 16777216 else 0)) x = true ↔ ∃ v, v < W + 1 ∧ bet W v = x ∧ twv S (nI d) (nI c) v = r) := by
    intro z r p _ nr hz hp x hx
    have l2 : bt (if p then (16777216 : Int32) else 0) x = true ↔ p ∧ x = 24 := by
      by_cases q : p
      · rw [if_pos q, b_24 x hx, decide_eq_true_eq]; exact ⟨fun e => ⟨q, e⟩, fun e => e.2⟩
      · rw [if_neg q, b_0]; exact ⟨fun e => absurd e (by decide), fun e => absurd e.1 q⟩
    rw [b_or, Bool.or_eq_true, hz x hx, l2]
    constructor
    · rintro (⟨h1, h2⟩ | ⟨h1, h2⟩)
      · exact ⟨x, by omega, by unfold bet; rw [if_pos h1], by rw [twv_xs xs _ _ h1]; exact h2⟩
      · exact ⟨W, by omega, by unfold bet; rw [if_neg (by omega)]; exact h2.symm, hp.mp h1⟩
    · rintro ⟨v, v1, v2, v3⟩
      by_cases e : v < W
      · unfold bet at v2
        rw [if_pos e] at v2
        rw [twv_xs xs _ _ e] at v3
        rw [← v2]; exact Or.inl ⟨e, v3⟩
      · have ev : v = W := by omega
        subst ev
        unfold bet at v2
        rw [if_neg e] at v2
        exact Or.inr ⟨hp.mpr v3, v2.symm⟩
  by_cases q : (nI c &&& nI m) = nI m
  · rw [if_pos q]
    rw [if_pos q] at tW
    refine (gen _ _ (bits _ 1 (a = 1) (by decide) hy (by rw [tW])) (bits _ 0 (a = 0) (by decide) hn (by rw [tW]))).symm
  · rw [if_neg q]
    rw [if_neg q] at tW
    have h1 := bits _ 1 False (by decide) hy (by rw [tW]; exact ⟨fun z => z.elim, fun z => absurd z (by decide)⟩)
    have h0 := bits _ 0 False (by decide) hn (by rw [tW]; exact ⟨fun z => z.elim, fun z => absurd z (by decide)⟩)
    rw [if_neg (fun z => z), or_032] at h1 h0
    rw [← gen _ _ h1 h0]
    refine stl_fw ?_
    rw [b_or]
    have k1 : bt (his A L d &&& gi A (L + 205) c) 24 = false := by
      cases z : bt (his A L d &&& gi A (L + 205) c) 24
      · rfl
      · have := ((hy 24 (by decide)).mp z).1; omega
    have k2 : bt (his A L d &&& gi A (L + 269) c) 24 = false := by
      cases z : bt (his A L d &&& gi A (L + 269) c) 24
      · rfl
      · have := ((hn 24 (by decide)).mp z).1; omega
    rw [k1, k2]; rfl
end EX2
end MG96
section MG97
/-! ===== turns: the same on both sides ===== -/
theorem sb_64 : ∀ m, m < 64 → ∀ c, c < 64 → ((nI m &&& (nI c ^^^ (-1))) = 0 ↔ (nI c &&& nI m) = nI m) := by decide +kernel
theorem tb_1 {M : Mm} {W : Nat} {d a m : Int32} : wd (TB M W d a m) W 1 = d := by
  unfold wd TB
  rw [gi_si, if_neg (fun q => by omega), gi_si, if_neg (fun q => by omega), gi_si, if_neg (fun q => by omega), gi_si, if_neg (fun q => by omega), gi_si, if_neg (fun q => by omega), gi_si, if_neg (fun q => by omega), gi_si, if_pos ⟨rfl, rfl⟩]
theorem tb_3 {M : Mm} {W : Nat} {d a m : Int32} : wd (TB M W d a m) W 3 = m := by
  unfold wd TB
  rw [gi_si, if_neg (fun q => by omega), gi_si, if_neg (fun q => by omega), gi_si, if_neg (fun q => by omega), gi_si, if_neg (fun q => by omega), gi_si, if_pos ⟨rfl, rfl⟩]
theorem tb_4 {M : Mm} {W : Nat} {d a m : Int32} : wd (TB M W d a m) W 4 = 0 := by
  unfold wd TB
  rw [gi_si, if_neg (fun q => by omega), gi_si, if_neg (fun q => by omega), gi_si, if_neg (fun q => by omega), gi_si, if_pos ⟨rfl, rfl⟩]
theorem tb_5 {M : Mm} {W : Nat} {d a m : Int32} : wd (TB M W d a m) W 5 = a := by
  unfold wd TB
  rw [gi_si, if_neg (fun q => by omega), gi_si, if_neg (fun q => by omega), gi_si, if_pos ⟨rfl, rfl⟩]
theorem uM_turnsBy {M : Mm} {W d mk : Nat} {a : Int32} {K : Int32 → Mm → Prop} (j : JW M W) (hW : W ≤ 24) (hh : HD M) (hu : UM M W) (hd : d < 8) (rows : ∀ e, e < 8 → ¬ e = d → gl M 7003 e = eyv M W (nI e) 64 ∧ gl M 7067 e = enw M W (nI e) 64) (h : ∀ S N, QF W M N → XS M S W d a mk → (∀ e, ¬ e = d → gl N 7003 e = gl M 7003 e ∧ gl N 7067 e = gl M 7067 e) → gi N 7438 = gi M 7438 → K (nbp (nq (rhu M W d (fun c => rop S (W + 1) c d)) (gi M 7438)) 64) N) : CI mM_turnsBy [.ref 6027, .int (nI d), .int a, .int (nI mk)] M K := by
  obtain ⟨hm, hW0, hW2, hw⟩ := id j
  generalize em : nI mk = m at h ⊢
  refine call_of rfl (Nat.le_of_ble_eq_true rfl) rfl (vM_turnsBy_0 rfl (mr1 hm) ?_)
  have i0 : (10 : Int32) * nI W = nI (10 * W) := by
    have := nI_ix W 0
    rwa [show (nI 0 : Int32) = 0 from rfl, Int32.add_zero, Nat.add_zero] at this
  have i : ∀ k, nI (10 * W) + nI k = nI (10 * W + k) := fun k => by
    show Int32.ofNat _ + Int32.ofNat _ = Int32.ofNat _
    rw [Int32.ofNat_add]
  have i1 : nI (10 * W) + 1 = nI (10 * W + 1) := i 1
  have i2 : nI (10 * W) + 2 = nI (10 * W + 2) := i 2
  have i3 : nI (10 * W) + 3 = nI (10 * W + 3) := i 3
  have i4 : nI (10 * W) + 4 = nI (10 * W + 4) := i 4
  have i5 : nI (10 * W) + 5 = nI (10 * W + 5) := i 5
  have i6 : nI (10 * W) + 6 = nI (10 * W + 6) := i 6
  have i7 : nI (10 * W) + 7 = nI (10 * W + 7) := i 7
  rw [hW0, i0, i1, i2, i3, i4, i5, i6, i7]
  refine ⟨vin (by omega) (by decide), vin (by omega) (by decide), vin (by omega) (by decide), vin (by omega) (by decide), vin (by omega) (by decide), vin (by omega) (by decide), vin (by omega) (by decide), vin (by omega) (by decide), ?_⟩
  rw [ncl (show 10 * W < 2 ^ 31 by omega), ncl (show 10 * W + 1 < 2 ^ 31 by omega), ncl (show 10 * W + 2 < 2 ^ 31 by omega), ncl (show 10 * W + 3 < 2 ^ 31 by omega), ncl (show 10 * W + 4 < 2 ^ 31 by omega), ncl (show 10 * W + 5 < 2 ^ 31 by omega), ncl (show 10 * W + 6 < 2 ^ 31 by omega), ncl (show 10 * W + 7 < 2 ^ 31 by omega)]
  change CV mM_sayWord [.ref 6027, .int (nI W)] (si (si (TB M W (nI d) a m) 6027 0 (gi (TB M W (nI d) a m) 6027 0 + 1)) 6027 24 (gi (si (TB M W (nI d) a m) 6027 0 (gi (TB M W (nI d) a m) 6027 0 + 1)) 6027 24 &&& (((1 : Int32) <<< (nI W &&& 31)) - 1))) _
  have t1 : ∀ b k, b ≠ 6101 → gi (TB M W (nI d) a m) b k = gi M b k := fun b k q => tb_o q
  have t2 : ∀ k, k < 10 * W → gi (TB M W (nI d) a m) 6101 k = gi M 6101 k := fun k q => tb_l q
  have t3 : wd (TB M W (nI d) a m) W 0 = 0 := tb_0
  have t4 : wd (TB M W (nI d) a m) W 2 = 0 := tb_2
  have t5 : wd (TB M W (nI d) a m) W 6 = -4 := tb_6
  have u1 : wd (TB M W (nI d) a m) W 1 = nI d := tb_1
  have u3 : wd (TB M W (nI d) a m) W 3 = m := tb_3
  have u4 : wd (TB M W (nI d) a m) W 4 = 0 := tb_4
  have u5 : wd (TB M W (nI d) a m) W 5 = a := tb_5
  have t6 : gr (TB M W (nI d) a m) = gr M := rfl
  have t7 : gl (TB M W (nI d) a m) = gl M := rfl
  generalize TB M W (nI d) a m = T at t1 t2 t3 t4 t5 t6 t7 u1 u3 u4 u5 ⊢
  rw [t1 6027 0 (by decide), hW0, nI_s, gi_si, if_neg (by decide), t1 6027 24 (by decide), show gi M 6027 24 &&& (((1 : Int32) <<< (nI W &&& 31)) - 1) = gi M 6027 24 from hu]
  have p1 : ∀ b k, b ≠ 6101 → b ≠ 6027 → gi (si (si T 6027 0 (nI (W + 1))) 6027 24 (gi M 6027 24)) b k = gi M b k := fun b k q r => by rw [giR _ _ _ _ _ _ r, giR _ _ _ _ _ _ r]; exact t1 b k q
  have p2 : ∀ k, gi (si (si T 6027 0 (nI (W + 1))) 6027 24 (gi M 6027 24)) 6101 k = gi T 6101 k := fun k => by rw [giR _ _ _ _ _ _ (by decide), giR _ _ _ _ _ _ (by decide)]
  have p3 : gi (si (si T 6027 0 (nI (W + 1))) 6027 24 (gi M 6027 24)) 6027 0 = nI (W + 1) := by rw [gi_si, if_neg (by decide), gi_si, if_pos ⟨rfl, rfl⟩]
  have p4 : ∀ k, k ≠ 0 → gi (si (si T 6027 0 (nI (W + 1))) 6027 24 (gi M 6027 24)) 6027 k = gi M 6027 k := fun k q => by
    rw [gi_si]
    by_cases e : k = 24
    · rw [if_pos ⟨rfl, e⟩, e]
    · rw [if_neg (fun r => e r.2), gi_si, if_neg (fun r => q r.2)]; exact t1 _ _ (by decide)
  have p5 : gr (si (si T 6027 0 (nI (W + 1))) 6027 24 (gi M 6027 24)) = gr M := t6
  have p6 : gl (si (si T 6027 0 (nI (W + 1))) 6027 24 (gi M 6027 24)) = gl M := t7
  generalize si (si T 6027 0 (nI (W + 1))) 6027 24 (gi M 6027 24) = P at p1 p2 p3 p4 p5 p6 ⊢
  have w1 : ∀ v k, v < W → k < 10 → wd P v k = wd M v k := fun v k hv hk => (p2 _).trans (t2 _ (by omega))
  have w2 : ∀ k, wd P W k = wd T W k := fun k => p2 _
  have jP : JW P (W + 1) := by
    refine ⟨mr_w hm p5, p3, by omega, fun w hw1 => ?_⟩
    by_cases e : w = W
    · subst e
      exact ⟨⟨0, by decide, (w2 2).trans t4⟩, fun _ => Or.inl ((w2 6).trans t5)⟩
    · obtain ⟨⟨b, hb, eb⟩, c⟩ := hw w (by omega)
      refine ⟨⟨b, hb, (w1 w 2 (by omega) (by decide)).trans eb⟩, fun u => chn_up (Nat.le_succ W) _ _ (chn_wd (fun v hv => w1 v 6 hv (by decide)) _ _ (by omega) (c ?_))⟩
      unfold uns at u ⊢
      rwa [p4 24 (by decide)] at u
  have hP : HD P := by unfold HD; rw [p1 6543 4 (by decide) (by decide)]; exact hh
  refine sM_sayWord jP.1 (by omega) (fun q => absurd ((w2 0).trans t3) q) ?_
  have sv : swv P W = (if a = 1 then cwi m 0 64 else 0, if a = 1 then 0 else cwi m 0 64) := by
    unfold swv
    rw [w2 0, w2 3, w2 4, w2 5, t3, u3, u4, u5, if_pos (Or.inl rfl)]
  rw [sv]
  have jS : JW (sl (sl P 6874 W (if a = 1 then cwi m 0 64 else 0)) 6938 W (if a = 1 then 0 else cwi m 0 64)) (W + 1) := jw_g rfl rfl jP
  have s1 : gi (sl (sl P 6874 W (if a = 1 then cwi m 0 64 else 0)) 6938 W (if a = 1 then 0 else cwi m 0 64)) = gi P := rfl
  have s2 : gr (sl (sl P 6874 W (if a = 1 then cwi m 0 64 else 0)) 6938 W (if a = 1 then 0 else cwi m 0 64)) = gr M := p5
  have s3 : ∀ b k, ¬ ((b = 6874 ∨ b = 6938) ∧ k = W) → gl (sl (sl P 6874 W (if a = 1 then cwi m 0 64 else 0)) 6938 W (if a = 1 then 0 else cwi m 0 64)) b k = gl M b k := fun b k q => by
    rw [gl_sl, if_neg (fun r => q ⟨Or.inr r.1, r.2⟩), gl_sl, if_neg (fun r => q ⟨Or.inl r.1, r.2⟩), p6]
  have s4 : gl (sl (sl P 6874 W (if a = 1 then cwi m 0 64 else 0)) 6938 W (if a = 1 then 0 else cwi m 0 64)) 6874 W = if a = 1 then cwi m 0 64 else 0 := by
    rw [gl_sl, if_neg (fun r => absurd r.1 (by decide)), gl_sl, if_pos ⟨rfl, rfl⟩]
  have s5 : gl (sl (sl P 6874 W (if a = 1 then cwi m 0 64 else 0)) 6938 W (if a = 1 then 0 else cwi m 0 64)) 6938 W = if a = 1 then 0 else cwi m 0 64 := by
    rw [gl_sl, if_pos ⟨rfl, rfl⟩]
  have hS : HD (sl (sl P 6874 W (if a = 1 then cwi m 0 64 else 0)) 6938 W (if a = 1 then 0 else cwi m 0 64)) := hP
  have s6 : ∀ v k, wd (sl (sl P 6874 W (if a = 1 then cwi m 0 64 else 0)) 6938 W (if a = 1 then 0 else cwi m 0 64)) v k = wd P v k := fun _ _ => rfl
  show X mM_turnsBy 143 _ [] (sl (sl P 6874 W (if a = 1 then cwi m 0 64 else 0)) 6938 W (if a = 1 then 0 else cwi m 0 64)) _ _
  generalize sl (sl P 6874 W (if a = 1 then cwi m 0 64 else 0)) 6938 W (if a = 1 then 0 else cwi m 0 64) = S at jS s1 s2 s3 s4 s5 s6 hS ⊢
  have xs : XS M S W d a mk := by
    refine ⟨fun w hw k hk => (s6 w k).trans (w1 w k hw (by omega)), ?_, ?_, ?_, ⟨?_, ?_⟩, fun v hv => ⟨s3 _ _ (fun q => by omega), s3 _ _ (fun q => by omega)⟩, ⟨?_, ?_, ?_, ?_, ?_⟩, fun c hc => ?_⟩
    · rw [s1]; funext k; exact p1 _ _ (by decide) (by decide)
    · rw [s1]; funext k; exact p1 _ _ (by decide) (by decide)
    · rw [s1]; exact p4 9 (by decide)
    · rw [s1]; exact p4 24 (by decide)
    · rw [s1, p4 24 (by decide), ← show gi M 6027 24 &&& (((1 : Int32) <<< (nI W &&& 31)) - 1) = gi M 6027 24 from hu, b_and, mask_b W hW W (by omega), decide_eq_false (Nat.lt_irrefl W), Bool.and_false]
    · rw [s6, w2, t3]
    · rw [s6, w2, u1]
    · rw [s6, w2, u3, em]
    · rw [s6, w2, u4]
    · rw [s6, w2, t5]
    · have cb := cwi_b m 0 64 (Nat.le_refl _) c hc
      have c0 : (nI c &&& 0) = 0 := b_ext (fun x _ => by rw [b_and, b_0, Bool.and_false])
      rw [s4, s5, em]
      by_cases q : a = 1
      · rw [if_pos q, if_pos q, cb, l_0]
        exact ⟨⟨fun z => ⟨z.2.1, q⟩, fun z => ⟨hc, z.1, c0⟩⟩, ⟨fun z => absurd z (by decide), fun z => absurd q z.2⟩⟩
      · rw [if_neg q, if_neg q, cb, l_0]
        exact ⟨⟨fun z => absurd z (by decide), fun z => absurd z.2 q⟩, ⟨fun z => ⟨z.2.1, q⟩, fun z => ⟨hc, z.1, c0⟩⟩⟩
  refine vM_turnsBy_143 rfl (sM_findOne jS hd (fun N1 f1 _ gy gn => vM_turnsBy_148 rfl (sM_findHeld (jw_sm (of_sm f1) jS) (hd_sm (of_sm (W := W + 1) f1) hS) (fun N2 f2 hf2 => vM_turnsBy_152 rfl (sM_findChanged (mr_w hm ((f2.2.2.trans f1.2.1).trans s2)) (fun N3 c1 c2 c3 c4 e35 _ => vM_turnsBy_166 rfl ?_))))))
  have k2 : ∀ b, b ≠ 7310 → b ≠ 7374 → b ≠ 7246 → b ≠ 7182 → gi N2 b = gi P b := fun b q1 q2 q3 q4 => by rw [f2.1 b q1 q2 q3 q4, f1.1, s1]
  have e6 := k2 6027 (by decide) (by decide) (by decide) (by decide)
  have e74 : gi N2 7438 = gi M 7438 := by
    rw [k2 7438 (by decide) (by decide) (by decide) (by decide)]; funext k; exact p1 _ _ (by decide) (by decide)
  have qf : QF W M N3 := by
    refine ⟨((c4.trans f2.2.2).trans f1.2.1).trans s2, fun b q => ?_, fun k hk => ?_, fun k q => ?_, fun b k q r => ?_⟩
    · rw [c1 b (fun e => q (by omega))]
      funext k
      rw [giR _ _ _ _ _ _ (fun e => q (by omega)), k2 b (fun e => q (by omega)) (fun e => q (by omega)) (fun e => q (by omega)) (fun e => q (by omega))]
      exact p1 b k (fun e => q (by omega)) (fun e => q (by omega))
    · rw [c1 6101 (by decide), giR _ _ _ _ _ _ (by decide), k2 6101 (by decide) (by decide) (by decide) (by decide), p2, t2 k hk]
    · rw [c2 k (fun e => q (by omega)) (fun e => q (by omega)), gi_si]
      by_cases e : k = 0
      · subst e
        rw [if_pos ⟨rfl, rfl⟩, e6, p3, hW0, ← nI_s]
        exact Int32.add_sub_cancel _ _
      · rw [if_neg (fun r => e r.2), e6, p4 k e]
    · rw [c3]
      show gl N2 b k = _
      rw [f2.2.1, f1.2.2 b k (fun e => q e.1), s3 b k r]
  have gl3 : ∀ b e, (b = 7003 ∨ b = 7067) → ¬ e = d → gl N3 b e = gl M b e := fun b e hb he => by
    rw [c3]
    show gl N2 b e = _
    rw [f2.2.1, f1.2.2 b e (fun q => he q.2), s3 b e (fun q => by omega)]
  have o2 : ∀ b k, b ≠ 6027 → gi (si N2 6027 0 (gi N2 6027 0 - 1)) b k = gi N2 b k := fun b k q => giR _ _ _ _ _ _ q
  have h1 : ∀ c, c < 64 → gi (si N2 6027 0 (gi N2 6027 0 - 1)) 7182 c = rhu M W d (fun c => rop S (W + 1) c d) c := fun c hc => by
    rw [o2 _ _ (by decide), (hf2 c hc).2.2.2]
    have h43 : gi N1 6543 = gi M 6543 := by rw [f1.1, s1]; funext k; exact p1 _ _ (by decide) (by decide)
    rw [hev_of (o := oud (rop M W c) d (rop S (W + 1) c d)) hc (hd_sm (of_sm (W := W + 1) f1) hS) (fun e he => ?_), laV_sm (of_sm f1), la_xs xs, h43]
    · rfl
    · unfold oud
      by_cases z : e = d
      · subst z
        rw [if_pos rfl, gy, gn]
        exact ⟨rfl, eyn_x hc⟩
      · rw [if_neg z, f1.2.2 _ _ (fun q => z q.2), f1.2.2 _ _ (fun q => z q.2), s3 _ _ (fun q => by omega), s3 _ _ (fun q => by omega), (rows e he z).1, (rows e he z).2]
        exact ⟨rfl, eyn_x hc⟩
  have := h S N3 qf xs (fun e he => ⟨gl3 _ _ (Or.inl rfl) he, gl3 _ _ (Or.inr rfl) he⟩ ) (by
    rw [c1 7438 (by decide)]; funext k; rw [o2 _ _ (by decide), e74])
  rw [e35, cnt_p, nbp_cg 64 (fun c hc => nq_cg (h1 c hc) (show gi (si N2 6027 0 (gi N2 6027 0 - 1)) 7438 c = gi M 7438 c by rw [o2 _ _ (by decide), e74]))]
  exact this
section EX3
variable {A M N S : Mm} {L P R U D W t d : Nat} {G : Nat → Nat → Int32} {a : Int32}
theorem xs_qf {m : Nat} {O : Mm} (f : QF W M O) (x : XS O S W d a m) : XS M S W d a m := by
  obtain ⟨x1, x2, x3, x4, x5, x6, x7, x8⟩ := x
  refine ⟨fun w hw k hk => (x1 w hw k hk).trans (f.2.2.1 _ (by omega)), x2.trans (f.2.1 _ (by decide)), x3.trans (f.2.1 _ (by decide)), x4.trans (f.2.2.2.1 _ (by decide)), ⟨x5.1.trans (f.2.2.2.1 _ (by decide)), x5.2⟩, fun v hv => ⟨(x6 v hv).1.trans (f.2.2.2.2 _ _ (by decide) (by omega)), (x6 v hv).2.trans (f.2.2.2.2 _ _ (by decide) (by omega))⟩, x7, x8⟩
theorem rhu_sm {O : Mm} (s : SM W M O) (j : JW M W) (x : Nat → Int32) (c : Nat) : rhu O W d x c = rhu M W d x c := by
  unfold rhu
  rw [laV_sm s, s.2.2.1]
  refine hof_cg (fun e _ => ?_)
  unfold oud
  by_cases z : e = d
  · rw [if_pos z, if_pos z]
  · rw [if_neg z, if_neg z]; exact rop_sm s j c e
/-- the class: does a found word turn the case that was weighed -/
theorem eWe_turnsBy {c : Nat} {fw l : Int32} {o : Nat → Int32} {K : Int32 → Mm → Prop} (w : WH M L R) (hd : d < 8) (hc : c < 64) (f4 : gi M 5192 4 = nI c) (f5 : gi M 5192 5 = l) (f6 : gi M 5192 6 = ocn o 1 8) (f7 : gi M 5192 7 = ocn o 0 8) (fo : ∀ e, e < 8 → gi M 5261 e = o e) (f9 : gi M 5192 9 = hof l o (gi M R 4) (gi M R 5)) (h : K (if hof l (oud o d (stl M L R ((his M L d &&& gi M (L + 205) c) ||| (if a = 1 then 16777216 else 0)) ((his M L d &&& gi M (L + 269) c) ||| (if a = 0 then 16777216 else 0)) fw)) (gi M R 4) (gi M R 5) = hof l o (gi M R 4) (gi M R 5) then 0 else 1) M) : CI mWe_turnsBy [.ref 5192, .int (nI d), .int a, .int fw] M K := by
  have lr := w.2.2.2.1
  have cd : (nI d).toNatClampNeg = d := ncl (by omega)
  have cc : (nI c).toNatClampNeg = c := ncl (by omega)
  refine call_of rfl (Nat.le_of_ble_eq_true rfl) rfl (vWe_turnsBy_0 rfl w.1 (lr7 lr) (lr3 lr) (lr4 lr) ?_)
  rw [f4, cd, cc]
  refine ⟨vin hd (by decide), vin hc (by decide), vin hc (by decide), sWe_settled w ?_⟩
  change X mWe_turnsBy 82 [(0, .ref 5192), (1, .int (nI d))] [.int (stl M L R ((his M L d &&& gi M (L + 205) c) ||| (if a = 1 then 16777216 else 0)) ((his M L d &&& gi M (L + 269) c) ||| (if a = 0 then 16777216 else 0)) fw)] M _ _
  generalize stl M L R ((his M L d &&& gi M (L + 205) c) ||| (if a = 1 then 16777216 else 0)) ((his M L d &&& gi M (L + 269) c) ||| (if a = 0 then 16777216 else 0)) fw = x at h ⊢
  refine vWe_turnsBy_82 rfl w.2.2.1 ?_
  rw [cd, fo d hd]
  refine ⟨vin hd (by decide), fun q => ?_, fun q => eWe_heldIf w hd f5 f6 f7 fo (vWe_turnsBy_102 rfl ?_)⟩
  · have e : hof l (oud o d x) (gi M R 4) (gi M R 5) = hof l o (gi M R 4) (gi M R 5) := hof_cg (fun e _ => by
      unfold oud
      by_cases z : e = d
      · rw [if_pos z, q, z]
      · rw [if_neg z])
    rw [if_pos e] at h; exact h
  · rw [f9]
    exact ⟨fun q => by rw [if_pos q] at h; exact h, fun q => by rw [if_neg q] at h; exact h⟩
/-- the cases that a found word turns, by the class -/
def tnp (A : Mm) (L R d : Nat) (a : Int32) (m c : Nat) : Bool := decide ((nI c &&& nI m) = nI m ∧ ¬ hof (lwI A L R c) (oud (fun e => opn A L R e c) d (xsv A L R d a m c)) (gi A R 4) (gi A R 5) = heC A L R c)
theorem tnp_e {m : Nat} (mc : CMP A N L R W G) (hW : W ≤ 24) (xs : XS N S W d a m) (hd : d < 8) (hm : m < 64) (ha : a = 0 ∨ a = 1) (main : bt (gi N 6543 0) d = true) {c : Nat} (hc : c < 64) : tnp A L R d a m c = nq (rhu N W d (fun c => rop S (W + 1) c d)) (rhe N W) c := by
  obtain ⟨e1, e2, e3, e4⟩ := hold_e mc hW hc
  have e5 := x_e mc hW xs hd hm ha main hc
  have e6 := heC_e mc hW hc
  unfold tnp nq rhu
  rw [e6]
  show _ = decide (¬ hof (laV N W (nI c)) (oud (rop N W c) d (rop S (W + 1) c d)) (gi N 6543 4) (gi N 6543 5) = rhe N W c)
  rw [e5, e1, e3, e4]
  by_cases q : (nI c &&& nI m) = nI m
  · rw [if_pos q]
    have e7 : hof (laV N W (nI c)) (oud (fun e => opn A L R e c) d (xsv A L R d a m c)) (gi N 6543 4) (gi N 6543 5) = hof (laV N W (nI c)) (oud (rop N W c) d (xsv A L R d a m c)) (gi N 6543 4) (gi N 6543 5) := hof_cg (fun e he => by
      unfold oud
      by_cases z : e = d
      · rw [if_pos z, if_pos z]
      · rw [if_neg z, if_neg z]; exact e2 e he)
    rw [e7]
    by_cases z : hof (laV N W (nI c)) (oud (rop N W c) d (xsv A L R d a m c)) (gi N 6543 4) (gi N 6543 5) = rhe N W c
    · rw [decide_eq_false (fun y => y.2 z), decide_eq_false (fun y => y z)]
    · rw [decide_eq_true ⟨q, z⟩, decide_eq_true z]
  · rw [if_neg q]
    have e7 : hof (laV N W (nI c)) (oud (rop N W c) d (opn A L R d c)) (gi N 6543 4) (gi N 6543 5) = rhe N W c := hof_cg (fun e he => by
      unfold oud
      by_cases z : e = d
      · rw [if_pos z, z]; exact e2 d hd
      · rw [if_neg z])
    rw [decide_eq_false (fun y => q y.1), decide_eq_false (fun y => y e7)]
end EX3
end MG97
section MG98
/-! ===== turn: the same on both sides ===== -/
/-- the best place of the first i, or -1 -/
def tbs (Q : Nat → Bool) (C : Nat → Int32) : Nat → Int32
  | 0 => -1
  | i + 1 => if Q (i / 128) = true ∧ (tbs Q C i < 0 ∨ ¬ C i ≤ C (tbs Q C i).toNatClampNeg) then nI i else tbs Q C i
theorem tbs_in (Q : Nat → Bool) (C : Nat → Int32) : ∀ i, tbs Q C i = -1 ∨ ∃ k, k < i ∧ Q (k / 128) = true ∧ tbs Q C i = nI k
  | 0 => Or.inl rfl
  | i + 1 => by
    rw [tbs]
    split
    · next h => exact Or.inr ⟨i, by omega, h.1, rfl⟩
    · rcases tbs_in Q C i with h | ⟨k, hk, h⟩
      · exact Or.inl h
      · exact Or.inr ⟨k, by omega, h⟩
theorem tbs_skip {Q : Nat → Bool} {C : Nat → Int32} {d : Nat} (h : Q d = false) : ∀ k, k ≤ 128 → tbs Q C (128 * d + k) = tbs Q C (128 * d)
  | 0, _ => rfl
  | k + 1, hk => by
    rw [show 128 * d + (k + 1) = (128 * d + k) + 1 from rfl, tbs, if_neg, tbs_skip h k (by omega)]
    rw [show (128 * d + k) / 128 = d by omega, h]
    exact fun z => absurd z.1 (by decide)
theorem k_64 : ∀ k, k < 128 → nI k / 64 = nI (k / 64) ∧ nI k - nI k / 64 * 64 = nI (k % 64) := by decide +kernel
theorem i_at : ∀ i, i < 1024 → nI i / 128 = nI (i / 128) ∧ nI i / 64 - nI i / 64 / 2 * 2 = nI (i / 64 % 2) ∧ nI i - nI i / 64 * 64 = nI (i % 64) := by decide +kernel
theorem hof_l {l hd si : Int32} {o : Nat → Int32} (h : ¬ l = -4) : hof l o hd si = l := by
  unfold hof byf anb
  rw [if_neg h, if_pos rfl]
/-- what weighing left -/
def WF8 (M : Mm) (R c : Nat) (o : Nat → Int32) (l : Int32) : Prop := gi M 5192 4 = nI c ∧ gi M 5192 5 = l ∧ gi M 5192 6 = ocn o 1 8 ∧ gi M 5192 7 = ocn o 0 8 ∧ (∀ e, e < 8 → gi M 5261 e = o e) ∧ gi M 5192 9 = hof l o (gi M R 4) (gi M R 5)
def ttp (M : Mm) (L R c : Nat) (o : Nat → Int32) (l : Int32) (d : Nat) (a : Int32) (m : Nat) : Bool := decide ((nI c &&& nI m) = nI m ∧ ¬ hof l (oud o d (xsv M L R d a m c)) (gi M R 4) (gi M R 5) = hof l o (gi M R 4) (gi M R 5))
section EX4
variable {A B M N : Mm} {L P R S U D W t : Nat} {G : Nat → Nat → Int32}
theorem xsv_eq (h : ∀ o, o < 2304 → gi B (L + o) = gi A (L + o)) (hr : gi B R = gi A R) (h2 : gi B 5192 2 = gi A 5192 2) (d : Nat) (a : Int32) (m c : Nat) : xsv B L R d a m c = xsv A L R d a m c := by
  unfold xsv his
  rw [stl_eq h hr, h 460 (by decide), h 205 (by decide), h 269 (by decide), h2]
theorem tq_h (hL : LA L) (f : TQ M N) : ∀ o, o < 2304 → gi N (L + o) = gi M (L + o) := fun o ho => f.2.2 _ (by unfold LA at hL; omega)
theorem tq_r (hR : RA R) (f : TQ M N) : gi N R = gi M R := f.2.2 _ (by unfold RA at hR; omega)
theorem ttp_tq (hL : LA L) (hR : RA R) (f : TQ M N) (c : Nat) (o : Nat → Int32) (l : Int32) (d : Nat) (a : Int32) (m : Nat) : ttp N L R c o l d a m = ttp M L R c o l d a m := by
  unfold ttp
  rw [xsv_eq (tq_h hL f) (tq_r hR f) (by rw [f.2.2 5192 (by decide)]), tq_r hR f]
theorem wf_tq (hR : RA R) (f : TQ M N) {c : Nat} {o : Nat → Int32} {l : Int32} (w : WF8 M R c o l) : WF8 N R c o l := by
  unfold WF8
  rw [f.2.2 5192 (by decide), f.2.2 5261 (by decide), tq_r hR f]; exact w
theorem eFi_tally {d c a : Nat} {o : Nat → Int32} {l : Int32} {K : Mm → Prop} (w : WH M L R) (hL : LA L) (hR : RA R) (g0 : gr M 5312 0 = some 5192) (g1 : gr M 5312 1 = some 5392) (hd : d < 8) (ha : a < 2) (hc : c < 64) (wf : WF8 M R c o l) (h : ∀ N, TQ M N → (∀ m, m < 64 → gi N 5392 ((d * 2 + a) * 64 + m) = gi M 5392 ((d * 2 + a) * 64 + m) + (if ttp M L R c o l d (nI a) m = true then 1 else 0)) → (∀ j, (∀ m, m < 64 → ¬ j = (d * 2 + a) * 64 + m) → gi N 5392 j = gi M 5392 j) → K N) : CV mFi_tally [.ref 5312, .int (nI d), .int (nI a)] M K := by
  refine call_of rfl (Nat.le_of_ble_eq_true rfl) rfl (vFi_tally_0 rfl g0 ?_)
  rw [wf.1]
  have b57 : ∀ x : Int32, (∀ j, j < 7 → (bt x j = true ↔ ¬ hof l (oud o d (stl M L R ((his M L d &&& gi M (L + 205) c) ||| (if nI a = 1 then 16777216 else 0)) ((his M L d &&& gi M (L + 269) c) ||| (if nI a = 0 then 16777216 else 0)) (nI j))) (gi M R 4) (gi M R 5) = hof l o (gi M R 4) (gi M R 5))) → X mFi_tally 57 [(0, .ref 5312), (1, .int (nI d)), (2, .int (nI a)), (3, .int (nI c)), (4, .int x), (5, .int 0)] [] M (mC mFi_tally, mS mFi_tally) (QV K) := by
    intro x hx
    have tn : ∀ m, m < 64 → (ttp M L R c o l d (nI a) m = true ↔ (nI c &&& nI m) = nI m ∧ bt x (pc8 m) = true) := fun m hm => by
      have p6 := pc_6 m hm
      unfold ttp xsv
      rw [decide_eq_true_eq, co_64 m hm, hx (pc8 m) (by omega)]
    have sub : ∀ m, m < 64 → (nI c &&& nI m) = nI m → m ≤ c := fun m hm e => by
      have lt : c &&& m < 64 := Nat.lt_of_le_of_lt Nat.and_le_left hc
      rw [an_64 c hc m hm, ninj (by omega) (by omega)] at e
      have : c &&& m ≤ c := Nat.and_le_left
      omega
    have ende : ∀ N k, TQ M N → k ≤ 64 → (∀ m, m < k → gi N 5392 ((d * 2 + a) * 64 + m) = gi M 5392 ((d * 2 + a) * 64 + m) + (if ttp M L R c o l d (nI a) m = true then 1 else 0)) → (∀ j, (∀ m, m < k → ¬ j = (d * 2 + a) * 64 + m) → gi N 5392 j = gi M 5392 j) → (∀ m, k ≤ m → m < 64 → ttp M L R c o l d (nI a) m = false) → K N := fun N k f hk h1 h2 h3 => by
      refine h N f (fun m hm => ?_) (fun j hj => h2 j (fun m hm => hj m (by omega)))
      by_cases z : m < k
      · exact h1 m z
      · rw [h3 m (by omega) hm, if_neg (by decide), Int32.add_zero]
        exact h2 _ (fun m' hm' e => by omega)
    refine lp (c + 1) (P := fun m => ∀ N, TQ M N → (∀ m', m' < m → gi N 5392 ((d * 2 + a) * 64 + m') = gi M 5392 ((d * 2 + a) * 64 + m') + (if ttp M L R c o l d (nI a) m' = true then 1 else 0)) → (∀ j, (∀ m', m' < m → ¬ j = (d * 2 + a) * 64 + m') → gi N 5392 j = gi M 5392 j) → X mFi_tally 57 [(0, .ref 5312), (1, .int (nI d)), (2, .int (nI a)), (3, .int (nI c)), (4, .int x), (5, .int (nI m))] [] N (mC mFi_tally, mS mFi_tally) (QV K)) (fun m hm ih N qN h1 h2 => ?_) (fun N qN h1 h2 => ?_) M (tq_rf M) (fun m' hm' => absurd hm' (by omega)) (fun _ _ => rfl)
    · have ex : (((nI d * 2) + nI a) * 64) + nI m = nI ((d * 2 + a) * 64 + m) := by
        rw [show (2 : Int32) = nI 2 from rfl, show (64 : Int32) = nI 64 from rfl, pk_mul, nadd, pk_mul, nadd]
      have m64 : m < 64 := by omega
      have sk := sb_64 m m64 c hc
      have tm := tn m m64
      have same : ttp M L R c o l d (nI a) m = false → X mFi_tally 57 [(0, .ref 5312), (1, .int (nI d)), (2, .int (nI a)), (3, .int (nI c)), (4, .int x), (5, .int (nI m + 1))] [] N (mC mFi_tally, mS mFi_tally) (QV K) := fun z => by
        rw [nI_s]
        refine ih N qN (fun m' hm' => ?_) (fun j hj => h2 j (fun m' hm' => hj m' (by omega)))
        by_cases y : m' = m
        · subst y
          rw [z, if_neg (by decide), Int32.add_zero]
          exact h2 _ (fun m'' h'' e => by omega)
        · exact h1 m' (by omega)
      refine vFi_tally_57 ⟨fun q => ?_, fun q => same ?_, fun q => sJi_bitCount (fun v ev => vFi_tally_84 (sC_holds ?_))⟩
      · refine ende N m qN (by omega) h1 h2 (fun m' hm' hm2 => ?_)
        have x0 : x = 0 := by
          rcases q with q | q
          · exact absurd q (fun y => by rw [nlt (by omega) (by omega)] at y; omega)
          · exact q.2
        cases z : ttp M L R c o l d (nI a) m'
        · rfl
        · have := ((tn m' hm2).mp z).2
          rw [x0, b_0] at this
          exact absurd this (by decide)
      · cases z : ttp M L R c o l d (nI a) m
        · rfl
        · exact absurd (sk.mpr (tm.mp z).1) q.2.2
      · rw [ev, bc_co, co_64 m m64]
        have p6 := pc_6 m m64
        refine vFi_tally_87 rfl (by rw [qN.1]; exact g1) ⟨fun _ => ?_, fun p => same ?_, fun p => ⟨?_, ?_⟩⟩
        · rw [ex]; exact vin (by omega) (by decide)
        · cases z : ttp M L R c o l d (nI a) m
          · rfl
          · rw [if_pos ((bitu x (by omega)).mpr (tm.mp z).2)] at p
            exact absurd p (by decide)
        · rw [ex]; exact vin (by omega) (by decide)
        · have tt : ttp M L R c o l d (nI a) m = true := tm.mpr ⟨sk.mp q.2.2, by
            by_cases z : ((ushr x (nI (pc8 m))) &&& 1) = 1
            · exact (bitu x (by omega)).mp z
            · rw [if_neg z] at p; exact absurd rfl p⟩
          rw [ex, ncl (by omega), nI_s]
          refine ih _ (tq_tr qN ⟨rfl, rfl, fun b n => gi_ne n⟩) (fun m' hm' => ?_) (fun j hj => ?_)
          · rw [gi_si]
            by_cases y : m' = m
            · subst y
              rw [if_pos ⟨rfl, rfl⟩, tt, if_pos rfl, h2 _ (fun m'' h'' e => by omega)]
            · rw [if_neg (fun z => by omega)]; exact h1 m' (by omega)
          · rw [gi_si, if_neg (fun z => hj m (by omega) z.2)]
            exact h2 j (fun m' hm' => hj m' (by omega))
    · have lt : nI c < nI (c + 1) := (nlt (by omega) (by omega)).mpr (by omega)
      refine vFi_tally_57 ⟨fun _ => ende N (c + 1) qN (by omega) h1 h2 (fun m hm hm2 => ?_), fun q => absurd lt q.1, fun q => absurd lt q.1⟩
      cases z : ttp M L R c o l d (nI a) m
      · rfl
      · have := sub m hm2 ((tn m hm2).mp z).1
        omega
  refine lp 7 (P := fun k => ∀ x : Int32, (∀ j, j < 32 → (bt x j = true ↔ j < k ∧ ¬ hof l (oud o d (stl M L R ((his M L d &&& gi M (L + 205) c) ||| (if nI a = 1 then 16777216 else 0)) ((his M L d &&& gi M (L + 269) c) ||| (if nI a = 0 then 16777216 else 0)) (nI j))) (gi M R 4) (gi M R 5) = hof l o (gi M R 4) (gi M R 5))) → X mFi_tally 14 [(0, .ref 5312), (1, .int (nI d)), (2, .int (nI a)), (3, .int (nI c)), (4, .int x), (5, .int (nI k))] [] M (mC mFi_tally, mS mFi_tally) (QV K)) (fun k hk ih x hx => ?_) (fun x hx => ?_) 0 (fun j _ => ⟨fun z => absurd ((b_0 j).symm.trans z) (by decide), fun z => absurd z.1 (by omega)⟩)
  · have nk : ¬ (6 : Int32) < nI k := by rw [show (6 : Int32) = nI 6 from rfl, nlt (by omega) (by decide)]; omega
    obtain ⟨f4, f5, f6, f7, fo, f9⟩ := wf
    refine vFi_tally_14 rfl g0 ⟨fun q => absurd q nk, fun _ => eWe_turnsBy w hd hc f4 f5 f6 f7 fo f9 (vFi_tally_34 ?_)⟩
    rw [nI_s]
    refine ih _ (fun j hj => ?_)
    by_cases q : hof l (oud o d (stl M L R ((his M L d &&& gi M (L + 205) c) ||| (if nI a = 1 then 16777216 else 0)) ((his M L d &&& gi M (L + 269) c) ||| (if nI a = 0 then 16777216 else 0)) (nI k))) (gi M R 4) (gi M R 5) = hof l o (gi M R 4) (gi M R 5)
    · rw [if_pos q, if_pos rfl, or_032, hx j hj]
      constructor
      · rintro ⟨y1, y2⟩; exact ⟨by omega, y2⟩
      · rintro ⟨y1, y2⟩
        by_cases e : j = k
        · subst e; exact absurd q y2
        · exact ⟨by omega, y2⟩
    · rw [if_neg q, if_neg (by decide), bt_or1 x (by omega) hj, hx j hj]
      constructor
      · rintro (⟨y1, y2⟩ | rfl)
        · exact ⟨by omega, y2⟩
        · exact ⟨by omega, q⟩
      · rintro ⟨y1, y2⟩
        by_cases e : j = k
        · exact Or.inr e
        · exact Or.inl ⟨by omega, y2⟩
  · exact vFi_tally_14 rfl g0 ⟨fun _ => b57 x (fun j hj => (hx j (by omega)).trans ⟨fun z => z.2, fun z => ⟨hj, z⟩⟩), fun q => absurd (by decide) q⟩
def mnD (M : Mm) (R d : Nat) : Bool := bt (gi M R 0) d
theorem eFi_tallyDoctors {c : Nat} {o : Nat → Int32} {l : Int32} {K : Mm → Prop} (w : WH M L R) (hL : LA L) (hR : RA R) (g0 : gr M 5312 0 = some 5192) (g1 : gr M 5312 1 = some 5392) (hc : c < 64) (wf : WF8 M R c o l) (h : ∀ N, TQ M N → (∀ d a m, d < 8 → a < 2 → m < 64 → mnD M R d = true → gi N 5392 ((d * 2 + a) * 64 + m) = gi M 5392 ((d * 2 + a) * 64 + m) + (if ttp M L R c o l d (nI a) m = true then 1 else 0)) → K N) : CV mFi_tallyDoctors [.ref 5312] M K := by
  refine call_of rfl (Nat.le_of_ble_eq_true rfl) rfl (vFi_tallyDoctors_0 ?_)
  refine lp 8 (P := fun d => ∀ N, TQ M N → (∀ d' a m, d' < d → a < 2 → m < 64 → mnD M R d' = true → gi N 5392 ((d' * 2 + a) * 64 + m) = gi M 5392 ((d' * 2 + a) * 64 + m) + (if ttp M L R c o l d' (nI a) m = true then 1 else 0)) → (∀ j, d * 128 ≤ j → gi N 5392 j = gi M 5392 j) → X mFi_tallyDoctors 2 [(0, .ref 5312), (1, .int (nI d))] [] N (mC mFi_tallyDoctors, mS mFi_tallyDoctors) (QV K)) (fun d hd ih N qN h1 h2 => ?_) (fun N qN h1 h2 => ?_) M (tq_rf M) (fun d' a m hd' => absurd hd' (by omega)) (fun _ _ => rfl)
  · have wN := wh_gr w qN.1
    have e0 : gr N 5312 0 = some 5192 := by rw [qN.1]; exact g0
    have e1 : gr N 5312 1 = some 5392 := by rw [qN.1]; exact g1
    refine vFi_tallyDoctors_2 rfl e0 wN.2.1 ⟨fun q => absurd q (nge rfl (by decide) hd), fun _ => sRu_isMain wN.2.2.2.2 (vFi_tallyDoctors_19 rfl ⟨fun q => ?_, fun _ => eFi_tally (a := 0) wN hL hR e0 e1 hd (by decide) hc (wf_tq hR qN wf) (fun O qO o1 o2 => vFi_tallyDoctors_28 rfl ?_)⟩)⟩
    · rw [nI_s]
      refine ih N qN (fun d' a m hd' ha hm mn => ?_) (fun j hj => h2 j (by omega))
      by_cases z : d' = d
      · exfalso
        subst z
        rw [tq_r hR qN, if_pos ((bitu _ (by omega)).mpr mn)] at q
        exact absurd q (by decide)
      · exact h1 d' a m (by omega) ha hm mn
    · have qMO := tq_tr qN qO
      refine eFi_tally (a := 1) (wh_gr w qMO.1) hL hR (by rw [qMO.1]; exact g0) (by rw [qMO.1]; exact g1) hd (by decide) hc (wf_tq hR qMO wf) (fun Q qQ p1 p2 => vFi_tallyDoctors_34 ?_)
      rw [nI_s]
      refine ih Q (tq_tr qMO qQ) (fun d' a m hd' ha hm mn => ?_) (fun j hj => ?_)
      · by_cases z : d' = d
        · subst z
          have a2 : a = 0 ∨ a = 1 := by omega
          rcases a2 with rfl | rfl
          · rw [p2 _ (fun m' hm' e => by omega), o1 m hm, h2 _ (by omega), ttp_tq hL hR qN]
          · rw [p1 m hm, o2 _ (fun m' hm' e => by omega), h2 _ (by omega), ttp_tq hL hR qMO]
        · rw [p2 _ (fun m' hm' e => by omega), o2 _ (fun m' hm' e => by omega)]
          exact h1 d' a m (by omega) ha hm mn
      · rw [p2 _ (fun m' hm' e => by omega), o2 _ (fun m' hm' e => by omega)]
        exact h2 j (by omega)
  · have wN := wh_gr w qN.1
    exact vFi_tallyDoctors_2 rfl (by rw [qN.1]; exact g0) wN.2.1 ⟨fun _ => h N qN (fun d a m hd => h1 d a m hd), fun q => absurd (nself rfl) q⟩
/-- how many cases the found word of a place turns -/
def tcn (A : Mm) (L R i : Nat) : Int32 := nbp (tnp A L R (i / 128) (nI (i / 64 % 2)) (i % 64)) 64
def BW (M N : Mm) : Prop := BQ M N ∧ gi N 5192 2 = gi M 5192 2
theorem eFi_best {K : Int32 → Mm → Prop} (w : WH M L R) (hL : LA L) (hR : RA R) (g0 : gr M 5312 0 = some 5192) (g1 : gr M 5312 1 = some 5392) (h : ∀ N, BQ M N → (∀ i, i < 1024 → mnD M R (i / 128) = true → gi N 5392 i = tcn M L R i) → K (tbs (mnD M R) (tcn M L R) 1024) N) : CI mFi_best [.ref 5312] M K := by
  refine call_of rfl (Nat.le_of_ble_eq_true rfl) rfl (vFi_best_0 rfl g1 (sJr_fill (kk := 16) (nn := 1024) rfl ak_16 (by decide) (vFi_best_8 ?_)))
  have fa : ∀ a, a ≠ 5392 → gi (fl M 5392 1024 0) a = gi M a := fun a n => by funext k; rw [flR _ _ _ _ _ _ n]
  have s0 : BW M (fl M 5392 1024 0) := ⟨⟨rfl, rfl, fun a n => fa a (fun e => n (by omega))⟩, by rw [fa 5192 (by decide)]⟩
  have hR' := hR
  have hL' := hL
  unfold RA at hR'
  unfold LA at hL'
  have b50 : ∀ N, BW M N → (∀ i, i < 1024 → mnD M R (i / 128) = true → gi N 5392 i = tcn M L R i) → X mFi_best 50 [(0, .ref 5312), (1, .int (-1)), (2, .int 0)] [] N (mC mFi_best, mS mFi_best) (QI K) := by
    intro N qN hC
    have wN := wh_gr w qN.1.1
    have e0 : gr N 5312 0 = some 5192 := by rw [qN.1.1]; exact g0
    have e1 : gr N 5312 1 = some 5392 := by rw [qN.1.1]; exact g1
    have rR : gi N R = gi M R := qN.1.2.2 R (by omega)
    refine lp 1024 (P := fun i => X mFi_best 50 [(0, .ref 5312), (1, .int (tbs (mnD M R) (tcn M L R) i)), (2, .int (nI i))] [] N (mC mFi_best, mS mFi_best) (QI K)) (fun i hi ih => ?_) ?_
    · refine vFi_best_50 rfl e1 e0 wN.2.1 ⟨fun q => absurd q (nge rfl (by decide) hi), fun _ => call_of rfl (Nat.le_of_ble_eq_true rfl) rfl (vFi_doctorAt_0 (vFi_best_70 wN.2.2.2.2 (sRu_isMain wN.2.2.2.2 ?_)))⟩
      rw [(i_at i hi).1, rR]
      have d8 : i / 128 < 8 := by omega
      have bi := bitu (gi M R 0) (m := i / 128) (by omega)
      have ti := tbs_in (mnD M R) (tcn M L R) i
      refine vFi_best_73 rfl e1 ⟨fun _ => vin hi (by decide), fun q => ?_, fun q => ?_, fun q => ?_⟩
      · rcases ti with z | ⟨k, hk, -, z⟩
        · rw [z] at q; exact absurd (by decide) q.2
        · rw [z]; exact vin (by omega) (by decide)
      · rw [tbs, if_neg] at ih
        · rw [nI_s]; exact ih
        · rintro ⟨mn, y⟩
          have mb : bt (gi M R 0) (i / 128) = true := mn
          rcases q with q | q
          · rw [if_pos (bi.mpr mb)] at q; exact absurd q (by decide)
          · rcases y with y | y
            · exact q.2.1 y
            · obtain ⟨k, hk, mk, z⟩ := ti.resolve_left (fun z => q.2.1 (by rw [z]; decide))
              have q3 := q.2.2
              rw [z, ncl (by omega), ncl (by omega), hC i hi mn, hC k (by omega) mk] at q3
              rw [z, ncl (by omega)] at y
              exact y q3
      · have mn : mnD M R (i / 128) = true := by
          have q0 : ¬ (if ((ushr (gi M R 0) (nI (i / 128))) &&& 1) = 1 then (1 : Int32) else 0) = 0 := by
            rcases q with q | q <;> exact q.1
          by_cases z : ((ushr (gi M R 0) (nI (i / 128))) &&& 1) = 1
          · exact bi.mp z
          · rw [if_neg z] at q0; exact absurd rfl q0
        rw [tbs, if_pos] at ih
        · rw [nI_s]; exact ih
        · refine ⟨mn, ?_⟩
          rcases q with q | q
          · exact Or.inl q.2
          · obtain ⟨k, hk, mk, z⟩ := ti.resolve_left (fun z => q.2.1 (by rw [z]; decide))
            have q3 := q.2.2
            rw [z, ncl (by omega), ncl (by omega), hC i hi mn, hC k (by omega) mk] at q3
            rw [z, ncl (by omega)]
            exact Or.inr q3
    · exact vFi_best_50 rfl e1 e0 wN.2.1 ⟨fun _ => h N qN.1 hC, fun q => absurd (nself rfl) q⟩
  refine lp 64 (P := fun c => ∀ N, BW M N → (∀ i, i < 1024 → mnD M R (i / 128) = true → gi N 5392 i = nbp (tnp M L R (i / 128) (nI (i / 64 % 2)) (i % 64)) c) → X mFi_best 10 [(0, .ref 5312), (1, .int (nI c))] [] N (mC mFi_best, mS mFi_best) (QI K)) (fun c hc ih N qN hC => ?_) (fun N qN hC => ?_) _ s0 (fun i hi _ => ?_)
  · have wN := wh_gr w qN.1.1
    have e0 : gr N 5312 0 = some 5192 := by rw [qN.1.1]; exact g0
    have hN : ∀ o, o < 2304 → gi N (L + o) = gi M (L + o) := fun o ho => qN.1.2.2 _ (by omega)
    have rN : gi N R = gi M R := qN.1.2.2 R (by omega)
    have lN : lwI N L R c = lwI M L R c := by unfold lwI; rw [hN 397 (by decide), hN 333 (by decide), rN]
    have oN : ∀ e, opn N L R e c = opn M L R e c := fun e => opn_eq hN rN qN.2 e c
    have of : (fun d => opn N L R d c) = fun d => opn M L R d c := funext oN
    refine vFi_best_10 rfl e0 ⟨fun q => absurd q (nge rfl (by decide) hc), fun _ => eWe_weigh wN hL hR hc (fun O qO vO => ?_)⟩
    have qMO : BW M O := ⟨bq_tr qN.1 (bq_wq qO), qO.2.2.2.trans qN.2⟩
    have o0 : gr O 5312 0 = some 5192 := by rw [qMO.1.1]; exact g0
    have o1 : gr O 5312 1 = some 5392 := by rw [qMO.1.1]; exact g1
    have hO : ∀ o, o < 2304 → gi O (L + o) = gi M (L + o) := fun o ho => qMO.1.2.2 _ (by omega)
    have rO : gi O R = gi M R := qMO.1.2.2 R (by omega)
    have o5 : gi O 5392 = gi N 5392 := qO.2.2.1 5392 (by decide)
    obtain ⟨v4, v5, vo, v6, v7, -, v9⟩ := vO
    have v5' : gi O 5192 5 = lwI M L R c := v5.trans lN
    have v9' : gi O 5192 9 = heC M L R c := (show gi O 5192 9 = heC N L R c from v9).trans (heC_eq hN rN qN.2 c)
    have wf : WF8 O R c (fun d => opn M L R d c) (lwI M L R c) := by
      refine ⟨v4, v5', ?_, ?_, fun e he => (vo e he).trans (oN e), ?_⟩
      · rw [v6, of]
      · rw [v7, of]
      · rw [v9', heC_h, rO]
    have tt : ∀ d a m, ttp O L R c (fun d => opn M L R d c) (lwI M L R c) d a m = tnp M L R d a m c := fun d a m => by
      unfold ttp tnp
      rw [xsv_eq hO rO qMO.2, rO, heC_h]
    refine vFi_best_24 rfl o0 ⟨fun q => ?_, fun q => eFi_tallyDoctors (wh_gr w qMO.1.1) hL hR o0 o1 hc wf (fun Q qQ hQ => vFi_best_40 ?_)⟩
    · rw [v5'] at q
      rw [nI_s]
      refine ih O qMO (fun i hi mn => ?_)
      have : tnp M L R (i / 128) (nI (i / 64 % 2)) (i % 64) c = false := decide_eq_false (fun z => z.2 (by rw [heC_h, hof_l q, hof_l q]))
      rw [o5, hC i hi mn, nbp, this, if_neg (by decide), Int32.add_zero]
    · rw [nI_s]
      have mO : ∀ d, mnD O R d = mnD M R d := fun d => by unfold mnD; rw [rO]
      refine ih Q ⟨bq_tr qMO.1 (bq_tq qQ), by rw [qQ.2.2 5192 (by decide)]; exact qMO.2⟩ (fun i hi mn => ?_)
      have e := hQ (i / 128) (i / 64 % 2) (i % 64) (by omega) (by omega) (by omega) (by rw [mO]; exact mn)
      rw [show (i / 128 * 2 + i / 64 % 2) * 64 + i % 64 = i by omega, tt, o5, hC i hi mn] at e
      rw [e, nbp]
  · exact vFi_best_10 rfl (by rw [qN.1.1]; exact g0) ⟨fun _ => b50 N qN hC, fun q => absurd (nself rfl) q⟩
  · rw [gi_fl, if_pos ⟨rfl, hi⟩]; rfl
/-- the reference's best so far -/
def RB (C : Nat → Int32) (b x2 x3 x4 x5 : Int32) : Prop := (b = -1 ∧ x2 = -4 ∧ x3 = -4 ∧ x4 = -4 ∧ x5 = -4) ∨ ∃ i, i < 1024 ∧ b = nI i ∧ x2 = C i ∧ x3 = nI (i / 128) ∧ x4 = nI (i / 64 % 2) ∧ x5 = nI (i % 64)
theorem uM_turn {w : Int32} {K : Int32 → Mm → Prop} {Q : Nat → Bool} {C : Nat → Int32} (j : JW M W) (hW : W ≤ 24) (hh : HD M) (hu : UM M W) (hQ : ∀ d, d < 8 → (Q d = true ↔ bt (gi M 6543 0) d = true)) (hC0 : ∀ i, ¬ C i ≤ -4) (hC : ∀ d a m S, d < 8 → a < 2 → m < 64 → Q d = true → XS M S W d (nI a) m → nbp (nq (rhu M W d (fun c => rop S (W + 1) c d)) (rhe M W)) 64 = C (d * 128 + a * 64 + m)) (hb : (w < 0 ∨ 3 < w) → K (-1) M) (h : ¬ w < 0 → ¬ 3 < w → ∀ x2 x3 x4 x5 N, QF W M N → RB C (tbs Q C 1024) x2 x3 x4 x5 → K (if w = 0 then x2 else if w = 1 then x3 else if w = 2 then x4 else x5) N) : CI mM_turn [.ref 6027, .int w] M K := by
  refine call_of rfl (Nat.le_of_ble_eq_true rfl) rfl (vM_turn_0 (sM_in (l := 0) (m := 3) rfl rfl (fun q => vM_turn_9 rfl ⟨fun q => absurd rfl q, fun _ => hb q⟩) (fun q1 q2 => vM_turn_9 rfl ⟨fun _ => tM_findAll j hh (fun N f hf hv => ?_), fun q => absurd q (by decide)⟩)))
  have fin := h q1 q2
  clear h hb
  have f1 : QF W M N := qf_af f
  refine vM_turn_18 rfl (kh_row (mr_w j.1 f1.1) ?_)
  have f2 := qf_tr f1 (qf_row (M := N) (n := 64) (g := gi N 7182))
  have o7 : ∀ c, c < 64 → gi (rwm N 7438 64 (gi N 7182)) 7438 c = rhe M W c := fun c hc => ((if_pos ⟨rfl, hc⟩).trans (hf c hc).2.2.2).trans (hev_eo hh hc)
  have ol : gl (rwm N 7438 64 (gi N 7182)) = gl N := rfl
  generalize rwm N 7438 64 (gi N 7182) = O at f2 o7 ol ⊢
  refine vM_turn_22 ?_
  have key := lp 8 (P := fun d => ∀ P x2 x3 x4 x5, QF W M P → (∀ c, c < 64 → gi P 7438 c = rhe M W c) → (∀ e, e < 8 → gl P 7003 e = eyv M W (nI e) 64 ∧ gl P 7067 e = enw M W (nI e) 64) → RB C (tbs Q C (128 * d)) x2 x3 x4 x5 → X mM_turn 39 [(0, .ref 6027), (1, .int w), (2, .int x2), (3, .int x3), (4, .int x4), (5, .int x5), (6, .int (nI d))] [] P (mC mM_turn, mS mM_turn) (QI K)) (fun d hd ih P x2 x3 x4 x5 f p7 pr rb => ?_) (fun P x2 x3 x4 x5 f p7 pr rb => ?_)
  · exact key O _ _ _ _ f2 o7 (fun e he => by rw [ol]; exact ⟨(hv e he).2.1, (hv e he).2.2⟩) (Or.inl ⟨rfl, rfl, rfl, rfl, rfl⟩)
  · have nq' := nge (c := 8) (i := d) (n := 8) rfl (by decide) hd
    refine vM_turn_39 ⟨fun q => absurd q.1 nq', fun q => absurd q.1 nq', fun q => absurd q.1 nq', fun q => absurd q.1 nq', fun _ => ?_⟩
    have out : ∀ P x2 x3 x4 x5, QF W M P → (∀ c, c < 64 → gi P 7438 c = rhe M W c) → (∀ e, e < 8 → ¬ e = d → gl P 7003 e = eyv M W (nI e) 64 ∧ gl P 7067 e = enw M W (nI e) 64) → RB C (tbs Q C (128 * (d + 1))) x2 x3 x4 x5 → CV mM_findOne [.ref 6027, .int (nI d)] P (fun N => X mM_turn 173 [(0, .ref 6027), (1, .int w), (2, .int x2), (3, .int x3), (4, .int x4), (5, .int x5), (6, .int (nI d))] [] N (mC mM_turn, mS mM_turn) (QI K)) := fun P x2 x3 x4 x5 f p7 pr rb => sM_findOne (jw_sm (qf_sm f) j) hd (fun N g _ gy gn => vM_turn_173 (by
      rw [nI_s]
      refine ih N _ _ _ _ (qf_tr f (qf_af (af_of g))) (fun c hc => by rw [g.1]; exact p7 c hc) (fun e he => ?_) rb
      by_cases z : e = d
      · subst z
        rw [gy, gn, eyv_sm (qf_sm f) j, enw_sm (qf_sm f) j]; exact ⟨rfl, rfl⟩
      · rw [g.2.2 _ _ (fun y => z y.2), g.2.2 _ _ (fun y => z y.2)]; exact pr e he z))
    have b6 : ∀ P, QF W M P → ((((gi P 6543 0) >>> (nI d &&& 31)) &&& 1) = 1 ↔ Q d = true) := fun P f => by
      rw [f.2.1 6543 (by decide), bit1 _ (by omega)]; exact (hQ d hd).symm
    have k2 := lp 128 (P := fun k => ∀ P x2 x3 x4 x5, QF W M P → (∀ c, c < 64 → gi P 7438 c = rhe M W c) → (∀ e, e < 8 → ¬ e = d → gl P 7003 e = eyv M W (nI e) 64 ∧ gl P 7067 e = enw M W (nI e) 64) → RB C (tbs Q C (128 * d + k)) x2 x3 x4 x5 → X mM_turn 49 [(0, .ref 6027), (1, .int w), (2, .int x2), (3, .int x3), (4, .int x4), (5, .int x5), (6, .int (nI d)), (7, .int (nI k))] [] P (mC mM_turn, mS mM_turn) (QI K)) (fun k hk ih2 P x2 x3 x4 x5 f p7 pr rb => ?_) (fun P x2 x3 x4 x5 f p7 pr rb => ?_)
    · exact k2 P _ _ _ _ f p7 (fun e he _ => pr e he) rb
    · have nk := nge (c := 128) (i := k) (n := 128) rfl (by decide) hk
      refine vM_turn_49 rfl (mr18 (mr_w j.1 f.1)) ⟨fun q => ?_, fun q => ?_⟩
      · have nQ : Q d = false := by
          rcases q with q | q
          · exact absurd q nk
          · cases z : Q d
            · rfl
            · exact absurd ((b6 P f).mpr z) q.2
        refine out P _ _ _ _ f p7 pr ?_
        rw [show 128 * (d + 1) = 128 * d + 128 by omega, tbs_skip nQ 128 (Nat.le_refl _), ← tbs_skip nQ k (by omega)]
        exact rb
      · have yQ : Q d = true := (b6 P f).mp q.2
        obtain ⟨e1, e2⟩ := k_64 k hk
        rw [e2, e1]
        have jP := jw_sm (qf_sm f) j
        refine uM_turnsBy jP hW (hd_sm (qf_sm f) hh) (um_qf f hu) hd (fun e he ne => ?_) (fun S N g xs gr' g7 => vM_turn_88 ?_)
        · rw [eyv_sm (qf_sm f) j, enw_sm (qf_sm f) j]; exact pr e he ne
        · have ev : nbp (nq (rhu P W d (fun c => rop S (W + 1) c d)) (gi P 7438)) 64 = C (128 * d + k) := by
            rw [nbp_cg 64 (fun c hc => nq_cg (rhu_sm (qf_sm f) j _ c) (p7 c hc)), hC d (k / 64) (k % 64) S hd (by omega) (by omega) yQ (xs_qf f xs), show d * 128 + k / 64 * 64 + k % 64 = 128 * d + k by omega]
          rw [ev, nI_s, e2, e1]
          have hi : 128 * d + k < 1024 := by omega
          have nx : RB C (tbs Q C (128 * d + (k + 1))) (if (if C (128 * d + k) ≤ x2 then (0 : Int32) else 1) = 0 then x2 else C (128 * d + k)) (if (if C (128 * d + k) ≤ x2 then (0 : Int32) else 1) = 0 then x3 else nI d) (if (if C (128 * d + k) ≤ x2 then (0 : Int32) else 1) = 0 then x4 else nI (k / 64)) (if (if C (128 * d + k) ≤ x2 then (0 : Int32) else 1) = 0 then x5 else nI (k % 64)) := by
            rw [show 128 * d + (k + 1) = (128 * d + k) + 1 from rfl, tbs, show (128 * d + k) / 128 = d by omega]
            have new : RB C (nI (128 * d + k)) (C (128 * d + k)) (nI d) (nI (k / 64)) (nI (k % 64)) := Or.inr ⟨128 * d + k, hi, rfl, rfl, by rw [show (128 * d + k) / 128 = d by omega], by rw [show (128 * d + k) / 64 % 2 = k / 64 by omega], by rw [show (128 * d + k) % 64 = k % 64 by omega]⟩
            rcases rb with ⟨y1, y2, y3, y4, y5⟩ | ⟨i, hi', y1, y2, y3, y4, y5⟩
            · rw [if_pos ⟨yQ, Or.inl (by rw [y1]; decide)⟩, y2, if_neg (hC0 _), if_neg (by decide), if_neg (by decide), if_neg (by decide), if_neg (by decide)]
              exact new
            · rw [y1, ncl (by omega), y2]
              by_cases z : C (128 * d + k) ≤ C i
              · rw [if_neg (fun y => by
                  rcases y.2 with y | y
                  · exact n0 i (by omega) y
                  · exact y z), if_pos z, if_pos rfl, if_pos rfl, if_pos rfl, if_pos rfl]
                exact Or.inr ⟨i, hi', rfl, rfl, y3, y4, y5⟩
              · rw [if_pos ⟨yQ, Or.inr z⟩, if_neg z, if_neg (by decide), if_neg (by decide), if_neg (by decide), if_neg (by decide)]
                exact new
          exact ih2 N _ _ _ _ (qf_tr f g) (fun c hc => by rw [g7]; exact p7 c hc) (fun e he ne => by rw [(gr' e ne).1, (gr' e ne).2]; exact pr e he ne) nx
    · exact vM_turn_49 rfl (mr18 (mr_w j.1 f.1)) ⟨fun _ => out P _ _ _ _ f p7 pr (by rw [show 128 * (d + 1) = 128 * d + 128 by omega]; exact rb), fun q => absurd (nself rfl) q.1⟩
  · have fn := fin x2 x3 x4 x5 P f rb
    refine vM_turn_39 ⟨fun q => ?_, fun q => ?_, fun q => ?_, fun q => ?_, fun q => absurd (nself rfl) q⟩
    · rw [if_neg q.2.1, if_neg q.2.2.1, if_neg q.2.2.2] at fn; exact fn
    · rw [if_neg q.2.1, if_neg q.2.2.1, if_pos q.2.2.2] at fn; exact fn
    · rw [if_neg q.2.1, if_pos q.2.2] at fn; exact fn
    · rw [if_pos q.2] at fn; exact fn
theorem pz_turn {w : Int32} {Z : Int32 → Int32 → Mm → Prop} (i0 : INY M) (h : ∀ r s N, INY N → r = s → Z r s N) : CI mC_turn [.ref 10, .int w] M (fun r N => CI mM_turn [.ref 6027, .int w] N (fun s O => Z r s O)) := by
  obtain ⟨L, P, R, S, U, D, W, t, i, ez⟩ := i0
  have c := i.1.1
  have hW : W ≤ 24 := i.2.1.2.1
  obtain ⟨G, ey⟩ := ez.2
  have hR := cxR c
  have iny : ∀ N O, CQ M N → QF W N O → INY O := fun N O f g => ⟨L, P, R, S, U, D, W, t, iv_qf g (iv_cq f i), ez_qf g (ez_cq f ez)⟩
  have r0 : gi M R 0 = gi M 6543 0 := ez.1.2.2.2.1 0 (by decide)
  have fB := cq_bgn M L R (gi M 10 9)
  have cB := cx_cq fB c
  have wB := cxw c (gi M 10 9)
  have rB : gi (bgn M L R (gi M 10 9)) R = gi M R := by
    unfold RA at hR
    exact gi_bgn _ _ _ _ (by omega)
  have mB : ∀ {N}, CQ M N → CMP (bgn M L R (gi M 10 9)) N L R W G := fun f => cmp_of i ez.1 ey f
  have ref : ∀ N r, CQ M N → ((w < 0 ∨ 3 < w) → r = -1) → (¬ w < 0 → ¬ 3 < w → ∀ x2 x3 x4 x5, RB (tcn (bgn M L R (gi M 10 9)) L R) (tbs (mnD (bgn M L R (gi M 10 9)) R) (tcn (bgn M L R (gi M 10 9)) L R) 1024) x2 x3 x4 x5 → r = if w = 0 then x2 else if w = 1 then x3 else if w = 2 then x4 else x5) → CI mM_turn [.ref 6027, .int w] N (fun s O => Z r s O) := fun N r f h1 h2 => by
    have iN := iv_cq f i
    refine uM_turn (Q := mnD (bgn M L R (gi M 10 9)) R) (C := tcn (bgn M L R (gi M 10 9)) L R) iN.2.1.1 hW iN.2.1.2.2.1 iN.2.1.2.2.2.2 (fun d hd => ?_) (fun k z => ?_) (fun d a m S' hd ha hm mn xs => ?_) (fun q => h _ _ N (iny N N f (qf_rf W N)) (h1 q)) (fun q1 q2 x2 x3 x4 x5 O g rb => h _ _ O (iny N O f g) (h2 q1 q2 x2 x3 x4 x5 rb))
    · unfold mnD
      rw [rB, r0, f.2.2 6543 (by decide)]
    · obtain ⟨n, hn, e⟩ := nbp_n (tnp (bgn M L R (gi M 10 9)) L R (k / 128) (nI (k / 64 % 2)) (k % 64)) 64
      unfold tcn at z
      rw [e] at z
      have : ∀ n, n < 65 → ¬ nI n ≤ -4 := by decide +kernel
      exact this n (by omega) z
    · have mn' : bt (gi N 6543 0) d = true := by
        unfold mnD at mn
        rw [rB, r0] at mn
        rw [f.2.2 6543 (by decide)]; exact mn
      have a2 : (nI a = 0 ∨ nI a = 1) := by
        have : a = 0 ∨ a = 1 := by omega
        rcases this with rfl | rfl
        · exact Or.inl rfl
        · exact Or.inr rfl
      unfold tcn
      rw [show (d * 128 + a * 64 + m) / 128 = d by omega, show (d * 128 + a * 64 + m) / 64 % 2 = a by omega, show (d * 128 + a * 64 + m) % 64 = m by omega]
      exact (nbp_cg 64 (fun k hk => tnp_e (mB f) hW xs hd hm a2 mn' hk)).symm
  refine call_of rfl (Nat.le_of_ble_eq_true rfl) rfl (vC_turn_0 rfl ⟨fun q => ref M _ (cq_rf M) (fun _ => rfl) (fun q1 q2 => ?_), fun q => lC_weighNow c (vC_turn_15 rfl (cxg cB (10, 12, 5312) (by decide)) (eFi_best wB (cxL c) hR (cxg cB (5312, 0, 5192) (by decide)) (cxg cB (5312, 1, 5392) (by decide)) (fun N qN hC => ?_)))⟩)
  · exfalso
    rcases q with q | q
    · exact q1 q
    · exact q2 (Int32.not_le.mp q.2)
  · have f := cq_tr fB (cq_bq qN)
    have cN := cx_cq f c
    have nb : (w < 0 ∨ 3 < w) → False := fun y => y.elim q.1 (fun y => absurd q.2 (Int32.not_le.mpr y))
    have ti := tbs_in (mnD (bgn M L R (gi M 10 9)) R) (tcn (bgn M L R (gi M 10 9)) L R) 1024
    have rf : ∀ r, (∀ x2 x3 x4 x5, RB (tcn (bgn M L R (gi M 10 9)) L R) (tbs (mnD (bgn M L R (gi M 10 9)) R) (tcn (bgn M L R (gi M 10 9)) L R) 1024) x2 x3 x4 x5 → r = if w = 0 then x2 else if w = 1 then x3 else if w = 2 then x4 else x5) → CI mM_turn [.ref 6027, .int w] N (fun s O => Z r s O) := fun r hr => ref N r f (fun y => (nb y).elim) (fun _ _ => hr)
    clear ref
    generalize tcn (bgn M L R (gi M 10 9)) L R = C at hC ti rf ⊢
    generalize tbs (mnD (bgn M L R (gi M 10 9)) R) C 1024 = b at ti rf ⊢
    refine vC_turn_22 rfl (cxg cN (10, 12, 5312) (by decide)) (cxg cN (5312, 1, 5392) (by decide)) ?_
    rcases ti with z | ⟨k, hk, mk, z⟩
    · refine ⟨fun p => absurd p (by rw [z]; decide), fun _ => rf _ (fun x2 x3 x4 x5 rb => ?_)⟩
      rcases rb with ⟨-, y2, y3, y4, y5⟩ | ⟨k, hk, y1, -⟩
      · rw [y2, y3, y4, y5]
        by_cases a1 : w = 0
        · rw [if_pos a1]
        · rw [if_neg a1]
          by_cases a2 : w = 1
          · rw [if_pos a2]
          · rw [if_neg a2]
            by_cases a3 : w = 2
            · rw [if_pos a3]
            · rw [if_neg a3]
      · exfalso
        have := n0 k (by omega)
        rw [← y1, z] at this
        exact this (by decide)
    · have un : ∀ {x2 x3 x4 x5}, RB C b x2 x3 x4 x5 → x2 = C k ∧ x3 = nI (k / 128) ∧ x4 = nI (k / 64 % 2) ∧ x5 = nI (k % 64) := fun rb => by
        rcases rb with ⟨y1, -⟩ | ⟨k', hk', y1, y2, y3, y4, y5⟩
        · exfalso
          have := n0 k (by omega)
          rw [← z, y1] at this
          exact this (by decide)
        · rw [z, ninj (by omega) (by omega)] at y1
          subst y1
          exact ⟨y2, y3, y4, y5⟩
      obtain ⟨a1, a2, a3⟩ := i_at k hk
      refine ⟨fun _ => ⟨fun y => ⟨by rw [z]; exact vin hk (by decide), rf _ (fun x2 x3 x4 x5 rb => ?_)⟩, fun y => call_of rfl (Nat.le_of_ble_eq_true rfl) rfl (vFi_doctorAt_0 (vC_turn_70 (rf _ (fun x2 x3 x4 x5 rb => ?_)))), fun y => call_of rfl (Nat.le_of_ble_eq_true rfl) rfl (vFi_answerAt_0 (vC_turn_75 (rf _ (fun x2 x3 x4 x5 rb => ?_)))), fun y => call_of rfl (Nat.le_of_ble_eq_true rfl) rfl (vFi_marksAt_0 (vC_turn_80 (rf _ (fun x2 x3 x4 x5 rb => ?_))))⟩, fun p => absurd (by rw [z]; exact Int32.not_lt.mp (n0 k (by omega))) p⟩
      · rw [if_pos y, (un rb).1, z, ncl (by omega)]
        exact hC k hk mk
      · rw [if_neg (by rw [y]; decide), if_pos y, (un rb).2.1, z, a1]
      · rw [if_neg (by rw [y]; decide), if_neg (by rw [y]; decide), if_pos y, (un rb).2.2.1, z, a2]
      · rw [if_neg y.1, if_neg y.2.1, if_neg y.2.2, (un rb).2.2.2, z, a3]
end EX4
end MG98
