/-! ===== the class reads a library as the lines tell it ===== -/
section EQ8
variable {M : Mm} {T : Nat → Int32} {t : Nat}
theorem rl_copies {c : Tst} {r : Rst} {u : Int32} {ic : Nat → Int32} (tc : TC M T t) (hb : ∀ b, b < 8 → (bt u b = true ↔ ¬ ic b = 0)) (z : RL (adv T t c) r) : NXT T t (tcE T t u c) (rcs T t (ic r.2.2.2.1.toNatClampNeg) r) ∧ ((tcE T t u c).2.2.2.2.1 = 0 → (tc1 T t u c).2.2.2.2.1 = 0 ∧ ∃ i, i < 8 ∧ tkNv 7 (adv T t c) = nI i ∧ r.2.2.2.1 = nI i ∧ tkNv 9 (adv T t (tc1 T t u c)) = (rc3 T t (ic r.2.2.2.1.toNatClampNeg) r).2.2.2.1) := by
  obtain ⟨h1, h2⟩ := rl_num (g := 7) (by decide) z
  have h1' : RL (tkN 7 (adv T t c)) (isn 0 7 r) := h1
  have h2' : (tkN 7 (adv T t c)).2.2.2.2.1 = 0 → tkNv 7 (adv T t c) = r.2.2.2.1 ∧ tkN 7 (adv T t c) = adv T t c ∧ isn 0 7 r = r ∧ (adv T t c).2.2.2.2.1 = 0 := h2
  by_cases f : (tkN 7 (adv T t c)).2.2.2.2.1 = 0
  · obtain ⟨hv, ha, hi, fa⟩ := h2' f
    obtain ⟨⟨i, hi7, ei⟩, -, -⟩ := tkN_ok (g := 7) (by decide) tc f
    have ei' : tkNv 7 (adv T t c) = nI i := ei
    have er : r.2.2.2.1 = nI i := hv.symm.trans ei'
    have cl : r.2.2.2.1.toNatClampNeg = i := by rw [er]; exact ncl (by omega)
    have n0' : ¬ tkNv 7 (adv T t c) < 0 := by rw [ei']; exact n0 i (by omega)
    rw [cl]
    by_cases q : bt u i = true
    · have q1 : ((ushr u (tkNv 7 (adv T t c))) &&& 1) = 1 := by rw [ei', bitu _ (by omega)]; exact q
      have e1 : tc1 T t u c = tfl 4 (adv T t c) := by unfold tc1; rw [if_neg n0', if_pos q1, ha]
      have ic0 : ¬ ic i = 0 := (hb i (by omega)).mp q
      have e2 : rc2 (ic i) r = wts 0 4 r := by unfold rc2; rw [hi, if_neg ic0]
      have rl := rl_fail (k := 4) z fa (by decide)
      have fx : ¬ (tfl 4 (adv T t c)).2.2.2.2.1 = 0 := tfl_ne (by decide)
      have fy : ¬ (wts 0 4 r).2.2.2.2.1 = 0 := fun y => fx (rl.1.trans y)
      have e3 : tcE T t u c = tfl 4 (adv T t c) := by unfold tcE; rw [e1, if_neg fx]
      have e4 : rcs T t (ic i) r = wts 0 4 r := by unfold rcs rc3; rw [e2, nxs_f fy, isn_f fy, nxs_f fy]
      rw [e3, e4]
      exact ⟨nxt_z rl fx, fun y => absurd y fx⟩
    · have q1 : ¬ ((ushr u (tkNv 7 (adv T t c))) &&& 1) = 1 := by rw [ei', bitu _ (by omega)]; exact q
      have e1 : tc1 T t u c = adv T t c := by unfold tc1; rw [if_neg n0', if_neg q1, ha]
      have ic0 : ic i = 0 := by
        by_cases y : ic i = 0
        · exact y
        · exact absurd ((hb i (by omega)).mpr y) q
      have e2 : rc2 (ic i) r = r := by unfold rc2; rw [hi, if_pos ic0]; exact wts_t (by decide)
      have e3 : rc3 T t (ic i) r = nxs T t r := by unfold rc3; rw [e2]
      have a2 : RL (adv T t (adv T t c)) (nxs T t r) := rl_adv tc z fa
      obtain ⟨g1, g2⟩ := rl_num (g := 9) (by decide) a2
      have e4 : tcE T t u c = tkN (nI 9) (adv T t (adv T t c)) := by unfold tcE; rw [e1, if_pos fa]; rfl
      have e5 : rcs T t (ic i) r = nxs T t (isn 0 (nI 9) (nxs T t r)) := by unfold rcs; rw [e3]; rfl
      rw [e4, e5]
      refine ⟨⟨_, g1, rfl⟩, fun y => ⟨by rw [e1]; exact fa, i, by omega, ei', er, ?_⟩⟩
      rw [e1, e3]
      exact (g2 y).1
  · have fy : ¬ (isn 0 7 r).2.2.2.2.1 = 0 := fun y => f (h1'.1.trans y)
    have e1 : tc1 T t u c = tkN 7 (adv T t c) := by
      unfold tc1
      split
      · rfl
      · split
        · exact tfl_f f
        · rfl
    have e2 : tcE T t u c = tkN 7 (adv T t c) := by unfold tcE; rw [e1, if_neg f]
    have e3 : ∀ x, rcs T t x r = isn 0 7 r := by
      intro x
      have e : rc2 x r = isn 0 7 r := by unfold rc2; exact wts_f fy
      unfold rcs rc3; rw [e, nxs_f fy, isn_f fy, nxs_f fy]
    rw [e2, e3]
    exact ⟨nxt_z h1' f, fun y => absurd y f⟩
theorem nxt_close {x : Tst} {D : Nat} {cp : Nat → Int32} {s : Rst} (tc : TC M T t) (h : NXT T t x (ln3 T t D cp s)) : RL (tkC T t x) (ln4 T t D cp s) := by
  obtain ⟨y, h1, h2⟩ := h
  unfold ln4
  rw [h2]
  exact rl_close tc h1
/-- the class's draft stands as the lines tell it -/
def CL (M : Mm) (r : Nat) (σ : LSt) (u : Int32) : Prop := LR M r ∧ gi M r 1 = nI σ.2.1 ∧ (∀ w, w < σ.2.1 → ∀ i, i < 8 → gi M (r + 776 + 64 * w) (cf i) = σ.2.2.1 w i) ∧ (∀ w, w < σ.2.1 → kCN (σ.2.2.1 w 0) → gi M (r + 776 + 64 * w) 7 = σ.2.2.2.2.2.2 w) ∧ (∀ b, b < 8 → gi M (r + 140) b = σ.2.2.2.1 b) ∧ gi M 258 1 = σ.2.2.2.2.2.1 ∧ (∀ b, b < 8 → (bt u b = true ↔ ¬ σ.2.2.2.2.1 b = 0)) ∧ ∀ w, w < σ.2.1 → WK 24 M (r + 776 + 64 * w)
theorem cl_pt {N : Mm} {r : Nat} {σ : LSt} {u : Int32} (hr : 258 < r) (f : PT M N) (l : CL M r σ u) : CL N r σ u := by
  obtain ⟨l1, l2, l3, l4, l5, l6, l7, l8⟩ := l
  refine ⟨lr_gr l1 f.1, by rw [f.2.2 r (by omega)]; exact l2, fun w hw i hi => by rw [f.2.2 _ (by omega)]; exact l3 w hw i hi, fun w hw k => by rw [f.2.2 _ (by omega)]; exact l4 w hw k, fun b hb => by rw [f.2.2 _ (by omega)]; exact l5 b hb, by rw [f.2.2 _ (by omega)]; exact l6, l7, fun w hw => wk_eq (f.2.2 _ (by omega)) (l8 w hw)⟩
/-- a wrong follower, on both sides -/
theorem bd_eq {r : Nat} {σ : LSt} {u : Int32} {w : Nat} (ok : okS σ) (l : CL M r σ u) (hw : w < σ.2.1) : badc M r σ.2.1 w ↔ bdS σ w := by
  obtain ⟨l1, l2, l3, l4, l5, l6, l7, l8⟩ := l
  have hD := ok.1
  obtain ⟨-, k, hk, ek, h⟩ := ok.2.2 w hw
  have e6 : gi M (r + 776 + 64 * w) 6 = σ.2.2.1 w 6 := l3 w hw 6 (by decide)
  unfold badc mfc bdS
  rw [e6]
  rcases h with ⟨n, e⟩ | ⟨n, f, hf, e⟩
  · rw [e]
    exact ⟨fun z => absurd (show (-4 : Int32) < 0 by decide) z.1, fun z => absurd rfl z.1⟩
  · rw [e, ncl (by omega)]
    have nn : ¬ nI f < 0 := n0 f (by omega)
    by_cases lf : f < σ.2.1
    · have e0 : gi M (r + 776 + 64 * f) 0 = σ.2.2.1 f 0 := l3 f lf 0 (by decide)
      rw [e0]
      constructor
      · rintro ⟨-, z⟩
        refine ⟨nI4 (by omega), ?_⟩
        by_cases y1 : nI σ.2.1 ≤ nI f
        · exact Or.inl y1
        · by_cases y2 : nI f = nI w
          · exact Or.inr (Or.inl y2)
          · by_cases y3 : σ.2.2.1 f 0 = 5
            · exact Or.inr (Or.inr y3)
            · exact absurd ⟨nn, y1, y2, y3⟩ z
      · rintro ⟨-, z⟩
        refine ⟨nn, fun y => ?_⟩
        rcases z with z | z | z
        · exact y.2.1 z
        · exact y.2.2.1 z
        · exact y.2.2.2 z
    · have le : nI σ.2.1 ≤ nI f := by rw [nle (by omega) (by omega)]; omega
      exact ⟨fun _ => ⟨nI4 (by omega), Or.inl le⟩, fun _ => ⟨nn, fun y => y.2.1 le⟩⟩
/-- the beginning of the lines -/
def lS0 (T : Nat → Int32) (t : Nat) (x v p : Int32) : LSt := (nxs T t (0, 0, x, v, 0, p), 0, (fun _ _ => 0), (fun _ => 2), (fun _ => 0), 0, fun _ => 0)
theorem okS0 {x v p : Int32} : okS (lS0 T t x v p) := ⟨by show (0 : Nat) ≤ 24; decide, ⟨0, by decide, rfl⟩, fun w hw => absurd (show w < 0 from hw) (by omega)⟩
theorem eLr_readInto {r : Nat} {x0 v0 p0 : Int32} {K : Int32 → Mm → Prop} (hl : LR M r) (hr : 258 < r) (g0 : gr M 258 0 = some 199) (tc : TC M T t)
    (h1 : ∀ N, PC r M N → ¬ (lpS T t 401 (lS0 T t x0 v0 p0) 0).1.1.2.2.2.2.1 = 0 → gi N 199 5 = (lpS T t 401 (lS0 T t x0 v0 p0) 0).1.1.2.2.2.2.1 → gi N 199 6 = (lpS T t 401 (lS0 T t x0 v0 p0) 0).1.1.2.2.2.2.2 → K (-1) N)
    (h2 : ∀ N w, PC r M N → (lpS T t 401 (lS0 T t x0 v0 p0) 0).1.1.2.2.2.2.1 = 0 → w < (lpS T t 401 (lS0 T t x0 v0 p0) 0).1.2.1 → bdS (lpS T t 401 (lS0 T t x0 v0 p0) 0).1 w → (∀ v, v < w → ¬ bdS (lpS T t 401 (lS0 T t x0 v0 p0) 0).1 v) → gi N 199 5 = 6 → gi N 199 6 = (lpS T t 401 (lS0 T t x0 v0 p0) 0).1.2.2.2.2.2.2 w → K (-1) N)
    (h3 : ∀ N u, PC r M N → (lpS T t 401 (lS0 T t x0 v0 p0) 0).1.1.2.2.2.2.1 = 0 → (∀ w, w < (lpS T t 401 (lS0 T t x0 v0 p0) 0).1.2.1 → ¬ bdS (lpS T t 401 (lS0 T t x0 v0 p0) 0).1 w) → gi N 199 5 = 0 → LD N r (lpS T t 401 (lS0 T t x0 v0 p0) 0).1.2.1 → CL N r (lpS T t 401 (lS0 T t x0 v0 p0) 0).1 u → okS (lpS T t 401 (lS0 T t x0 v0 p0) 0).1 → (lpS T t 401 (lS0 T t x0 v0 p0) 0).2 ≤ 400 → K (nI (lpS T t 401 (lS0 T t x0 v0 p0) 0).2) N) : CI mLr_readInto [.ref 258, .ref r] M K := by
  have ht := tc.2.2.2.1
  refine call_of rfl (Nat.le_of_ble_eq_true rfl) rfl (vLr_readInto_0 hl.1 (sLi_clear hl (vLr_readInto_4 rfl g0 ?_)))
  generalize eA : fl (si M r 1 0) (r + 140) 8 2 = A
  have pA : PC r M A := by
    rw [← eA]
    refine ⟨rfl, rfl, fun a h1 h2 h3 => ?_⟩
    funext k
    rw [flR _ _ _ _ _ _ (by omega), giR _ _ _ _ _ _ (by omega)]
  have a1 : gi A r 1 = nI 0 := by rw [← eA, flR _ _ _ _ _ _ (by omega), gi_si, if_pos ⟨rfl, rfl⟩]; rfl
  have a140 : ∀ b, b < 8 → gi A (r + 140) b = 2 := fun b hb => by rw [← eA, gi_fl, if_pos ⟨rfl, hb⟩]
  have rA : gr A = gr M := pA.1
  have tA : TC A T t := tc_gi rA (pA.2.2 70 (by decide) (by decide) (by omega)) (pA.2.2 145 (by decide) (by decide) (by omega)) tc
  refine nTo_begin tA rfl (fun B pB tB => vLr_readInto_11 rfl (by rw [pB.1, rA]; exact g0) ?_)
  refine nTo_advance (td_si (by decide) (by decide) (by decide) tB) (fun C pC tC => ?_)
  have pMC : PC r M C := pc_tr pA (pc_tr (pc_pt pB) (pc_tr (pc_si (Or.inl rfl)) (pc_pt pC)))
  have lC : CL C r (lS0 T t x0 v0 p0) 0 := by
    refine ⟨lr_gr hl pMC.1, ?_, fun w hw => absurd (show w < 0 from hw) (by omega), fun w hw => absurd (show w < 0 from hw) (by omega), fun b hb => ?_, ?_, fun b hb => ?_, fun w hw => absurd (show w < 0 from hw) (by omega)⟩
    · rw [pC.2.2 r (by omega), gi_ne (by omega), pB.2.2 r (by omega), a1]; rfl
    · rw [pC.2.2 _ (by omega), gi_ne (by omega), pB.2.2 _ (by omega), a140 b hb]; rfl
    · rw [pC.2.2 258 (by decide), gi_si, if_pos ⟨rfl, rfl⟩]; rfl
    · rw [b_0]
      exact ⟨fun z => absurd z (by decide), fun z => absurd rfl z⟩
  have rC : RL (adv T t (0, 0, 0, gi A 199 4, 0, 0)) (lS0 T t x0 v0 p0).1 := rl_adv0 tc rfl rfl rfl
  have okC : okS (lS0 T t x0 v0 p0) := okS0
  have pos0 : (lS0 T t x0 v0 p0).1.2.2.2.2.1 = 0 → ¬ (lS0 T t x0 v0 p0).1.2.2.1 = 0 → 0 < (lS0 T t x0 v0 p0).1.2.1 := fun f n => by
    have := (go_nxs (T := T) (t := t) (s := (0, 0, x0, v0, 0, p0))).2 f
    exact this.2 n
  generalize lS0 T t x0 v0 p0 = σ0 at h1 h2 h3 lC rC okC pos0
  generalize eF : lpS T t 401 σ0 0 = F at h1 h2 h3
  have bout : ∀ N s u σ v, PC r M N → TD N T t s → RL s σ.1 → (s.2.2.2.2.1 = 0 → CL N r σ u ∧ okS σ) → v ≤ 400 → (σ, v) = F → CV mLr_findWrongFollowers [.ref 258, .ref r] N (fun N => X mLr_readInto 165 [(0, .ref 258), (3, .int (nI v))] [] N (mC mLr_readInto, mS mLr_readInto) (QI K)) := by
    intro N s u σ v pN tN rl lk hv e
    subst e
    have gN : gr N 258 0 = some 199 := by rw [pN.1]; exact g0
    have lN := lr_gr hl pN.1
    have n5 := tN.2.2.2.2.2.1
    have n6 := tN.2.2.2.2.2.2.1
    by_cases z : s.2.2.2.2.1 = 0
    · have zr : σ.1.2.2.2.2.1 = 0 := rl.1.symm.trans z
      obtain ⟨cl, ok⟩ := lk z
      have hD := ok.1
      refine sLr_findWrong (D := σ.2.1) lN (by omega) gN tN (fun _ => ⟨cl.2.1, hD⟩) (fun y => absurd z y) (fun _ nb => ?_) (fun _ w hw b1 b2 O pO o5 o6 o4 => ?_)
      · refine vLr_readInto_165 rfl gN ?_
        rw [n5, if_pos z]
        refine h3 N u pN zr (fun w hw b => nb w hw ((bd_eq ok cl hw).mpr b)) (n5.trans z) ⟨lN, cl.2.1, hD, fun w hw => ?_⟩ cl ok hv
        obtain ⟨k1, k2, k3, k4⟩ := cl.2.2.2.2.2.2.2 w hw
        refine ⟨k1, k2, k3, ?_⟩
        by_cases y : gi N (r + 776 + 64 * w) 6 < 0
        · exact Or.inl y
        · right
          have nbw := nb w hw
          have m : mfc N r σ.2.1 w := by
            by_cases m : mfc N r σ.2.1 w
            · exact m
            · exact absurd ⟨y, m⟩ nbw
          exact rng (n := σ.2.1) rfl (by omega) m.1 m.2.1
      · refine vLr_readInto_165 rfl (by rw [pO.1]; exact gN) ?_
        have nz : ¬ gi O 199 5 = 0 := by rw [o5]; decide
        rw [if_neg nz]
        have bs := (bd_eq ok cl hw).mp b1
        refine h2 O w (pc_tr pN (pc_pt pO)) zr hw bs (fun v hv b => b2 v hv ((bd_eq ok cl (Nat.lt_trans hv hw)).mpr b)) o5 ?_
        rw [o6]
        refine cl.2.2.2.1 w hw ?_
        obtain ⟨-, k, hk, ek, h⟩ := ok.2.2 w hw
        rcases h with ⟨-, e⟩ | ⟨n, -⟩
        · exact absurd e bs.1
        · unfold kCN
          rw [ek, show (1 : Int32) = nI 1 from rfl, show (3 : Int32) = nI 3 from rfl, nlt (by omega) (by omega), nlt (by omega) (by omega)]
          omega
    · have zr : ¬ σ.1.2.2.2.2.1 = 0 := fun y => z (rl.1.trans y)
      have nz : ¬ gi N 199 5 = 0 := by rw [n5]; exact z
      refine sLr_findWrong (D := 0) lN (by omega) gN tN (fun y => absurd y z) (fun _ => ?_) (fun y => absurd y z) (fun y => absurd y z)
      refine vLr_readInto_165 rfl gN ?_
      rw [if_neg nz]
      exact h1 N pN zr (n5.trans rl.1) (n6.trans (rl.2.1 z))
  have key : ∀ n v N s u σ, v + n = 400 → PC r M N → TD N T t s → RL s σ.1 → (s.2.2.2.2.1 = 0 → CL N r σ u ∧ okS σ) → (σ.1.2.2.2.2.1 = 0 → ¬ σ.1.2.2.1 = 0 → v < σ.1.2.1) → lpS T t (n + 1) σ v = F → X mLr_readInto 27 [(0, .ref 258), (1, .ref r), (2, .int u), (3, .int (nI v))] [] N (mC mLr_readInto, mS mLr_readInto) (QI K) := by
    intro n
    induction n with
    | zero =>
      intro v N s u σ hv pN tN rl lk pos e
      have gN : gr N 258 0 = some 199 := by rw [pN.1]; exact g0
      have ev : v = 400 := by omega
      have l : (400 : Int32) ≤ nI v := by rw [ev]; exact Int32.le_refl _
      have ex : ¬ σ.1.2.2.2.2.1 = 0 ∨ σ.1.2.2.1 = 0 := by
        by_cases f : σ.1.2.2.2.2.1 = 0
        · right
          by_cases q : σ.1.2.2.1 = 0
          · exact q
          · exfalso
            have p := pos f q
            have fs : s.2.2.2.2.1 = 0 := rl.1.trans f
            have b2 := tN.2.2.2.2.2.2.2.2
            rw [(rl.2.2 fs).2.1] at b2
            omega
        · exact Or.inl f
      have e' : (σ, v) = F := (lpS_stop T t ex).symm.trans e
      exact vLr_readInto_27 rfl gN ⟨fun _ => bout N s u σ v pN tN rl lk (by omega) e', fun q => absurd l q.1, fun q => absurd l q.1⟩
    | succ n ih =>
      intro v N s u σ hv pN tN rl lk pos e
      have gN : gr N 258 0 = some 199 := by rw [pN.1]; exact g0
      have n5 := tN.2.2.2.2.2.1
      have n1 := tN.2.1
      have stop : (¬ σ.1.2.2.2.2.1 = 0 ∨ σ.1.2.2.1 = 0) → (σ, v) = F := fun ex => (lpS_stop T t ex).symm.trans e
      have b79 : s.2.2.2.2.1 = 0 → ¬ σ.1.2.2.1 = 0 → X mLr_readInto 79 [(0, .ref 258), (1, .ref r), (2, .int u), (3, .int (nI v))] [.int (if s.1 = 2 then amo T t 0 s else -1)] N (mC mLr_readInto, mS mLr_readInto) (QI K) := by
        intro z ns
        have zr : σ.1.2.2.2.2.1 = 0 := rl.1.symm.trans z
        obtain ⟨cl, ok⟩ := lk z
        have hD := ok.1
        have b2 := tN.2.2.2.2.2.2.2.2
        have hs4 : σ.1.2.1 ≤ 400 := by rw [← (rl.2.2 z).2.1]; exact b2
        have e' : lpS T t (n + 1) (lnS T t σ) (v + 1) = F := (lpS_go T t (fun y => y.elim (fun y => y zr) ns)).symm.trans e
        -- behind a line
        have b147 : ∀ O x u', PC r M O → TD O T t x → NXT T t x (ln3 T t σ.2.1 σ.2.2.2.2.1 σ.1) → ((lnS T t σ).1.2.2.2.2.1 = 0 → CL O r (lnS T t σ) u') → X mLr_readInto 147 [(0, .ref 258), (1, .ref r), (2, .int u'), (3, .int (nI v))] [] O (mC mLr_readInto, mS mLr_readInto) (QI K) := by
          intro O x u' pO tO nx clO
          refine vLr_readInto_147 rfl (by rw [pO.1]; exact g0) (nTo_closeLine tO (fun P pP tP => vLr_readInto_154 ?_))
          rw [nI_s]
          have rl' : RL (tkC T t x) (lnS T t σ).1 := by rw [lnS_1]; exact nxt_close tc nx
          refine ih (v + 1) P _ u' (lnS T t σ) (by omega) (pc_tr pO (pc_pt pP)) tP rl' (fun y => ?_) (fun y1 y2 => ?_) e'
          · have y' : (lnS T t σ).1.2.2.2.2.1 = 0 := rl'.1.symm.trans y
            exact ⟨cl_pt hr pP (clO y'), (lnS_ok ok y').1⟩
          · have g := (lnS_ok ok y1).2
            have := pos zr ns
            omega
        have z2 : ∀ {x : Rst}, x = σ.1 → RL (adv T t s) (nxs T t x) := fun e => by rw [e]; exact rl_adv tc rl z
        rcases ln_rel (T := T) (t := t) hs4 rl z with ⟨ek, bad⟩ | ⟨i, hi, ek, el⟩ | ⟨ek, el⟩ | ⟨ek, el⟩
        · -- no line begins so
          rw [ek]
          refine vLr_readInto_79 rfl gN ⟨fun q => absurd q.1 (by decide), fun q => absurd q.1 (by decide), fun q => absurd q.1 (by decide), fun _ => nTo_fail tN (fun O pO tO => vLr_readInto_94 (b147 O _ u (pc_tr pN (pc_pt pO)) tO ?_ (fun y => ?_)))⟩
          · have rf := rl_fail (k := 2) rl z (by decide)
            have fx : ¬ (tfl 2 s).2.2.2.2.1 = 0 := tfl_ne (by decide)
            have fy : ¬ (wts 0 2 σ.1).2.2.2.2.1 = 0 := fun y => fx (rf.1.trans y)
            have e1 : ln1 T t σ.2.1 σ.1 = wts 0 2 σ.1 := by unfold ln1; rw [if_neg bad]; exact wts_f fy
            have e2 : ln2 T t σ.2.1 σ.1 = wts 0 2 σ.1 := by unfold ln2; rw [e1, nxs_f fy]
            have e3 : ln3 T t σ.2.1 σ.2.2.2.2.1 σ.1 = wts 0 2 σ.1 := by
              unfold ln3
              rw [if_neg (fun y => bad (Or.inr (Or.inl y))), if_neg (fun y => bad (Or.inr (Or.inr y))), e2]
              exact rw1_f fy
            rw [e3]; exact nxt_z rf fx
          · exfalso
            rw [lnS_1] at y
            unfold ln4 at y
            have y3 := (eln_ok y).2
            have y2 := (go_ln3.2 y3).1
            have fz := (go_ln3 (T := T) (t := t) (D := σ.2.1) (cp := σ.2.2.2.2.1) (s := σ.1)).2 y3
            have f1 : (ln1 T t σ.2.1 σ.1).2.2.2.2.1 = 0 := by
              have : (ln2 T t σ.2.1 σ.1).2.2.2.2.1 = 0 := by
                unfold ln3 at y3
                rw [if_neg (fun y => bad (Or.inr (Or.inl y))), if_neg (fun y => bad (Or.inr (Or.inr y)))] at y3
                exact (go_rw6.2 y3).1
              unfold ln2 at this
              exact nxs_ok this
            unfold ln1 at f1
            obtain ⟨-, q2, -⟩ := wts_ok (by decide) f1
            obtain ⟨q1, -, -⟩ := wts_ok (by decide) q2
            exact bad (ite1 q1)
        · -- a word
          have k16 : lnk T t σ.1 = 0 ∨ lnk T t σ.1 = 1 ∨ lnk T t σ.1 = 2 ∨ lnk T t σ.1 = 3 ∨ lnk T t σ.1 = 4 ∨ lnk T t σ.1 = 5 := by
            rw [el]
            match i, hi with
            | 0, _ => exact Or.inl rfl
            | 1, _ => exact Or.inr (Or.inl rfl)
            | 2, _ => exact Or.inr (Or.inr (Or.inl rfl))
            | 3, _ => exact Or.inr (Or.inr (Or.inr (Or.inl rfl)))
            | 4, _ => exact Or.inr (Or.inr (Or.inr (Or.inr (Or.inl rfl))))
            | 5, _ => exact Or.inr (Or.inr (Or.inr (Or.inr (Or.inr rfl))))
          have n10' : ¬ lnk T t σ.1 = 10 := by rcases k16 with q | q | q | q | q | q <;> rw [q] <;> decide
          have n11' : ¬ lnk T t σ.1 = 11 := by rcases k16 with q | q | q | q | q | q <;> rw [q] <;> decide
          have v1 : ¬ lnk T t σ.1 < 0 ∧ ¬ 5 < lnk T t σ.1 := by rcases k16 with q | q | q | q | q | q <;> rw [q] <;> decide
          have p0 : (0 : Int32) ≤ nI i := nI_pos' (by omega)
          have n6' : ¬ (6 : Int32) ≤ nI i := by rw [show (6 : Int32) = nI 6 from rfl, nle (by omega) (by decide)]; omega
          rw [ek]
          have e0 : wts (if (¬ lnk T t σ.1 < 0 ∧ ¬ 5 < lnk T t σ.1) ∨ lnk T t σ.1 = 10 ∨ lnk T t σ.1 = 11 then 1 else 0) 2 σ.1 = σ.1 := wts_t (by rw [if_pos (Or.inl v1)]; decide)
          have e3 : ln3 T t σ.2.1 σ.2.2.2.2.1 σ.1 = rw6 T t (lnk T t σ.1) (ln2 T t σ.2.1 σ.1) := by unfold ln3; rw [if_neg n10', if_neg n11']
          refine vLr_readInto_79 rfl gN ⟨fun q => absurd q.2.1 n6', fun q => absurd q.2.1 n6', fun _ => ?_, fun q => absurd p0 q⟩
          refine nLr_tellWord cl.1 (by omega) gN tN cl.2.1 hD (fun h24 O pO tO => vLr_readInto_112 (b147 O _ u (pc_tr pN (pc_pt pO)) tO ?_ (fun y => ?_))) (fun hD4 O pO tO nf => vLr_readInto_112 (b147 _ _ u (pc_tr pN (pc_tr (pc_px (by omega) pO) (pc_si (Or.inr (by omega))))) (td_si (by omega) (by omega) (by omega) tO) ?_ (fun y => ?_))) (fun hD4 O pO tO nf ew => vLr_readInto_112 (b147 _ _ u (pc_tr pN (pc_tr (pc_px (by omega) pO) (pc_si (Or.inr (by omega))))) (td_si (by omega) (by omega) (by omega) tO) ?_ (fun y => ?_)))
          · have nl : ¬ (5 < lnk T t σ.1 ∨ σ.2.1 < 24) := fun y => y.elim v1.2 (fun y => by omega)
            have rf := rl_fail (k := 5) rl z (by decide)
            have fx : ¬ (tfl 5 s).2.2.2.2.1 = 0 := tfl_ne (by decide)
            have fy : ¬ (wts 0 5 σ.1).2.2.2.2.1 = 0 := fun y => fx (rf.1.trans y)
            have e1 : ln1 T t σ.2.1 σ.1 = wts 0 5 σ.1 := by unfold ln1; rw [e0, if_neg nl]
            have e2 : ln2 T t σ.2.1 σ.1 = wts 0 5 σ.1 := by unfold ln2; rw [e1, nxs_f fy]
            rw [e3, e2, rw1_f fy]
            exact nxt_z rf fx
          · exfalso
            rw [lnS_1] at y
            unfold ln4 at y
            have y3 := (eln_ok y).2
            rw [e3] at y3
            have y2 := (go_rw6.2 y3).1
            unfold ln2 at y2
            have y1 := nxs_ok y2
            unfold ln1 at y1
            obtain ⟨q1, -, -⟩ := wts_ok (by decide) y1
            rcases ite1 q1 with q | q
            · exact v1.2 q
            · omega
          · have wl : 5 < lnk T t σ.1 ∨ σ.2.1 < 24 := Or.inr hD4
            have e1 : ln1 T t σ.2.1 σ.1 = σ.1 := by unfold ln1; rw [e0, if_pos wl]; exact wts_t (by decide)
            have e2 : ln2 T t σ.2.1 σ.1 = nxs T t σ.1 := by unfold ln2; rw [e1]
            rw [e3, e2, el]
            exact (rl_word tc (nxs_400 ht hs4) (by rw [← el]; exact k16) (z2 rfl)).1
          · exfalso
            have wl : 5 < lnk T t σ.1 ∨ σ.2.1 < 24 := Or.inr hD4
            have e1 : ln1 T t σ.2.1 σ.1 = σ.1 := by unfold ln1; rw [e0, if_pos wl]; exact wts_t (by decide)
            have e2 : ln2 T t σ.2.1 σ.1 = nxs T t σ.1 := by unfold ln2; rw [e1]
            have nx := (rl_word (k := nI i) tc (nxs_400 ht hs4) (by rw [← el]; exact k16) (z2 rfl)).1
            rw [lnS_1] at y
            unfold ln4 at y
            have y3 := (eln_ok y).2
            rw [e3, e2, el] at y3
            exact (nxt_f nx nf).2 y3
          · have wl : 5 < lnk T t σ.1 ∨ σ.2.1 < 24 := Or.inr hD4
            have e1 : ln1 T t σ.2.1 σ.1 = σ.1 := by unfold ln1; rw [e0, if_pos wl]; exact wts_t (by decide)
            have e2 : ln2 T t σ.2.1 σ.1 = nxs T t σ.1 := by unfold ln2; rw [e1]
            rw [e3, e2, el]
            exact (rl_word tc (nxs_400 ht hs4) (by rw [← el]; exact k16) (z2 rfl)).1
          · have wl : 5 < lnk T t σ.1 ∨ σ.2.1 < 24 := Or.inr hD4
            have e1 : ln1 T t σ.2.1 σ.1 = σ.1 := by unfold ln1; rw [e0, if_pos wl]; exact wts_t (by decide)
            have e2 : ln2 T t σ.2.1 σ.1 = nxs T t σ.1 := by unfold ln2; rw [e1]
            have rw' := (rl_word (k := nI i) tc (nxs_400 ht hs4) (by rw [← el]; exact k16) (z2 rfl)).2 nf σ.2.2.2.2.2.1
            have f4 : (ln4 T t σ.2.1 σ.2.2.2.2.1 σ.1).2.2.2.2.1 = 0 := by rw [← lnS_1]; exact y
            have eS : lnS T t σ = (ln4 T t σ.2.1 σ.2.2.2.2.1 σ.1, σ.2.1 + 1, upr σ.2.2.1 σ.2.1 (rwr T t (lnk T t σ.1) (ln2 T t σ.2.1 σ.1) σ.2.2.2.2.2.1), σ.2.2.2.1, σ.2.2.2.2.1, σ.2.2.2.2.2.1, up1 σ.2.2.2.2.2.2 σ.2.1 (nI (rw5 T t (lnk T t σ.1) (ln2 T t σ.2.1 σ.1)).1)) := by
              unfold lnS; rw [if_neg (fun q => q f4), if_neg n10', if_neg n11']
            rw [eS, e2, el]
            obtain ⟨l1, l2, l3, l4, l5, l6, l7, l8⟩ := cl
            obtain ⟨b, hb, eb⟩ := ok.2.1
            rw [l6] at ew
            refine ⟨lr_gr l1 pO.1, by rw [gi_si, if_pos ⟨rfl, rfl⟩], fun w hw j hj => ?_, fun w hw kc => ?_, fun b hb => ?_, ?_, l7, fun w hw => ?_⟩
            · show gi (si O r 1 (nI (σ.2.1 + 1))) (r + 776 + 64 * w) (cf j) = upr σ.2.2.1 σ.2.1 (rwr T t (nI i) (nxs T t σ.1) σ.2.2.2.2.2.1) w j
              have hw' : w < σ.2.1 + 1 := hw
              rw [giR _ _ _ _ _ _ (by omega)]
              unfold upr
              by_cases q : w = σ.2.1
              · rw [if_pos q, q, ew (cf j) (by unfold cf; split <;> omega)]
                exact rw'.1 j hj
              · rw [if_neg q, pO.2.2 _ (by omega) (by omega)]
                exact l3 w (by omega) j hj
            · show gi (si O r 1 (nI (σ.2.1 + 1))) (r + 776 + 64 * w) 7 = up1 σ.2.2.2.2.2.2 σ.2.1 (nI (rw5 T t (nI i) (nxs T t σ.1)).1) w
              have hw' : w < σ.2.1 + 1 := hw
              have kc' : kCN (upr σ.2.2.1 σ.2.1 (rwr T t (nI i) (nxs T t σ.1) σ.2.2.2.2.2.1) w 0) := kc
              rw [giR _ _ _ _ _ _ (by omega)]
              unfold up1
              by_cases q : w = σ.2.1
              · rw [if_pos q, q, ew 7 (by decide)]
                refine rw'.2 ?_
                unfold upr at kc'
                rw [if_pos q] at kc'
                exact kc'
              · rw [if_neg q, pO.2.2 _ (by omega) (by omega)]
                unfold upr at kc'
                rw [if_neg q] at kc'
                exact l4 w (by omega) kc'
            · rw [gi_ne (by omega), pO.2.2 _ (by omega) (by omega)]; exact l5 b hb
            · rw [gi_ne (by omega), pO.2.2 _ (by omega) (by omega)]; exact l6
            · have hw' : w < σ.2.1 + 1 := hw
              by_cases q : w = σ.2.1
              · rw [q]
                have wk := wb2_ok tN.1 hb eb nf
                unfold WK
                rw [gi_ne (by omega), ew 1 (by decide), ew 2 (by decide), ew 3 (by decide), ew 6 (by decide)]
                exact wk
              · refine wk_eq ?_ (l8 w (by omega))
                rw [gi_ne (by omega), pO.2.2 _ (by omega) (by omega)]
        · -- a book
          rw [ek]
          have e0 : wts (if (¬ lnk T t σ.1 < 0 ∧ ¬ 5 < lnk T t σ.1) ∨ lnk T t σ.1 = 10 ∨ lnk T t σ.1 = 11 then 1 else 0) 2 σ.1 = σ.1 := wts_t (by rw [if_pos (Or.inr (Or.inl el))]; decide)
          have e1 : ln1 T t σ.2.1 σ.1 = σ.1 := by unfold ln1; rw [e0, if_pos (Or.inl (by rw [el]; decide))]; exact wts_t (by decide)
          have e2 : ln2 T t σ.2.1 σ.1 = nxs T t σ.1 := by unfold ln2; rw [e1]
          have e3 : ln3 T t σ.2.1 σ.2.2.2.2.1 σ.1 = nxs T t (isn 0 7 (nxs T t σ.1)) := by unfold ln3; rw [if_pos el, e2]
          obtain ⟨g1, g2⟩ := rl_num (g := 7) (by decide) (z2 rfl)
          refine vLr_readInto_79 rfl gN ⟨fun q => absurd rfl q.2.2, fun _ => nTo_takeNumber tN (fun O pO tO => vLr_readInto_132 rfl (b147 _ (tkN 7 (adv T t s)) u (pc_tr pN (pc_tr (pc_pt pO) (pc_si (Or.inl rfl)))) (td_si (by decide) (by decide) (by decide) tO) ?_ (fun y => ?_))), fun q => absurd q.2 (by decide), fun q => absurd (by decide) q⟩
          · rw [e3]; exact ⟨_, g1, rfl⟩
          · have f4 : (ln4 T t σ.2.1 σ.2.2.2.2.1 σ.1).2.2.2.2.1 = 0 := by rw [← lnS_1]; exact y
            have eS : lnS T t σ = (ln4 T t σ.2.1 σ.2.2.2.2.1 σ.1, σ.2.1, σ.2.2.1, σ.2.2.2.1, σ.2.2.2.2.1, (ln2 T t σ.2.1 σ.1).2.2.2.1, σ.2.2.2.2.2.2) := by
              unfold lnS; rw [if_neg (fun q => q f4), if_pos el]
            have f3 : (ln3 T t σ.2.1 σ.2.2.2.2.1 σ.1).2.2.2.2.1 = 0 := by unfold ln4 at f4; exact (eln_ok f4).2
            rw [e3] at f3
            have fi := nxs_ok f3
            have fx : (tkN (nI 7) (adv T t s)).2.2.2.2.1 = 0 := g1.1.trans fi
            have ev := (g2 fx).1
            rw [eS, e2]
            have c2 := cl_pt hr pO cl
            obtain ⟨l1, l2, l3, l4, l5, l6, l7, l8⟩ := c2
            refine ⟨lr_gr l1 rfl, by rw [gi_ne (by omega)]; exact l2, fun w hw j hj => by rw [gi_ne (by omega)]; exact l3 w hw j hj, fun w hw kc => by rw [gi_ne (by omega)]; exact l4 w hw kc, fun b hb => by rw [gi_ne (by omega)]; exact l5 b hb, ?_, l7, fun w hw => wk_eq (gi_ne (by omega)) (l8 w hw)⟩
            rw [gi_si, if_pos ⟨rfl, rfl⟩]; exact ev
        · -- copies
          rw [ek]
          have e0 : wts (if (¬ lnk T t σ.1 < 0 ∧ ¬ 5 < lnk T t σ.1) ∨ lnk T t σ.1 = 10 ∨ lnk T t σ.1 = 11 then 1 else 0) 2 σ.1 = σ.1 := wts_t (by rw [if_pos (Or.inr (Or.inr el))]; decide)
          have e1 : ln1 T t σ.2.1 σ.1 = σ.1 := by unfold ln1; rw [e0, if_pos (Or.inl (by rw [el]; decide))]; exact wts_t (by decide)
          have e2 : ln2 T t σ.2.1 σ.1 = nxs T t σ.1 := by unfold ln2; rw [e1]
          have n10' : ¬ lnk T t σ.1 = 10 := by rw [el]; decide
          have e3 : ln3 T t σ.2.1 σ.2.2.2.2.1 σ.1 = rcs T t (σ.2.2.2.2.1 (nxs T t σ.1).2.2.2.1.toNatClampNeg) (nxs T t σ.1) := by unfold ln3; rw [if_neg n10', if_pos el, e2]
          obtain ⟨g1, g2⟩ := rl_copies (u := u) (ic := σ.2.2.2.2.1) tc cl.2.2.2.2.2.2.1 (z2 rfl)
          have up : (lnS T t σ).1.2.2.2.2.1 = 0 → (tcE T t u s).2.2.2.2.1 = 0 := fun y => by
            have f4 : (ln4 T t σ.2.1 σ.2.2.2.2.1 σ.1).2.2.2.2.1 = 0 := by rw [← lnS_1]; exact y
            have f3 : (ln3 T t σ.2.1 σ.2.2.2.2.1 σ.1).2.2.2.2.1 = 0 := by unfold ln4 at f4; exact (eln_ok f4).2
            rw [e3] at f3
            by_cases q : (tcE T t u s).2.2.2.2.1 = 0
            · exact q
            · exact absurd f3 (nxt_f g1 q).2
          refine vLr_readInto_79 rfl gN ⟨fun _ => nLr_tellCopies cl.1 (by omega) gN tN (fun O pO tO nf => vLr_readInto_145 (b147 O _ _ (pc_tr pN (pc_pt pO)) tO (by rw [e3]; exact g1) (fun y => ?_))) (fun O i pO tO nf hi ei => vLr_readInto_145 (b147 _ (tcE T t u s) _ (pc_tr pN (pc_tr (pc_pt pO) (pc_si (Or.inr (by omega))))) (td_si (by omega) (by omega) (by omega) tO) (by rw [e3]; exact g1) (fun y => ?_))), fun q => absurd q.2.2 (by decide), fun q => absurd q.2 (by decide), fun q => absurd (by decide) q⟩
          · exact absurd (g2 (up y)).1 nf
          · have f4 : (ln4 T t σ.2.1 σ.2.2.2.2.1 σ.1).2.2.2.2.1 = 0 := by rw [← lnS_1]; exact y
            obtain ⟨-, i', hi', ei', er, ev⟩ := g2 (up y)
            have ii : i' = i := (ninj (by omega) (by omega)).mp (ei'.symm.trans ei)
            subst ii
            have eS : lnS T t σ = (ln4 T t σ.2.1 σ.2.2.2.2.1 σ.1, σ.2.1, σ.2.2.1, up1 σ.2.2.2.1 (ln2 T t σ.2.1 σ.1).2.2.2.1.toNatClampNeg (rc3 T t (σ.2.2.2.2.1 (ln2 T t σ.2.1 σ.1).2.2.2.1.toNatClampNeg) (ln2 T t σ.2.1 σ.1)).2.2.2.1, up1 σ.2.2.2.2.1 (ln2 T t σ.2.1 σ.1).2.2.2.1.toNatClampNeg 1, σ.2.2.2.2.2.1, σ.2.2.2.2.2.2) := by
              unfold lnS; rw [if_neg (fun q => q f4), if_neg n10', if_pos el]
            have ci : (nxs T t σ.1).2.2.2.1.toNatClampNeg = i' := by rw [er]; exact ncl (by omega)
            rw [ci] at ev
            rw [eS, e2, ci]
            have c2 := cl_pt hr pO cl
            obtain ⟨l1, l2, l3, l4, l5, l6, l7, l8⟩ := c2
            refine ⟨lr_gr l1 rfl, by rw [gi_ne (by omega)]; exact l2, fun w hw j hj => by rw [gi_ne (by omega)]; exact l3 w hw j hj, fun w hw kc => by rw [gi_ne (by omega)]; exact l4 w hw kc, fun b hb => ?_, by rw [gi_ne (by omega)]; exact l6, fun b hb => ?_, fun w hw => wk_eq (gi_ne (by omega)) (l8 w hw)⟩
            · show gi (si O (r + 140) i' (tkNv 9 (adv T t (tc1 T t u s)))) (r + 140) b = up1 σ.2.2.2.1 i' (rc3 T t (σ.2.2.2.2.1 i') (nxs T t σ.1)).2.2.2.1 b
              rw [gxs]
              unfold up1
              by_cases q : b = i'
              · rw [if_pos q, if_pos q]; exact ev
              · rw [if_neg q, if_neg q]; exact l5 b hb
            · show bt (u ||| ((1 : Int32) <<< (nI i' &&& 31))) b = true ↔ ¬ up1 σ.2.2.2.2.1 i' 1 b = 0
              rw [b_or, b_one i' (by omega) b (by omega), Bool.or_eq_true, decide_eq_true_eq]
              unfold up1
              by_cases q : b = i'
              · rw [if_pos q]
                exact ⟨fun _ => by decide, fun _ => Or.inr q⟩
              · rw [if_neg q]
                exact ⟨fun y => (l7 b hb).mp (y.resolve_right q), fun y => Or.inl ((l7 b hb).mpr y)⟩
      have kend : s.2.2.2.2.1 = 0 → (s.1 = 1 ↔ σ.1.2.2.1 = 0) := fun f => ks1 (rl.2.2 f).2.2.1
      have nv : ¬ (400 : Int32) ≤ nI v := by rw [show (400 : Int32) = nI 400 from rfl, nle (by omega) (by decide)]; omega
      refine vLr_readInto_27 rfl gN ⟨fun q => ?_, fun q => ?_, fun q => sTo_among (j := 0) tN (by decide) (vLr_readInto_75 ?_)⟩
      · refine bout N s u σ v pN tN rl lk (by omega) (stop ?_)
        rw [n5, n1] at q
        rcases q with q | q | q
        · exact absurd q nv
        · exact Or.inl (fun y => q.2 (rl.1.trans y))
        · exact Or.inr ((kend q.2.1).mp q.2.2)
      · rw [n5, n1] at q
        have := b79 q.2.1 (fun y => q.2.2.1 ((kend q.2.1).mpr y))
        rw [if_neg q.2.2.2] at this
        exact this
      · rw [n5, n1] at q
        have := b79 q.2.1 (fun y => q.2.2.1 ((kend q.2.1).mpr y))
        rw [if_pos q.2.2.2] at this
        exact this
  exact key 400 0 C _ 0 σ0 (by omega) pMC tC rC (fun _ => ⟨lC, okC⟩) pos0 eF
end EQ8
