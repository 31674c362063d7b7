/-! ===== any rule, any books: the same on both sides; differ ===== -/
section EW5
variable {A B M N O : Mm} {L P R S U D W t : Nat} {G : Nat → Nat → Int32}
theorem cnt_g {b : Int32} (sw : SW A L G W) (rows : ∀ w, w < W → ∀ k, k < 8 → wd N w k = G w k) (rt : ∀ w, w < W → RT (G w)) (rk : ∀ w, w < W → ∃ b, b < 8 ∧ wd N w 2 = nI b) (x3 : ∀ i, i < 7 → gi A R i = gi N 6543 i) (x9 : gi N 6027 9 = b) (x5 : ∀ b, b < 8 → gi A (L + 140) b = gi N 6157 b) {v : Nat} (hv : v < 32) : bt (ctg A L R b) v = true ↔ v < W ∧ ¬ cw N v = 0 := by
  obtain ⟨s1, s2, s3, s4⟩ := sw
  have nn : ∀ x : Int32, bt (x ^^^ (-1)) v = true ↔ ¬ bt x v = true := fun x => by
    rw [b_not x hv]
    cases bt x v <;> decide
  have m1 : bt (-1) v = true := by
    have : ∀ v, v < 32 → bt (-1) v = true := by decide +kernel
    exact this v hv
  have n2 : bt (if gi A R 2 = 0 then gi A L 11 ^^^ (-1) else -1) v = true ↔ ¬ (gi A R 2 = 0 ∧ bt (gi A L 11) v = true) := by
    by_cases q : gi A R 2 = 0
    · rw [if_pos q, nn]; exact ⟨fun h z => h z.2, fun h z => h ⟨q, z⟩⟩
    · rw [if_neg q, m1]; exact ⟨fun _ z => q z.1, fun _ => rfl⟩
  unfold ctg
  rw [b_and, b_and, Bool.and_eq_true, Bool.and_eq_true, n2, nn, cto_b 8 (Nat.le_refl 8) v hv, mwd_b 8 (Nat.le_refl 8) v hv, s3 v hv, s4 v hv]
  by_cases lv : v < W
  · have wd_ : ∀ k, k < 8 → wd N v k = G v k := fun k hk => rows v lv k hk
    obtain ⟨t1, t2, -⟩ := rt v lv
    obtain ⟨e, he, eb⟩ := rk v lv
    have eb' : G v 2 = nI e := by rw [← wd_ 2 (by decide)]; exact eb
    unfold cw
    rw [wd_ 0 (by decide), wd_ 1 (by decide), eb, ← x3 0 (by decide), ← x3 1 (by decide), ← x3 2 (by decide), x9, ncl (by omega), ← x5 e he]
    by_cases k5 : G v 0 = 5
    · rw [if_pos k5]
      exact ⟨fun h => absurd ⟨lv, k5⟩ h.1.2, fun h => absurd rfl h.2⟩
    · rw [if_neg k5]
      obtain ⟨d, hd, ed⟩ := t2 k5
      by_cases k3 : G v 0 = 3 ∧ gi A R 2 = 0
      · rw [if_pos k3]
        exact ⟨fun h => absurd ⟨k3.2, lv, k3.1⟩ h.2, fun h => absurd rfl h.2⟩
      · rw [if_neg k3, ed]
        have c : (((gi A R 0 >>> (nI d &&& 31)) &&& 1) = 1 ∨ (((b >>> (nI e &&& 31)) &&& 1) = 1 ∧ ¬ gi A (L + 140) e < gi A R 1)) ↔ (bt (gi A R 0) d = true ∨ (bt b e = true ∧ ¬ gi A (L + 140) e < gi A R 1)) := by rw [bit1 _ (by omega), bit1 _ (by omega)]
        have rhs : ¬ (if ((gi A R 0 >>> (nI d &&& 31)) &&& 1) = 1 ∨ (((b >>> (nI e &&& 31)) &&& 1) = 1 ∧ ¬ gi A (L + 140) e < gi A R 1) then (1 : Int32) else 0) = 0 ↔ (bt (gi A R 0) d = true ∨ (bt b e = true ∧ ¬ gi A (L + 140) e < gi A R 1)) := by
          rw [← c]
          by_cases z : ((gi A R 0 >>> (nI d &&& 31)) &&& 1) = 1 ∨ (((b >>> (nI e &&& 31)) &&& 1) = 1 ∧ ¬ gi A (L + 140) e < gi A R 1)
          · rw [if_pos z]; exact ⟨fun _ => z, fun _ => by decide⟩
          · rw [if_neg z]; exact ⟨fun y => absurd rfl y, fun y => absurd y z⟩
        rw [rhs]
        constructor
        · rintro ⟨⟨h, -⟩, -⟩
          refine ⟨lv, ?_⟩
          rcases h with ⟨d', hd', z1, z2⟩ | ⟨b', hb', z1, z2⟩
          · have := ((s1 d' hd' v hv).mp z2).2
            rw [ed, ninj (by omega) (by omega)] at this
            subst this
            exact Or.inl z1
          · have := ((s2 b' hb' v hv).mp z2).2
            rw [eb', ninj (by omega) (by omega)] at this
            subst this
            exact Or.inr z1
        · rintro ⟨-, h⟩
          refine ⟨⟨?_, fun z => k5 z.2⟩, fun z => k3 ⟨z.2.2, z.1⟩⟩
          rcases h with h | h
          · exact Or.inl ⟨d, hd, h, (s1 d hd v hv).mpr ⟨lv, ed⟩⟩
          · exact Or.inr ⟨e, he, h, (s2 e he v hv).mpr ⟨lv, eb'⟩⟩
  · constructor
    · rintro ⟨⟨h, -⟩, -⟩
      exfalso
      rcases h with ⟨d', hd', z1, z2⟩ | ⟨b', hb', z1, z2⟩
      · exact lv ((s1 d' hd' v hv).mp z2).1
      · exact lv ((s2 b' hb' v hv).mp z2).1
    · rintro ⟨h, -⟩; exact absurd h lv
/-- the class's weighing by any rule and books, beside a memory of the reference that has them -/
theorem cmp_gen {b : Int32} {R' : Nat} (i : IV M L P R S U D W t) (ex : EX M L R S D W) (ey : EY M L W G) (hR : RA R') (n1 : ∀ w, w < W → ∀ k, k < 8 → wd N w k = wd M w k) (n2 : ∀ v, v < W → gl N 6874 v = gl M 6874 v ∧ gl N 6938 v = gl M 6938 v) (n3 : gi N 6027 24 = gi M 6027 24) (n4 : ∀ k, k < 8 → gi N 6157 k = gi M 6157 k) (n5 : ∀ k, k < 7 → gi N 6543 k = gi M R' k) (n6 : gi N 6027 9 = b) (nj : JW N W) (nt : T3 (gi N 6543 3) ∧ T3 (gi N 6543 6) ∧ T5 (gi N 6543 5)) : CMP (bgn M L R' b) N L R' W G := by
  have hL' := i.1.1.2.2.1.1
  have hR' := hR
  unfold LA at hL'
  unfold RA at hR'
  have hb : ∀ o, o < 2304 → gi (bgn M L R' b) (L + o) = gi M (L + o) := fun o ho => gi_bgn _ _ _ _ (by omega)
  obtain ⟨y1, y2, ⟨sw, -, -, cy⟩, -, y5, ry, wl, rv⟩ := ey
  have rows : ∀ w, w < W → ∀ k, k < 8 → wd N w k = G w k := fun w hw k hk => (n1 w hw k hk).trans (y1 w hw k hk)
  refine ⟨fun v hv => ?_, fun d hd v hv => ?_, fun c hc v hv => ?_, fun v hv c hc => ?_, rows, wl_eq (fun a ha => gi_bgn _ _ _ _ (by omega)) wl, n3.trans y5, fun k hk => ?_, nt, nj, fun w hw => (y2 w hw).2.2, fun w hw => (y2 w hw).1⟩
  · rw [gi_bgn2]
    exact cnt_g sw rows (fun w hw => (y2 w hw).1) (fun w hw => (nj.2.2.2 w hw).1) (fun k hk => (n5 k hk).symm) n6 (fun k hk => (ex.2.2.2.2.2.1 k hk).trans (n4 k hk).symm) hv
  · rw [hb 460 (by decide)]; exact sw.1 d hd v hv
  · rw [hb 205 (by decide), hb 269 (by decide)]; exact cy c hc v hv
  · rw [(n2 v hv).1, (n2 v hv).2]; exact ry v hv c hc
  · rw [gi_bgn _ _ _ _ (by omega)]; exact (n5 k hk).symm
/-- what is held depends on the library, the rule and what counts -/
theorem hvs_eq (h : ∀ o, o < 2304 → gi B (L + o) = gi A (L + o)) (ws fw : Int32) : ∀ k, hvs B L ws fw k = hvs A L ws fw k
  | 0 => rfl
  | k + 1 => by rw [hvs, hvs, hvs_eq h ws fw k, h 590 (by decide)]
theorem stl_eq (h : ∀ o, o < 2304 → gi B (L + o) = gi A (L + o)) (hr : gi B R = gi A R) (y n fw : Int32) : stl B L R y n fw = stl A L R y n fw := by
  unfold stl; rw [hvs_eq h, hr]
theorem opn_eq (h : ∀ o, o < 2304 → gi B (L + o) = gi A (L + o)) (hr : gi B R = gi A R) (h2 : gi B 5192 2 = gi A 5192 2) (d c : Nat) : opn B L R d c = opn A L R d c := by
  unfold opn his; rw [stl_eq h hr, h 460 (by decide), h 205 (by decide), h 269 (by decide), h2]
theorem heC_eq (h : ∀ o, o < 2304 → gi B (L + o) = gi A (L + o)) (hr : gi B R = gi A R) (h2 : gi B 5192 2 = gi A 5192 2) (c : Nat) : heC B L R c = heC A L R c := by
  have l : lwI B L R c = lwI A L R c := by unfold lwI; rw [h 397 (by decide), h 333 (by decide), hr]
  rw [heC_h, heC_h, l, hr]
  exact hof_cg (fun d _ => opn_eq h hr h2 d c)
theorem ctg_eq {b : Int32} (h : ∀ o, o < 2304 → gi B (L + o) = gi A (L + o)) (hr : gi B R = gi A R) : ctg B L R b = ctg A L R b := by
  have m : ∀ k, mwd B L R k = mwd A L R k := by
    intro k
    induction k with
    | zero => rfl
    | succ k ih => rw [mwd, mwd, ih, hr, h 460 (by decide)]
  have c : ∀ k, cto B L R b k = cto A L R b k := by
    intro k
    induction k with
    | zero => exact m 8
    | succ k ih => rw [cto, cto, ih, hr, h 140 (by decide), h 524 (by decide)]
  have h0 : gi B L = gi A L := h 0 (by decide)
  unfold ctg
  rw [c 8, h0, hr]
theorem heC_bg {b : Int32} (hL : LA L) (hR : RA R) (f : CQ M O) (c : Nat) : heC (bgn O L R b) L R c = heC (bgn M L R b) L R c := by
  unfold LA at hL
  unfold RA at hR
  have h : ∀ o, o < 2304 → gi O (L + o) = gi M (L + o) := fun o ho => f.2.2 _ (by omega)
  have hr : gi O R = gi M R := f.2.2 _ (by omega)
  refine heC_eq (fun o ho => ?_) ?_ ?_ c
  · rw [gi_bgn _ _ _ _ (by omega), gi_bgn _ _ _ _ (by omega)]; exact h o ho
  · rw [gi_bgn _ _ _ _ (by omega), gi_bgn _ _ _ _ (by omega)]; exact hr
  · rw [gi_bgn2, gi_bgn2]; exact ctg_eq h hr
theorem csO_bl (A : Mm) (L R : Nat) (v : Int32) : ∀ k, k ≤ 64 → BL (csO A L R v k) (fun c => decide (csK A L R v c = v)) k
  | 0, _ => bl_0 _
  | k + 1, hk => by
    rw [csO]
    by_cases q : csK A L R v k = v
    · rw [if_pos q]; exact bl_y (csO_bl A L R v k (by omega)) (by omega) (decide_eq_true q)
    · rw [if_neg q]; exact bl_z (csO_bl A L R v k (by omega)) (decide_eq_false q)
theorem csO_y {c : Nat} (hc : c < 64) : lb (csO A L R 0 64) c = decide (heC A L R c = 1) := by
  rw [bl_e (csO_bl A L R 0 64 (Nat.le_refl _)) hc]
  show decide (csK A L R 0 c = 0) = _
  unfold csK
  rw [if_pos (by decide)]
  by_cases q : heC A L R c = 1
  · rw [if_pos q, decide_eq_true q]; rfl
  · rw [if_neg q, decide_eq_false q]
    by_cases z : heC A L R c = 0
    · rw [if_pos z]; rfl
    · rw [if_neg z]; rfl
theorem csO_n {c : Nat} (hc : c < 64) : lb (csO A L R 1 64) c = decide (heC A L R c = 0) := by
  rw [bl_e (csO_bl A L R 1 64 (Nat.le_refl _)) hc]
  show decide (csK A L R 1 c = 1) = _
  unfold csK
  rw [if_pos (by decide)]
  by_cases q : heC A L R c = 1
  · rw [if_pos q, q]; rfl
  · rw [if_neg q]
    by_cases z : heC A L R c = 0
    · rw [if_pos z, z]; rfl
    · rw [if_neg z, decide_eq_false z]; rfl
theorem l_xor (x y : Int64) (c : Nat) : lb (x ^^^ y) c = (lb x c ^^ lb y c) := by unfold lb; rw [Int64.toBitVec_xor, BitVec.getLsbD_xor]
theorem ulk {x y : Int32} (hx : x = 1 ∨ x = 0 ∨ x = -4) (hy : y = 1 ∨ y = 0 ∨ y = -4) : ((decide (x = 1) ^^ decide (y = 1)) || (decide (x = 0) ^^ decide (y = 0))) = decide (¬ y = x) := by
  rcases hx with rfl | rfl | rfl <;> rcases hy with rfl | rfl | rfl <;> decide
theorem rop_sm (s : SM W M N) (j : JW M W) (c d : Nat) : rop N W c d = rop M W c d := by unfold rop; rw [eyv_sm s j, enw_sm s j]
theorem rhe_sm (s : SM W M N) (j : JW M W) (c : Nat) : rhe N W c = rhe M W c := by
  unfold rhe
  rw [laV_sm s, s.2.2.1, hof_cg (fun d _ => rop_sm s j c d)]
theorem rhe_3 (m : CMP A N L R W G) (hW : W ≤ 24) (hh : HD N) {c : Nat} (hc : c < 64) : rhe N W c = 1 ∨ rhe N W c = 0 ∨ rhe N W c = -4 := by
  rw [← hev_eo hh hc]; exact hev_3 m hW hh hc
/-- the reference's memory with the rules swapped -/
def swm (M : Mm) : Mm := (M.1, (fun a k => if a = 6543 ∧ k < 7 then gi M 6607 k else if a = 6607 ∧ k < 7 then gi M 6543 k else gi M a k), M.2.2)
theorem gi_swm (M : Mm) (a k : Nat) : gi (swm M) a k = if a = 6543 ∧ k < 7 then gi M 6607 k else if a = 6607 ∧ k < 7 then gi M 6543 k else gi M a k := rfl
theorem sp_swm (M : Mm) : SP 7 M (swm M) := by
  refine ⟨rfl, rfl, fun a h1 h2 => ?_, fun k => ?_, fun k => ?_⟩
  · funext k
    rw [gi_swm, if_neg (fun q => h1 q.1), if_neg (fun q => h2 q.1)]
  · rw [gi_swm]
    by_cases q : k < 7
    · rw [if_pos ⟨rfl, q⟩, if_pos q]
    · rw [if_neg (fun z => q z.2), if_neg (fun z => q z.2), if_neg q]
  · rw [gi_swm, if_neg (fun z => absurd z.1 (by decide))]
    by_cases q : k < 7
    · rw [if_pos ⟨rfl, q⟩, if_pos q]
    · rw [if_neg (fun z => q z.2), if_neg q]
theorem sm_swm (f : QF W M O) (s : SP 7 O N) : SM W (swm M) N := by
  have u := sp_swm M
  have e : ∀ a, a ≠ 6543 → a ≠ 6607 → gi N a = gi O a := s.2.2.1
  have e' : ∀ a, a ≠ 6543 → a ≠ 6607 → gi (swm M) a = gi M a := u.2.2.1
  have q3 : gi O 6543 = gi M 6543 := f.2.1 6543 (by decide)
  have q7 : gi O 6607 = gi M 6607 := f.2.1 6607 (by decide)
  refine ⟨(s.1.trans f.1).trans u.1.symm, fun k hk => ?_, ?_, ?_, ?_, ?_, ?_, fun k hk => ?_, fun k hk => ?_⟩
  · rw [e 6101 (by decide) (by decide), e' 6101 (by decide) (by decide)]; exact f.2.2.1 k hk
  · funext k
    rw [s.2.2.2.1, u.2.2.2.1, q3, q7]
  · rw [e 6157 (by decide) (by decide), e' 6157 (by decide) (by decide)]; exact f.2.1 6157 (by decide)
  · rw [e 6027 (by decide) (by decide), e' 6027 (by decide) (by decide)]; exact f.2.2.2.1 0 (by decide)
  · rw [e 6027 (by decide) (by decide), e' 6027 (by decide) (by decide)]; exact f.2.2.2.1 9 (by decide)
  · rw [e 6027 (by decide) (by decide), e' 6027 (by decide) (by decide)]; exact f.2.2.2.1 24 (by decide)
  · rw [s.2.1]; exact f.2.2.2.2 6874 k (by decide) (by omega)
  · rw [s.2.1]; exact f.2.2.2.2 6938 k (by decide) (by omega)
def mDiffer (M : Mm) (W : Nat) (w : Int32) : Int32 := if isE w = true then (if w = 0 then nbp (nq (rhe (swm M) W) (rhe M W)) 64 else fsp (nq (rhe (swm M) W) (rhe M W)) 64) else -1
theorem uM_differ {w : Int32} {K : Int32 → Mm → Prop} (j : JW M W) (hh : HD M) (ho : HO M) (h : ∀ N, QF W M N → K (mDiffer M W w) N) : CI mM_differ [.ref 6027, .int w] M K := by
  refine call_of rfl (Nat.le_of_ble_eq_true rfl) rfl (vM_differ_0 (sM_inE (fun q => vM_differ_7 rfl ⟨fun q => absurd rfl q, fun _ => ?_⟩) (fun q => vM_differ_7 rfl ⟨fun _ => tM_findAll j hh (fun N f hf _ => ?_), fun q => absurd q (by decide)⟩)))
  · have := h M (qf_rf W M)
    rw [mDiffer, q, if_neg (by decide)] at this
    exact this
  have f1 : QF W M N := qf_af f
  refine vM_differ_16 rfl (kh_row (mr_w j.1 f1.1) ?_)
  have f2 := qf_tr f1 (qf_row (M := N) (n := 64) (g := gi N 7182))
  have o7 : ∀ c, c < 64 → gi (rwm N 7438 64 (gi N 7182)) 7438 c = hev (EO M W) W c := fun c hc => (if_pos ⟨rfl, hc⟩).trans (hf c hc).2.2.2
  generalize rwm N 7438 64 (gi N 7182) = O at f2 o7 ⊢
  refine vM_differ_20 rfl (sM_swap (mr_w j.1 f2.1) (fun P s => vM_differ_24 rfl ?_))
  have hP : HD P := by
    have : gi P 6543 4 = gi M 6607 4 := by rw [s.2.2.2.1, if_pos (by decide), f2.2.1 6607 (by decide)]
    unfold HD; rw [this]; exact ho
  have jP := jw_sp s (jw_sm (qf_sm f2) j)
  refine tM_findAll jP hP (fun R g hg _ => vM_differ_29 rfl ?_)
  refine sM_swap (mr_w j.1 ((g.2.1.trans s.1).trans f2.1)) (fun S t => vM_differ_33 rfl ?_)
  have f3 : QF W M S := qf_tr f2 (qf_sp s g t)
  refine sM_findChanged (mr_w j.1 f3.1) (fun N3 c1 c2 c3 c4 e35 e36 => vM_differ_38 rfl ?_)
  have H1 : ∀ c, c < 64 → gi S 7182 c = rhe (swm M) W c := fun c hc => by
    rw [t.2.2.1 7182 (by decide) (by decide), (hg c hc).2.2.2, hev_eo hP hc]
    exact rhe_sm (sm_swm f2 s) (jw_sp (sp_swm M) j) c
  have H2 : ∀ c, c < 64 → gi S 7438 c = rhe M W c := fun c hc => by
    rw [t.2.2.1 7438 (by decide) (by decide), g.1 7438 (by decide) (by decide) (by decide) (by decide), s.2.2.1 7438 (by decide) (by decide), o7 c hc, hev_eo hh hc]
  have := h N3 (qf_tr f3 (qf_ch c1 c2 c3 c4))
  have cg : ∀ c, c < 64 → nq (gi S 7182) (gi S 7438) c = nq (rhe (swm M) W) (rhe M W) c := fun c hc => nq_cg (H1 c hc) (H2 c hc)
  rw [mDiffer, yE q, if_pos (show true = true from rfl), ← nbp_cg 64 cg, ← fsp_cg 64 (Nat.le_refl _) cg, ← cnt_p, ← fst_p] at this
  rw [e35, e36]
  exact this
theorem pz_differ {w : Int32} {Z : Int32 → Int32 → Mm → Prop} (i0 : INY M) (h : ∀ r s N, INY N → r = s → Z r s N) : CI mC_differ [.ref 10, .int w] M (fun r N => CI mM_differ [.ref 6027, .int w] N (fun s O => Z r s O)) := by
  obtain ⟨L, P, R, S, U, D, W, t, i, ez⟩ := i0
  have c := i.1.1
  have hW : W ≤ 24 := i.2.1.2.1
  obtain ⟨G, ey⟩ := ez.2
  have hS : RA S := c.2.2.1.2.2.2.1
  have cB := cx_cq (cq_bgn M L R (gi M 10 9)) c
  have key : ∀ N r, CQ M N → r = mDiffer N W w → CI mM_differ [.ref 6027, .int w] N (fun s O => Z r s O) := fun N r f e => uM_differ (iv_cq f i).2.1.1 (iv_cq f i).2.1.2.2.1 (iv_cq f i).2.1.2.2.2.1 (fun O g => h _ _ O ⟨L, P, R, S, U, D, W, t, iv_qf g (iv_cq f i), ez_qf g (ez_cq f ez)⟩ e)
  refine call_of rfl (Nat.le_of_ble_eq_true rfl) rfl (vC_differ_0 (sC_isEither (fun q1 q2 => vC_differ_4 rfl ⟨fun q => absurd rfl q, fun _ => key M _ (cq_rf M) ?_⟩) (fun ew => vC_differ_4 rfl ⟨fun _ => lC_weighNow c (vC_differ_13 rfl (cx11 cB) (eWe_casesOf (cxw c _) (cxL c) (cxR c) (fun N qN => ?_))), fun q => absurd q (by decide)⟩)))
  · rw [mDiffer, nE q1 q2, if_neg (by decide)]
  have cN := cx_cq (cqb qN) c
  refine vC_differ_21 rfl (cx11 cN) (eWe_casesOf (wh_gr (cxw c _) qN.1) (cxL c) (cxR c) (fun O qO => ?_))
  have q2 := cqb (wq_tr qN qO)
  have cO := cx_cq q2 c
  refine vC_differ_30 rfl (cx11 cO) (cx4 cO) cO.2.1.2.2.2.1 (sWe_begin (cxlr cO) (cxL c) hS ?_)
  have q3 := cq_tr q2 (cq_bgn O L S (gi O 10 9))
  have w3 : WH (bgn O L S (gi O 10 9)) L S := wh_bgn _ (cxlr cO) (cxL c) hS (cxg cO (5192, 3, 5261) (by decide))
  refine vC_differ_51 rfl (cx11 (cx_cq q3 c)) (eWe_casesOf w3 (cxL c) hS (fun V qV => ?_))
  have q4 := cq_tr q3 (cq_wq qV)
  refine vC_differ_60 rfl (cx11 (cx_cq q4 c)) (eWe_casesOf (wh_gr w3 qV.1) (cxL c) hS (fun Q qQ => vC_differ_71 (eC_manyOrLeast (vC_differ_81 ?_))))
  have q5 := cq_tr q4 (cq_wq qQ)
  refine key Q _ q5 ?_
  have iQ := iv_cq q5 i
  have g : ∀ a, ¬ (a = 5192 ∨ a = 5261 ∨ a = 5392) → gi Q a = gi M a := q5.2.2
  have o9 : gi O 10 9 = gi M 10 9 := by rw [q2.2.2 10 (by decide)]
  have m1 := cmp_of i ez.1 ey q5
  have u := sp_swm Q
  have hdS : HD (swm Q) := by
    have : gi (swm Q) 6543 4 = gi Q 6607 4 := by rw [u.2.2.2.1, if_pos (by decide)]
    unfold HD; rw [this]; exact iQ.2.1.2.2.2.1
  have jS : JW (swm Q) W := jw_sp u iQ.2.1.1
  have m2 : CMP (bgn M L S (gi M 10 9)) (swm Q) L S W G := by
    refine cmp_gen i ez.1 ey hS (fun w _ k _ => ?_) (fun v _ => ?_) ?_ (fun k _ => ?_) (fun k hk => ?_) ?_ jS ?_
    · unfold wd; rw [u.2.2.1 6101 (by decide) (by decide), g 6101 (by decide)]
    · rw [u.2.1, q5.1]; exact ⟨rfl, rfl⟩
    · rw [u.2.2.1 6027 (by decide) (by decide), g 6027 (by decide)]
    · rw [u.2.2.1 6157 (by decide) (by decide), g 6157 (by decide)]
    · rw [u.2.2.2.1, if_pos hk, g 6607 (by decide)]; exact (ez.1.2.2.2.2.1 k hk).symm
    · rw [u.2.2.1 6027 (by decide) (by decide), g 6027 (by decide)]; exact ez.1.2.1.symm
    · rw [u.2.2.2.1, u.2.2.2.1, u.2.2.2.1, if_pos (by decide), if_pos (by decide), if_pos (by decide), g 6607 (by decide)]
      exact ey.2.2.2.2.2.2.2.2
  have e : ∀ k, k < 64 → lb ((csO (bgn M L R (gi M 10 9)) L R 0 64 ^^^ csO (bgn O L S (gi O 10 9)) L S 0 64) ||| (csO N L R 1 64 ^^^ csO V L S 1 64)) k = nq (rhe (swm Q) W) (rhe Q W) k := fun k hk => by
    rw [l_or, l_xor, l_xor, csO_y hk, csO_y hk, csO_n hk, csO_n hk, heC_wq qN (cxL c) (cxR c), heC_wq qV (cxL c) hS, o9, heC_bg (cxL c) hS q2, heC_e m1 hW hk, heC_e m2 hW hk]
    exact ulk (rhe_3 m1 hW iQ.2.1.2.2.1 hk) (rhe_3 m2 hW hdS hk)
  rw [mDiffer, yE ew, if_pos (show true = true from rfl), nbp_cg 64 e, fsp_cg 64 (Nat.le_refl _) e]
end EW5
