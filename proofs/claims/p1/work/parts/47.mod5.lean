/-- nothing holds, and the game's rows are 0 -/
def GX (M : Mm) : Prop := XM M ∧ (∀ j, j < 256 → gi M 7582 j = 0) ∧ ∀ j, j < 64 → gi M 7502 j = 0
theorem y_g {M : Mm} (y : YM M) : GX M := ⟨y_x y, fun _ hj => ya y 256 (by decide +kernel) hj, fun _ hj => ya y 64 (by decide +kernel) hj⟩
theorem gx_fr {M N : Mm} (g : GX M) (f : FR M N) : GX N := ⟨xm_fr g.1 f, by rw [f.1 7582 (by decide) (by decide) (by decide) (by decide)]; exact g.2.1, by rw [f.1 7502 (by decide) (by decide) (by decide) (by decide)]; exact g.2.2⟩
theorem xm_ft {M N : Mm} (z : XM M) (f : FT M N) : XM N := by
  refine ⟨mr_w z.1 f.2.2.2, fun q hq j h1 h2 => ?_, fun a j => by rw [f.2.2.1]; exact z.2.2 a j⟩
  have hx : ∀ q ∈ xl, q.1 ≠ 6027 ∨ q.2.2.1 ≤ 39 := by decide +kernel
  by_cases q0 : q.1 = 6027
  · rcases hx q hq with r | r
    · exact absurd q0 r
    · have := z.2.1 q hq j h1 h2
      rw [q0] at this ⊢
      rw [f.2.1 j (by omega)]; exact this
  · rw [f.1 q.1 q0]; exact z.2.1 q hq j h1 h2
theorem gx_ft {M N : Mm} (g : GX M) (f : FT M N) : GX N := ⟨xm_ft g.1 f, by rw [f.1 7582 (by decide)]; exact g.2.1, by rw [f.1 7502 (by decide)]; exact g.2.2⟩
theorem gx_s0 {M : Mm} {a j : Nat} (g : GX M) (h : rno xl a = true) : GX (si M a j 0) := by
  refine ⟨xm_sc g.1 h, fun k hk => ?_, fun k hk => ?_⟩
  · rw [gi_si]; split
    · rfl
    · exact g.2.1 k hk
  · rw [gi_si]; split
    · rfl
    · exact g.2.2 k hk
theorem gx_br {M : Mm} {v : Int32} (g : GX M) : GX (si M 6027 9 v) := ⟨xm_si g.1 (by rfl), fun k hk => by rw [giR _ _ _ _ _ _ (by decide)]; exact g.2.1 k hk, fun k hk => by rw [giR _ _ _ _ _ _ (by decide)]; exact g.2.2 k hk⟩
theorem gidx : ∀ s, s < 64 → ∀ w, w < 2 → (¬ ((4 * nI s + 2 * nI w) + 1 < 0 ∨ 256 ≤ ((4 * nI s + 2 * nI w) + 1).toNatClampNeg)) ∧ (¬ (4 * nI s + 2 * nI w < 0 ∨ 256 ≤ (4 * nI s + 2 * nI w).toNatClampNeg)) ∧ (¬ ((4 * nI s + 2 * (1 - nI w)) + 1 < 0 ∨ 256 ≤ ((4 * nI s + 2 * (1 - nI w)) + 1).toNatClampNeg)) := by decide +kernel
theorem vcl {x : Int32} {n : Nat} (h : ¬ (x < 0 ∨ n ≤ x.toNatClampNeg)) : x.toNatClampNeg < n := by
  by_cases q : x.toNatClampNeg < n
  · exact q
  · exact absurd (Or.inr (Nat.le_of_not_lt q)) h
theorem xM_findGame {M : Mm} {c : Nat} {K : Mm → Prop} (g : GX M) (hc : c < 64) (h : ∀ N, GX N → K N) : CV mM_findGame [.ref 6027, .int (nI c)] M K := by
  refine call_of rfl (Nat.le_of_ble_eq_true rfl) rfl (vM_findGame_0 rfl ?_)
  generalize gi M 6027 9 = br
  have t2 : ∀ N, GX N → X mM_findGame 70 [(0, .ref 6027), (3, .int 63)] [] N (mC mM_findGame, mS mM_findGame) (QV K) := by
    have key := lp 64 (P := fun i => ∀ N, GX N → X mM_findGame 70 [(0, .ref 6027), (3, .int (dn i))] [] N (mC mM_findGame, mS mM_findGame) (QV K)) (fun i hi ih N g => ?_) (fun N g => ?_)
    · exact key
    · obtain ⟨e1, e2⟩ := dn1 i hi
      have hs : 63 - i < 64 := by omega
      refine vM_findGame_70 ⟨fun q => absurd q (by rw [e1]; exact n0 _ (by omega)), fun _ => ?_⟩
      rw [e1]
      have k3 : ∀ N, GX N → X mM_findGame 136 [(0, .ref 6027), (3, .int (nI (63 - i))), (4, .int 0)] [] N (mC mM_findGame, mS mM_findGame) (QV K) := by
        have key := lp 2 (P := fun w => ∀ N, GX N → X mM_findGame 136 [(0, .ref 6027), (3, .int (nI (63 - i))), (4, .int (nI w))] [] N (mC mM_findGame, mS mM_findGame) (QV K)) (fun w hw ih2 N g => ?_) (fun N g => ?_)
        · exact key
        · obtain ⟨g1, g2, g3⟩ := gidx (63 - i) hs w hw
          have nq := nge (c := 2) (i := w) (n := 2) rfl (by decide) hw
          have go : ∀ N, GX N → X mM_findGame 194 [(0, .ref 6027), (3, .int (nI (63 - i))), (4, .int (nI w))] [.int 0, .int (4 * nI (63 - i) + 2 * nI w), .ref 7582] N (mC mM_findGame, mS mM_findGame) (QV K) := by
            intro N g
            refine vM_findGame_194 rfl ⟨g2, ?_⟩
            rw [nI_s]; exact ih2 _ (gx_s0 g (by decide +kernel))
          refine vM_findGame_136 rfl (mr38 g.1.1) (mr37 g.1.1) ⟨fun _ => g3, fun q => absurd q nq, fun _ => ?_, fun _ => ?_⟩
          · rw [g.2.1 _ (vcl g3)]
            exact sM_bestTurn g.1.1 g.2.1 hs hw (fun N f _ => go N (gx_ft g f))
          · rw [g.2.2 63 (by decide)]; exact go N g
        · refine vM_findGame_136 rfl (mr38 g.1.1) (mr37 g.1.1) ⟨fun q => absurd (nself rfl) q.1, fun _ => ?_, fun q => absurd (nself rfl) q.1, fun q => absurd (nself rfl) q.1⟩
          rw [← e1, e2]; exact ih N g
      have key := lp 2 (P := fun w => ∀ N, GX N → X mM_findGame 77 [(0, .ref 6027), (3, .int (nI (63 - i))), (4, .int (nI w))] [] N (mC mM_findGame, mS mM_findGame) (QV K)) (fun w hw ih2 N g => ?_) (fun N g => ?_)
      · exact key N g
      · obtain ⟨g1, g2, g3⟩ := gidx (63 - i) hs w hw
        have nq := nge (c := 2) (i := w) (n := 2) rfl (by decide) hw
        have go : ∀ N, GX N → X mM_findGame 126 [(0, .ref 6027), (3, .int (nI (63 - i))), (4, .int (nI w))] [.int 0, .int ((4 * nI (63 - i) + 2 * nI w) + 1), .ref 7582] N (mC mM_findGame, mS mM_findGame) (QV K) := by
          intro N g
          refine vM_findGame_126 rfl ⟨g1, ?_⟩
          rw [nI_s]; exact ih2 _ (gx_s0 g (by decide +kernel))
        refine vM_findGame_77 rfl (mr38 g.1.1) (mr37 g.1.1) ⟨fun _ => vin hs (by decide), fun q => absurd q nq, fun _ => ?_, fun _ => ?_⟩
        · rw [ncl (by omega), g.2.2 _ hs]
          exact sM_bestTurn g.1.1 g.2.1 hs hw (fun N f _ => go N (gx_ft g f))
        · rw [g.2.2 63 (by decide)]; exact go N g
      · exact vM_findGame_77 rfl (mr38 g.1.1) (mr37 g.1.1) ⟨fun q => absurd (nself rfl) q.1, fun _ => k3 N g, fun q => absurd (nself rfl) q.1, fun q => absurd (nself rfl) q.1⟩
    · exact vM_findGame_70 ⟨fun _ => h N g, fun q => absurd (by decide +kernel) q⟩
  have key := lp 64 (P := fun s => ∀ N, GX N → X mM_findGame 7 [(0, .ref 6027), (1, .int (nI c)), (2, .int br), (3, .int (nI s))] [] N (mC mM_findGame, mS mM_findGame) (QV K)) (fun s hs ih N g => ?_) (fun N g => ?_)
  · exact key M g
  · refine vM_findGame_7 rfl ⟨fun q => absurd q (nge rfl (by decide) hs), fun _ => xM_findAll (gx_br g).1 (fun N f hh => ?_)⟩
    have g2 := gx_fr (gx_br g) f
    refine vM_findGame_22 rfl (mr37 hh.1.1) (mr30 hh.1.1) ⟨vin hc (by decide), fun _ => vin hc (by decide), vin hs (by decide), ?_⟩
    rw [ncl (show c < 2 ^ 31 by omega), (hh.2 c hc).1, if_neg (by decide), if_neg (by decide), nI_s]
    exact ih _ (gx_s0 g2 (by decide +kernel))
  · exact vM_findGame_7 rfl ⟨fun _ => t2 _ (gx_br g), fun q => absurd (nself rfl) q⟩
section MOD5
variable {M : Mm}
theorem yM_game {c a w : Int32} {K : Int32 → Mm → Prop} (y : YM M) (h : ∀ N, K (fGame c a w) N) : CI mM_game [.ref 6027, .int c, .int a, .int w] M K := by
  refine call_of rfl (Nat.le_of_ble_eq_true rfl) rfl (vM_game_0 (sM_isCase (fun q => vM_game_4 ⟨fun _ => ?_, fun q => absurd rfl q⟩) (fun i hi e => vM_game_4 ⟨fun q => absurd q (by decide), fun _ => sM_inE (fun q => vM_game_14 ⟨fun _ => ?_, fun q => absurd rfl q⟩) (fun qa => vM_game_14 ⟨fun q => absurd q (by decide), fun _ => sM_inE (fun q => vM_game_24 rfl ⟨fun q => absurd rfl q, fun _ => ?_⟩) (fun qw => vM_game_24 rfl ⟨fun _ => ?_, fun q => absurd q (by decide)⟩)⟩)⟩)))
  · have hh := h M; rwa [fGame, q, Bool.false_and, if_neg (by decide)] at hh
  · have hh := h M; rwa [fGame, q, Bool.false_and, Bool.and_false, if_neg (by decide)] at hh
  · have hh := h M; rwa [fGame, q, Bool.and_false, Bool.and_false, if_neg (by decide)] at hh
  · subst e
    rw [fGame, yC hi, yE qa, yE qw, if_pos (by decide)] at h
    refine xM_findGame (y_g y) hi (fun N g => ?_)
    obtain ⟨x, hx, rfl⟩ : ∃ x, x < 2 ∧ a = nI x := by
      rcases qa with rfl | rfl
      · exact ⟨0, by decide, rfl⟩
      · exact ⟨1, by decide, rfl⟩
    have hin : ∀ x, x < 2 → ¬ ((2 * (1 - nI x)) + 1 < 0 ∨ 256 ≤ ((2 * (1 - nI x)) + 1).toNatClampNeg) := by decide +kernel
    refine vM_game_34 rfl (mr38 g.1.1) ⟨hin x hx, ?_⟩
    rw [g.2.1 _ (vcl (hin x hx))]
    refine sM_bestTurn (s := 0) g.1.1 g.2.1 (by decide) hx (fun N f e0 => vM_game_52 rfl ?_)
    rw [e0 rfl]
    have h2 := h N
    rcases qw with rfl | rfl <;> exact h2
theorem yM_keep {K : Int32 → Mm → Prop} (y : YM M) (h : ∀ N, K 1 N) : CI mM_keep [.ref 6027] M K := by
  refine call_of rfl (Nat.le_of_ble_eq_true rfl) rfl (vM_keep_0 ?_)
  have key := lp 7 (P := fun i => ∀ N, MR N → X mM_keep 2 [(0, .ref 6027), (1, .int (nI i))] [] N (mC mM_keep, mS mM_keep) (QI K)) (fun i hi ih N hm => ?_) (fun N hm => ?_)
  · exact key M y.1
  · refine vM_keep_2 rfl (mr19 hm) (mr18 hm) ⟨fun _ => vin hi (by decide), fun q => absurd q (nge rfl (by decide) hi), fun _ => ⟨vin hi (by decide), ?_⟩⟩
    rw [nI_s]; exact ih _ hm
  · exact vM_keep_2 rfl (mr19 hm) (mr18 hm) ⟨fun q => absurd (nself rfl) q, fun _ => h N, fun q => absurd (nself rfl) q⟩
theorem xM_swap {K : Int32 → Mm → Prop} (z : XM M) (h : K 1 M) : CI mM_swap [.ref 6027] M K := by
  refine call_of rfl (Nat.le_of_ble_eq_true rfl) rfl (vM_swap_0 ?_)
  have key := lp 7 (P := fun i => X mM_swap 2 [(0, .ref 6027), (1, .int (nI i))] [] M (mC mM_swap, mS mM_swap) (QI K)) (fun i hi ih => ?_) ?_
  · exact key
  · have r1 : ∀ j, j < 7 → rin xl 6543 j (dv j) = true := by decide +kernel
    have r2 : ∀ j, j < 7 → rin xl 6607 j (dv j) = true := by decide +kernel
    have e1 := xf z (r1 i hi)
    have e2 := xf z (r2 i hi)
    refine vM_swap_2 rfl (mr19 z.1) (mr18 z.1) ⟨fun _ => vin hi (by decide), fun q => absurd q (nge rfl (by decide) hi), fun _ => ⟨vin hi (by decide), vin hi (by decide), vin hi (by decide), ?_⟩⟩
    rw [ncl (by omega), e1, e2, si_same M 6607 i _ e2, si_same M 6543 i _ e1, nI_s]; exact ih
  · exact vM_swap_2 rfl (mr19 z.1) (mr18 z.1) ⟨fun q => absurd (nself rfl) q, fun _ => h, fun q => absurd (nself rfl) q⟩
theorem yM_differ {w : Int32} {K : Int32 → Mm → Prop} (y : YM M) (h : ∀ N, K (fDiffer w) N) : CI mM_differ [.ref 6027, .int w] M K := by
  refine call_of rfl (Nat.le_of_ble_eq_true rfl) rfl (vM_differ_0 (sM_inE (fun q => vM_differ_7 rfl ⟨fun q => absurd rfl q, fun _ => ?_⟩) (fun q => vM_differ_7 rfl ⟨fun _ => xM_findAll (y_x y) (fun N f hh => vM_differ_16 rfl (kh_row hh.1.1 ?_)), fun q => absurd q (by decide)⟩)))
  · have hh := h M; rwa [fDiffer, q, if_neg (by decide)] at hh
  · have z := xm_kh hh.1 (gi N 7182)
    have hw : ∀ c, c < 64 → gi (rwm N 7438 64 (gi N 7182)) 7438 c = -4 := fun c hc => by
      rw [gi_rwm, if_pos ⟨rfl, hc⟩]; exact (hh.2 c hc).1
    generalize rwm N 7438 64 (gi N 7182) = N1 at z hw
    refine vM_differ_20 rfl (xM_swap z (vM_differ_24 rfl (xM_findAll z (fun N2 f2 h2 => vM_differ_29 rfl (xM_swap h2.1 (vM_differ_33 rfl (sM_findChanged h2.1.1 (fun N3 _ _ _ _ e5 e6 => vM_differ_38 rfl ?_))))))))
    have c0 := cnt_same (H := gi N2 7182) (W := gi N2 7438) (fun c hc => by
      rw [(h2.2 c hc).1, f2.1 7438 (by decide) (by decide) (by decide) (by decide), hw c hc]) 64 (by decide)
    rw [e5, e6, c0.1, c0.2]
    have := h N3
    rwa [fDiffer, yE q, if_pos rfl, fML] at this
theorem yM_brief {w : Int32} {K : Int32 → Mm → Prop} (y : YM M) (h : ∀ N, K (fBrief w) N) : CI mM_brief [.ref 6027, .int w] M K := by
  refine call_of rfl (Nat.le_of_ble_eq_true rfl) rfl (vM_brief_0 (sM_inE (fun q => vM_brief_7 rfl ⟨fun q => absurd rfl q, fun _ => ?_⟩) (fun q => vM_brief_7 rfl ⟨fun _ => xM_findAll (y_x y) (fun N f hh => vM_brief_16 ?_), fun q => absurd q (by decide)⟩)))
  · have hh := h M; rwa [fBrief, q, if_neg (by decide)] at hh
  · have h2 := h N
    rw [fBrief, yE q, if_pos rfl] at h2
    have c0 : ∀ s, s < 64 → ¬ co (nI s) 32 < 0 := by decide +kernel
    have rest : X mM_brief 21 [(0, .ref 6027), (1, .int w), (2, .int 0), (3, .int (nI (0 + 1)))] [] N (mC mM_brief, mS mM_brief) (QI K) := by
      have key := lp 62 (P := fun s => X mM_brief 21 [(0, .ref 6027), (1, .int w), (2, .int 0), (3, .int (nI (s + 1)))] [] N (mC mM_brief, mS mM_brief) (QI K)) (fun s hs ih => ?_) ?_
      · exact key
      · have nq := nge (c := 63) (i := s + 1) (n := 63) rfl (by decide) (by omega)
        have l0 : (0 : Int32) ≤ nI (s + 1) := Int32.zero_le_ofNat_of_lt (by omega)
        refine vM_brief_21 ⟨fun q => absurd q.1 nq, fun q => absurd q.1 nq, fun _ => sM_countOf (vM_brief_31 (sM_countOf (vM_brief_35 ⟨fun q => ?_, fun _ => sM_countOf (vM_brief_42 (sM_countOf (vM_brief_46 ⟨fun _ => vM_brief_59 (vM_brief_64 ⟨fun _ => ?_, fun q => absurd rfl q.2⟩), fun q => absurd l0 q.2⟩)))⟩)))⟩
        · rw [show co 0 32 = 0 from by decide +kernel] at q
          exact absurd q (c0 (s + 1) (by omega))
        · rw [if_pos rfl, nI_s]; exact ih
      · refine vM_brief_21 ⟨fun _ => h2, fun _ => sM_countOf (vM_brief_191 ?_), fun q => absurd (nself (n := 63) rfl) q⟩
        rw [show co 0 32 = 0 from by decide +kernel]; exact h2
    have loop : X mM_brief 64 [(0, .ref 6027), (1, .int w), (2, .int 63), (3, .int 0), (4, .int 1), (5, .int 0)] [] N (mC mM_brief, mS mM_brief) (QI K) := by
      have key := lp 64 (P := fun c => X mM_brief 64 [(0, .ref 6027), (1, .int w), (2, .int 63), (3, .int 0), (4, .int 1), (5, .int (nI c))] [] N (mC mM_brief, mS mM_brief) (QI K)) (fun c hc ih => ?_) ?_
      · exact key
      · have nq := nge (c := 64) (i := c) (n := 64) rfl (by decide) hc
        refine vM_brief_64 ⟨fun q => ?_, fun _ => ?_⟩
        · rcases q with q | q
          · exact absurd q nq
          · exact absurd q.2 (by decide)
        · have hd : gi N 7182 (nI c).toNatClampNeg = -4 := by rw [ncl (by omega)]; exact (hh.2 c hc).1
          have key2 := lp c (P := fun e => X mM_brief 79 [(0, .ref 6027), (1, .int w), (2, .int 63), (3, .int 0), (4, .int 1), (5, .int (nI c)), (6, .int (nI e))] [] N (mC mM_brief, mS mM_brief) (QI K)) (fun e he ih2 => ?_) ?_
          · exact key2
          · have ne : ¬ nI c ≤ nI e := by rw [nle (by omega) (by omega)]; omega
            refine vM_brief_79 rfl (mr30 hh.1.1) ⟨fun _ => vin hc (by decide), fun q => absurd hd q.2.2.2, fun q => absurd hd q.2.2.2.1, fun q => absurd hd q.2.2.2.1, fun q => absurd q ne, fun _ => vM_brief_152 ?_, fun q => absurd hd q.2.2.2.1, fun q => absurd hd q.2.2.2.1⟩
            rw [nI_s]; exact ih2
          · refine vM_brief_79 rfl (mr30 hh.1.1) ⟨fun q => absurd (nself rfl) q.1, fun q => absurd (nself rfl) q.1, fun q => absurd (nself rfl) q.1, fun q => absurd (nself rfl) q.1, fun _ => ?_, fun q => ?_, fun q => absurd (nself rfl) q.1, fun q => absurd (nself rfl) q.1⟩
            · rw [nI_s]; exact ih
            · rcases q with q | q | q | q <;> exact absurd (nself rfl) q.1
      · refine vM_brief_64 ⟨fun _ => ?_, fun q => absurd (nself rfl) q.1⟩
        rw [if_neg (by decide)]; exact rest
    refine vM_brief_21 ⟨fun q => absurd q.1 (by decide), fun q => absurd q.1 (by decide), fun _ => sM_countOf (vM_brief_31 (sM_countOf (vM_brief_35 ⟨fun _ => vM_brief_54 (vM_brief_59 loop), fun q => absurd (by decide +kernel) q⟩)))⟩
theorem sM_isSheet {k l : Int32} {K : Int32 → Mm → Prop} (h1 : (isS k && isL l) = false → K 0 M) (h2 : ∀ i, i < 4 → k = nI i → ¬ l < 0 → ¬ 2 < l → K 1 M) : CI mM_isSheet [.int k, .int l] M K := by
  refine call_of rfl (Nat.le_of_ble_eq_true rfl) rfl (vM_isSheet_0 (sM_in (l := 0) (m := 3) rfl rfl (fun q => vM_isSheet_9 ⟨fun _ => h1 ?_, fun q => absurd rfl q⟩) (fun q1 q2 => vM_isSheet_9 ⟨fun q => absurd q (by decide), fun _ => sM_in (l := 0) (m := 2) rfl rfl (fun q => vM_isSheet_21 ⟨fun _ => h1 ?_, fun q => absurd rfl q⟩) (fun p1 p2 => vM_isSheet_21 ⟨fun q => absurd q (by decide), fun _ => ?_⟩)⟩)))
  · rw [nS (q.imp id (sgt (by decide)).mp), Bool.false_and]
  · rw [nL q, Bool.and_false]
  · obtain ⟨i, hi, e⟩ := rngL (c := 3) (n := 3) rfl (by decide) q1 q2
    exact h2 i hi e p1 p2
theorem yM_sheet {k l n : Int32} {K : Int32 → Mm → Prop} (y : YM M) (h : ∀ N, K (fSheet k l n) N) : CI mM_sheet [.ref 6027, .int k, .int l, .int n] M K := by
  refine call_of rfl (Nat.le_of_ble_eq_true rfl) rfl (vM_sheet_0 (sM_isSheet (fun q => ?_) (fun i hi e p1 p2 => ?_)))
  · refine vM_sheet_5 rfl (mr40 y.1) (mr41 y.1) ⟨fun _ => ?_, fun q => absurd rfl q.1, fun q => absurd rfl q.1⟩
    have hh := h M
    rwa [fSheet, ← Bool.and_assoc, q, Bool.false_and, if_neg (by decide)] at hh
  · subst e
    refine vM_sheet_5 rfl (mr40 y.1) (mr41 y.1) ⟨fun q => ?_, fun q => ⟨vin hi (by decide), vin hi (by decide), ?_⟩, fun q => ?_⟩
    · have hh := h M
      have ed : decide (n ≤ 40) = false := decide_eq_false (fun p => by
        rcases q with q | q
        · exact absurd q (by decide)
        · exact q.2 p)
      rwa [fSheet, ed, Bool.and_false, Bool.and_false, if_neg (by decide)] at hh
    · rw [fSheet, yS hi, yL p1 p2, show decide (n ≤ 40) = true from decide_eq_true q.2.1, if_pos (by decide), if_pos q.2.2] at h
      have ix : ∀ i, i < 4 → ∀ j, j < 40 → ¬ ((40 * nI i) + nI j < 0 ∨ 160 ≤ ((40 * nI i) + nI j).toNatClampNeg) := by decide +kernel
      have key := lp 40 (P := fun j => ∀ N, MR N → X mM_sheet 40 [(0, .ref 6027), (1, .int (nI i)), (4, .int (nI j))] [] N (mC mM_sheet, mS mM_sheet) (QI K)) (fun j hj ih N hm => ?_) (fun N hm => ?_)
      · exact key _ y.1
      · refine vM_sheet_40 rfl (mr42 hm) ⟨fun q => absurd q (nge rfl (by decide) hj), fun _ => ⟨ix i hi j hj, ?_⟩⟩
        rw [nI_s]; exact ih _ hm
      · exact vM_sheet_40 rfl (mr42 hm) ⟨fun _ => h N, fun q => absurd (nself rfl) q⟩
    · rw [fSheet, yS hi, yL p1 p2, show decide (n ≤ 40) = true from decide_eq_true q.2.1, if_pos (by decide), if_neg q.2.2] at h
      exact h M
theorem yM_lay {k i v : Int32} {K : Int32 → Mm → Prop} (y : YM M) (h : ∀ N, K (fLay k) N) : CI mM_lay [.ref 6027, .int k, .int i, .int v] M K := by
  have hh := h M
  refine call_of rfl (Nat.le_of_ble_eq_true rfl) rfl (vM_lay_0 (sM_isSheet (fun q => ?_) (fun j hj e p1 p2 => ?_)))
  · refine vM_lay_5 rfl (mr40 y.1) (mr41 y.1) ⟨fun q => absurd rfl q, fun q => absurd rfl q.1, fun q => absurd rfl q.1, fun q => absurd rfl q.1, fun _ => ?_⟩
    have : isS k = false := by
      rw [show isL 0 = true from by decide, Bool.and_true] at q; exact q
    rwa [fLay, this, if_neg (by decide)] at hh
  · subst e
    have e2 : gi M 7644 (nI j).toNatClampNeg = -4 := by rw [ncl (by omega)]; exact ya y 4 (by decide +kernel) hj
    refine vM_lay_5 rfl (mr40 y.1) (mr41 y.1) ⟨fun _ => vin hj (by decide), fun q => absurd e2 q.2, fun q => absurd e2 q.2, fun _ => ?_, fun q => absurd q (by decide)⟩
    rwa [fLay, yS hj, if_pos rfl] at hh
theorem yM_read {k l f n w : Int32} {K : Int32 → Mm → Prop} (y : YM M) (h : ∀ N, K (fRead k l n w) N) : CI mM_read [.ref 6027, .int k, .int l, .int f, .int n, .int w] M K := by
  have hh := h M
  refine call_of rfl (Nat.le_of_ble_eq_true rfl) rfl (vM_read_0 (sM_isSheet (fun q => vM_read_5 ⟨fun _ => ?_, fun q => absurd rfl q⟩) (fun j hj e p1 p2 => vM_read_5 ⟨fun q => absurd q (by decide), fun _ => sM_in (l := 0) (m := 40) rfl rfl (fun q => vM_read_18 ⟨fun _ => ?_, fun q => absurd rfl q⟩) (fun n1 n2 => vM_read_18 ⟨fun q => absurd q (by decide), fun _ => sM_in (l := 0) (m := 2) rfl rfl (fun q => vM_read_31 rfl (mr40 y.1) ⟨fun q => absurd rfl q, fun q => absurd rfl q.1, fun q => absurd rfl q.1, fun q => absurd rfl q.1, fun q => absurd rfl q.1, fun _ => ?_⟩) (fun w1 w2 => ?_)⟩)⟩)))
  · rwa [fRead, ← Bool.and_assoc, q, Bool.false_and, if_neg (by decide)] at hh
  · rwa [fRead, show decide (¬ n < 0 ∧ ¬ 40 < n ∧ ¬ w < 0 ∧ w ≤ 2) = false from decide_eq_false (fun p => q.elim p.1 p.2.1), Bool.and_false, Bool.and_false, if_neg (by decide)] at hh
  · rwa [fRead, show decide (¬ n < 0 ∧ ¬ 40 < n ∧ ¬ w < 0 ∧ w ≤ 2) = false from decide_eq_false (fun p => q.elim p.2.2.1 (fun q => absurd p.2.2.2 (Int32.not_le.mpr q))), Bool.and_false, Bool.and_false, if_neg (by decide)] at hh
  · subst e
    have e2 : gi M 7644 (nI j).toNatClampNeg = -4 := by rw [ncl (by omega)]; exact ya y 4 (by decide +kernel) hj
    have ne : ¬ gi M 7644 (nI j).toNatClampNeg = l := by
      rw [e2]; rintro rfl; exact p1 (by decide)
    refine vM_read_31 rfl (mr40 y.1) ⟨fun _ => vin hj (by decide), fun _ => vin hj (by decide), fun q => absurd q.2 ne, fun q => absurd e2 q.2.2, fun _ => ?_, fun q => absurd q (by decide)⟩
    rwa [fRead, yS hj, yL p1 p2, show decide (¬ n < 0 ∧ ¬ 40 < n ∧ ¬ w < 0 ∧ w ≤ 2) = true from decide_eq_true ⟨n1, n2, w1, Int32.not_lt.mp w2⟩, if_pos (by decide)] at hh
theorem yM_count {w : Int32} {K : Int32 → Mm → Prop} (y : YM M) (h : ∀ N, K (fCount w) N) : CI mM_count [.ref 6027, .int w] M K := by
  have hh := h M
  refine call_of rfl (Nat.le_of_ble_eq_true rfl) rfl (vM_count_0 (vM_count_4 rfl ⟨fun _ => sM_in (l := 10) (m := 17) rfl rfl (fun q => vM_count_47 rfl (mr2 y.1) (mr40 y.1) (mr41 y.1) ⟨fun q => absurd rfl q, fun _ => ⟨fun p => ?_, fun p => ?_, fun p => sM_countOf (vM_count_110 ?_), fun p => ?_, fun p => ?_, fun p => ?_⟩, fun q => absurd rfl q⟩) (fun q1 q2 => ?_), fun q => absurd (x0 (y_x y)) q⟩))
  · subst p; rw [yf (v := 0) y (by decide +kernel)]; exact hh
  · subst p; exact hh
  · subst p; rw [yf (v := 255) y (by decide +kernel), show co 255 32 = 8 from by decide +kernel]; exact hh
  · subst p; rw [yf (v := 0) y (by decide +kernel)]; exact hh
  · subst p; rw [yf (v := -4) y (by decide +kernel), if_pos rfl]; exact hh
  · have no : ¬ (¬ w < 10 ∧ ¬ 18 ≤ w) := fun r => q.elim r.1 (fun q => r.2 ((sgt (by decide)).mp q))
    rwa [fCount, if_neg p.1, if_neg p.2.1, if_neg p.2.2.1, if_neg p.2.2.2.1, if_neg p.2.2.2.2, if_neg no] at hh
  · have q3 : ¬ 18 ≤ w := fun r => q2 ((sgt (by decide)).mpr r)
    obtain ⟨i, hi, e⟩ := cnt10 q1 q3
    have e2 : gi M 6157 i = 2 := ya y 8 (by decide +kernel) hi
    have nw : ∀ k : Int32, k < 10 → ¬ w = k := fun k hk e => q1 (e ▸ hk)
    refine vM_count_47 rfl (mr2 y.1) (mr40 y.1) (mr41 y.1) ⟨fun _ => by rw [e]; exact vin hi (by decide), fun q => absurd q (by decide), fun _ => ?_⟩
    rw [e, ncl (by omega), e2]
    rwa [fCount, if_neg (nw 0 (by decide)), if_neg (nw 1 (by decide)), if_neg (nw 2 (by decide)), if_neg (nw 3 (by decide)), if_neg (nw 4 (by decide)), if_pos ⟨q1, q3⟩] at hh
end MOD5
theorem yM_swap {M : Mm} {K : Int32 → Mm → Prop} (y : YM M) (h : ∀ N, K 1 N) : CI mM_swap [.ref 6027] M K := xM_swap (y_x y) (h M)
