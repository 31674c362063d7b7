/-! ===== the reference at any state: argue, game, meets, steps, count ===== -/
section GM8
variable {M N : Mm} {W : Nat}
theorem qf_sc {a k : Nat} {v : Int32} (h : a = 7438 ∨ a = 7502 ∨ a = 7582) : QF W M (si M a k v) := by
  refine ⟨rfl, fun b q => ?_, fun i _ => ?_, fun i _ => ?_, fun _ _ _ _ => rfl⟩
  · funext i; exact giR _ _ _ _ _ _ (fun e => q (by omega))
  · exact giR _ _ _ _ _ _ (by omega)
  · exact giR _ _ _ _ _ _ (by omega)
theorem qf_39 {v : Int32} : QF W M (si M 6027 39 v) := by
  refine ⟨rfl, fun b q => ?_, fun i _ => ?_, fun i q => ?_, fun _ _ _ _ => rfl⟩
  · funext i; exact giR _ _ _ _ _ _ (fun e => q (by omega))
  · exact giR _ _ _ _ _ _ (by decide)
  · rw [gi_si, if_neg (fun e => q (by omega))]
theorem jw_9 {b : Int32} (j : JW M W) : JW (si M 6027 9 b) W := by
  have e : ∀ v k, wd (si M 6027 9 b) v k = wd M v k := fun v k => giR _ _ _ _ _ _ (by decide)
  refine ⟨j.1, j.2.1, j.2.2.1, fun w hw => ?_⟩
  obtain ⟨⟨c, hc, ec⟩, ch⟩ := j.2.2.2 w hw
  exact ⟨⟨c, hc, (e _ _).trans ec⟩, fun u => chn_wd (fun v _ => e v 6) _ _ hw (ch u)⟩
theorem hd_9 {b : Int32} (h : HD M) : HD (si M 6027 9 b) := h
theorem qf_9 {b : Int32} (f : QF W (si M 6027 9 b) N) : QF W M (si N 6027 9 (gi M 6027 9)) := by
  refine ⟨f.1, fun a q => ?_, fun k hk => ?_, fun k q => ?_, f.2.2.2.2⟩
  · funext k
    rw [giR _ _ _ _ _ _ (fun e => q (by omega)), f.2.1 a q, giR _ _ _ _ _ _ (fun e => q (by omega))]
  · rw [giR _ _ _ _ _ _ (by decide), f.2.2.1 k hk, giR _ _ _ _ _ _ (by decide)]
  · rw [gi_si]
    by_cases e : k = 9
    · rw [if_pos ⟨rfl, e⟩, e]
    · rw [if_neg (fun r => e r.2), f.2.2.2.1 k q, gi_si, if_neg (fun r => e r.2)]
theorem qf_s9 {b c : Int32} (f : QF W (si M 6027 9 b) N) : QF W (si M 6027 9 c) (si N 6027 9 c) := by
  refine ⟨f.1, fun a q => ?_, fun k hk => ?_, fun k q => ?_, f.2.2.2.2⟩
  · funext k
    rw [giR _ _ _ _ _ _ (fun e => q (by omega)), f.2.1 a q, giR _ _ _ _ _ _ (fun e => q (by omega)), giR _ _ _ _ _ _ (fun e => q (by omega))]
  · rw [giR _ _ _ _ _ _ (by decide), f.2.2.1 k hk, giR _ _ _ _ _ _ (by decide), giR _ _ _ _ _ _ (by decide)]
  · rw [gi_si, gi_si]
    by_cases e : k = 9
    · rw [if_pos ⟨rfl, e⟩, if_pos ⟨rfl, e⟩]
    · rw [if_neg (fun r => e r.2), if_neg (fun r => e r.2), f.2.2.2.1 k q, gi_si, if_neg (fun r => e r.2)]
theorem qf_i9 (W : Nat) (M : Mm) : QF W (si M 6027 9 (gi M 6027 9)) M := by rw [si_same _ _ _ _ rfl]; exact qf_rf W M
theorem tM_argue {c a w : Int32} {K : Int32 → Mm → Prop} (j : JW M W) (hh : HD M) (h : ∀ r N, QF W M N → K r N) : CI mM_argue [.ref 6027, .int c, .int a, .int w] M K := by
  refine call_of rfl (Nat.le_of_ble_eq_true rfl) rfl (vM_argue_0 (sM_isCase (fun q => vM_argue_4 ⟨fun _ => h _ _ (qf_rf W M), fun q => absurd rfl q⟩) (fun i hi e => vM_argue_4 ⟨fun q => absurd q (by decide), fun _ => sM_inE (fun q => vM_argue_14 ⟨fun _ => h _ _ (qf_rf W M), fun q => absurd rfl q⟩) (fun qa => vM_argue_14 ⟨fun q => absurd q (by decide), fun _ => sM_inE (fun q => vM_argue_24 rfl ⟨fun q => absurd rfl q, fun _ => h _ _ (qf_rf W M)⟩) (fun qw => vM_argue_24 rfl ⟨fun _ => ?_, fun q => absurd q (by decide)⟩)⟩)⟩)))
  subst e
  have key := lp 256 (P := fun s => ∀ N b x, QF W (si M 6027 9 b) N → X mM_argue 42 [(0, .ref 6027), (1, .int (nI i)), (2, .int a), (3, .int w), (4, .int (gi M 6027 9)), (5, .int x), (6, .int (nI s))] [] N (mC mM_argue, mS mM_argue) (QI K)) (fun s hs ih N b x f => ?_) (fun N b x f => ?_)
  · exact key M _ _ (qf_i9 W M)
  · have b70 : X mM_argue 70 [(0, .ref 6027), (1, .int (nI i)), (2, .int a), (3, .int w), (4, .int (gi M 6027 9)), (5, .int x), (6, .int (nI s))] [] N (mC mM_argue, mS mM_argue) (QI K) := by
      have f1 := qf_s9 (c := nI s) f
      refine vM_argue_70 rfl (tM_findAll (jw_sm (qf_sm f1) (jw_9 j)) (hd_sm (qf_sm f1) (hd_9 hh)) (fun N2 g _ _ => ?_))
      have f2 := qf_tr f1 (qf_af g)
      refine vM_argue_80 rfl (mr30 (mr_w j.1 f2.1)) ⟨vin hi (by decide), ?_⟩
      rw [nI_s]
      exact ih N2 _ _ f2
    refine vM_argue_42 rfl ⟨fun q => absurd q (nge rfl (by decide) hs), fun _ => b70, fun _ => sM_countOf (vM_argue_62 (sM_countOf (vM_argue_67 ⟨fun _ => ?_, fun _ => b70⟩)))⟩
    rw [nI_s]; exact ih N _ _ f
  · exact vM_argue_42 rfl ⟨fun _ => ⟨fun _ => h _ _ (qf_9 f), fun _ => sM_countOf (vM_argue_132 (h _ _ (qf_9 f))), fun _ => h _ _ (qf_9 f)⟩, fun q => absurd (nself rfl) q.1, fun q => absurd (nself rfl) q.1⟩
def bti (s b w : Nat) : Int32 := (4 * (nI s ||| ((1 : Int32) <<< (nI b &&& 31)))) + (2 * (1 - nI w))
theorem bti_in : ∀ s, s < 64 → ∀ b, b < 6 → ∀ w, w < 2 → ¬ (bti s b w < 0 ∨ 256 ≤ (bti s b w).toNatClampNeg) := by decide +kernel
theorem sM_bestTurn {s w : Nat} {v : Int32} {K : Int32 → Mm → Prop} (hm : MR M) (hs : s < 64) (hw : w < 2) (h : ∀ r N, QF W M N → K r N) : CI mM_bestTurn [.ref 6027, .int (nI s), .int (nI w), .int v] M K := by
  refine call_of rfl (Nat.le_of_ble_eq_true rfl) rfl (vM_bestTurn_0 rfl ?_)
  have key := lp 6 (P := fun b => ∀ N x4 x5, QF W M N → X mM_bestTurn 25 [(0, .ref 6027), (1, .int (nI s)), (2, .int (nI w)), (4, .int x4), (5, .int x5), (6, .int (nI b))] [] N (mC mM_bestTurn, mS mM_bestTurn) (QI K)) (fun b hb ih N x4 x5 f => ?_) (fun N x4 x5 f => ?_)
  · exact key _ _ _ qf_39
  · have hi := bti_in s hs b hb w hw
    have nq := nge (c := 6) (i := b) (n := 6) rfl (by decide) hb
    have fin : ∀ x7 y, X mM_bestTurn 101 [(0, .ref 6027), (1, .int (nI s)), (2, .int (nI w)), (4, .int x4), (5, .int x5), (6, .int (nI b)), (7, .int x7)] [.int y] N (mC mM_bestTurn, mS mM_bestTurn) (QI K) := by
      intro x7 y
      refine vM_bestTurn_101 rfl ⟨fun _ => vM_bestTurn_136 ?_, fun _ => vM_bestTurn_136 ?_⟩
      · rw [nI_s]; exact ih _ _ _ (qf_tr f qf_39)
      · rw [nI_s]; exact ih _ _ _ (qf_tr f qf_39)
    refine vM_bestTurn_25 rfl (mr38 (mr_w hm f.1)) ⟨fun _ => hi, fun q => absurd q.1 nq, fun q => absurd q.1 nq, fun _ => ?_, fun _ => ⟨fun _ => fin _ 1, fun _ => fin _ 0⟩⟩
    rw [nI_s]; exact ih N _ _ f
  · refine vM_bestTurn_25 rfl (mr38 (mr_w hm f.1)) ⟨fun q => absurd (nself rfl) q.1, fun _ => h _ _ f, fun _ => h _ _ f, fun q => absurd (nself rfl) q.1, fun q => absurd (nself rfl) q.1⟩
def bi1 (s w : Nat) : Int32 := ((4 * nI s) + (2 * nI w)) + 1
def bi2 (s w : Nat) : Int32 := ((4 * nI s) + (2 * (1 - nI w))) + 1
def bi3 (s w : Nat) : Int32 := (4 * nI s) + (2 * nI w)
theorem bi_in : ∀ s, s < 64 → ∀ w, w < 2 → ¬ (bi1 s w < 0 ∨ 256 ≤ (bi1 s w).toNatClampNeg) ∧ ¬ (bi2 s w < 0 ∨ 256 ≤ (bi2 s w).toNatClampNeg) ∧ ¬ (bi3 s w < 0 ∨ 256 ≤ (bi3 s w).toNatClampNeg) := by decide +kernel
theorem sM_findGame {c : Nat} {K : Mm → Prop} (j : JW M W) (hh : HD M) (hc : c < 64) (h : ∀ N, QF W M N → K N) : CV mM_findGame [.ref 6027, .int (nI c)] M K := by
  refine call_of rfl (Nat.le_of_ble_eq_true rfl) rfl (vM_findGame_0 rfl ?_)
  have key := lp 64 (P := fun s => ∀ N b, QF W (si M 6027 9 b) N → X mM_findGame 7 [(0, .ref 6027), (1, .int (nI c)), (2, .int (gi M 6027 9)), (3, .int (nI s))] [] N (mC mM_findGame, mS mM_findGame) (QV K)) (fun s hs ih N b f => ?_) (fun N b f => ?_)
  · exact key M _ (qf_i9 W M)
  · have f1 := qf_s9 (c := nI s) f
    refine vM_findGame_7 rfl ⟨fun q => absurd q (nge rfl (by decide) hs), fun _ => tM_findAll (jw_sm (qf_sm f1) (jw_9 j)) (hd_sm (qf_sm f1) (hd_9 hh)) (fun N2 g _ _ => ?_)⟩
    have f2 := qf_tr f1 (qf_af g)
    have hm := mr_w j.1 f2.1
    refine vM_findGame_22 rfl (mr37 hm) (mr30 hm) ⟨vin hc (by decide), fun _ => vin hc (by decide), vin hs (by decide), ?_⟩
    rw [nI_s]
    exact ih _ _ (qf_tr f2 (qf_sc (Or.inr (Or.inl rfl))))
  · refine vM_findGame_7 rfl ⟨fun _ => ?_, fun q => absurd (nself rfl) q⟩
    have f0 := qf_9 f
    generalize si N 6027 9 (gi M 6027 9) = O at f0 ⊢
    have k2 := lp 64 (P := fun i => ∀ N, QF W M N → X mM_findGame 70 [(0, .ref 6027), (3, .int (dn i))] [] N (mC mM_findGame, mS mM_findGame) (QV K)) (fun i hi ih N f => ?_) (fun N f => ?_)
    · exact k2 O f0
    · obtain ⟨e1, e2⟩ := dn1 i hi
      rw [e1] at e2 ⊢
      have hs : 63 - i < 64 := by omega
      generalize 63 - i = s at e2 hs ⊢
      refine vM_findGame_70 ⟨fun q => absurd q (n0 s (by omega)), fun _ => ?_⟩
      have k3 := lp 2 (P := fun w => ∀ N, QF W M N → X mM_findGame 136 [(0, .ref 6027), (3, .int (nI s)), (4, .int (nI w))] [] N (mC mM_findGame, mS mM_findGame) (QV K)) (fun w hw ih3 N f => ?_) (fun N f => ?_)
      · have k4 := lp 2 (P := fun w => ∀ N, QF W M N → X mM_findGame 77 [(0, .ref 6027), (3, .int (nI s)), (4, .int (nI w))] [] N (mC mM_findGame, mS mM_findGame) (QV K)) (fun w hw ih4 N f => ?_) (fun N f => ?_)
        · exact k4 N f
        · have hm := mr_w j.1 f.1
          obtain ⟨b1, b2, b3⟩ := bi_in s hs w hw
          have go : ∀ O x, QF W M O → X mM_findGame 126 [(0, .ref 6027), (3, .int (nI s)), (4, .int (nI w))] [.int x, .int (((4 * nI s) + (2 * nI w)) + 1), .ref 7582] O (mC mM_findGame, mS mM_findGame) (QV K) := fun O x g => vM_findGame_126 rfl ⟨b1, by rw [nI_s]; exact ih4 _ (qf_tr g (qf_sc (Or.inr (Or.inr rfl))))⟩
          exact vM_findGame_77 rfl (mr38 hm) (mr37 hm) ⟨fun _ => vin hs (by decide), fun q => absurd q (nge rfl (by decide) hw), fun _ => sM_bestTurn (W := W) hm hs hw (fun r O g => go O r (qf_tr f g)), fun _ => go N _ f⟩
        · have hm := mr_w j.1 f.1
          exact vM_findGame_77 rfl (mr38 hm) (mr37 hm) ⟨fun q => absurd (nself rfl) q.1, fun _ => k3 N f, fun q => absurd (nself rfl) q.1, fun q => absurd (nself rfl) q.1⟩
      · have hm := mr_w j.1 f.1
        obtain ⟨b1, b2, b3⟩ := bi_in s hs w hw
        have go : ∀ O x, QF W M O → X mM_findGame 194 [(0, .ref 6027), (3, .int (nI s)), (4, .int (nI w))] [.int x, .int ((4 * nI s) + (2 * nI w)), .ref 7582] O (mC mM_findGame, mS mM_findGame) (QV K) := fun O x g => vM_findGame_194 rfl ⟨b3, by rw [nI_s]; exact ih3 _ (qf_tr g (qf_sc (Or.inr (Or.inr rfl))))⟩
        exact vM_findGame_136 rfl (mr38 hm) (mr37 hm) ⟨fun _ => b2, fun q => absurd q (nge rfl (by decide) hw), fun _ => sM_bestTurn (W := W) hm hs hw (fun r O g => go O r (qf_tr f g)), fun _ => go N _ f⟩
      · have hm := mr_w j.1 f.1
        refine vM_findGame_136 rfl (mr38 hm) (mr37 hm) ⟨fun q => absurd (nself rfl) q.1, fun _ => ?_, fun q => absurd (nself rfl) q.1, fun q => absurd (nself rfl) q.1⟩
        rw [e2]; exact ih N f
    · exact vM_findGame_70 ⟨fun _ => h N f, fun q => absurd (by decide +kernel) q⟩
theorem tM_game {c b w : Int32} {K : Int32 → Mm → Prop} (j : JW M W) (hh : HD M) (h : ∀ r N, QF W M N → K r N) : CI mM_game [.ref 6027, .int c, .int b, .int w] M K := by
  refine call_of rfl (Nat.le_of_ble_eq_true rfl) rfl (vM_game_0 (sM_isCase (fun q => vM_game_4 ⟨fun _ => h _ _ (qf_rf W M), fun q => absurd rfl q⟩) (fun i hi e => vM_game_4 ⟨fun q => absurd q (by decide), fun _ => sM_inE (fun q => vM_game_14 ⟨fun _ => h _ _ (qf_rf W M), fun q => absurd rfl q⟩) (fun qa => vM_game_14 ⟨fun q => absurd q (by decide), fun _ => sM_inE (fun q => vM_game_24 rfl ⟨fun q => absurd rfl q, fun _ => h _ _ (qf_rf W M)⟩) (fun qw => vM_game_24 rfl ⟨fun _ => ?_, fun q => absurd q (by decide)⟩)⟩)⟩)))
  subst e
  refine sM_findGame j hh hi (fun N f => ?_)
  have hm := mr_w j.1 f.1
  obtain ⟨k, hk, rfl⟩ : ∃ k, k < 2 ∧ b = nI k := by
    rcases qa with rfl | rfl
    · exact ⟨0, by decide, rfl⟩
    · exact ⟨1, by decide, rfl⟩
  have ix : ∀ k, k < 2 → ¬ ((2 * (1 - nI k)) + 1 < 0 ∨ 256 ≤ ((2 * (1 - nI k)) + 1).toNatClampNeg) := by decide +kernel
  exact vM_game_34 rfl (mr38 hm) ⟨ix k hk, sM_bestTurn (s := 0) (W := W) hm (by decide) hk (fun r O g => vM_game_52 rfl (h _ _ (qf_tr f g)))⟩
theorem tM_steps {v : Int32} {K : Int32 → Mm → Prop} (j : JW M W) (h : ∀ r, K r M) : CI mM_steps [.ref 6027, .int v] M K := by
  refine call_of rfl (Nat.le_of_ble_eq_true rfl) rfl (vM_steps_0 rfl (sM_isWord j.2.1 j.2.2.1 (fun q => vM_steps_5 rfl ⟨fun q => absurd rfl q, fun _ => h _⟩) (fun i hi e => vM_steps_5 rfl ⟨fun _ => ?_, fun q => absurd q (by decide)⟩)))
  subst e
  have hW := j.2.2.1
  refine sM_isUnsound (vM_steps_15 ⟨fun q => ?_, fun _ => h _⟩)
  have u : ¬ uns M i := fun u => by rw [if_pos u] at q; exact absurd q (by decide)
  have key : ∀ n v x, v < W → chn M W n v → X mM_steps 25 [(0, .ref 6027), (2, .int x), (3, .int (nI v))] [] M (mC mM_steps, mS mM_steps) (QI K) := by
    intro n
    induction n with
    | zero =>
      intro v x hv hc
      exact vM_steps_25 rfl (sM_of (k := 6) j.1 (by omega) rfl (by decide) (vM_steps_32 rfl ⟨fun _ => h _, fun q => absurd hc q⟩))
    | succ n ih =>
      intro v x hv hc
      refine vM_steps_25 rfl (sM_of (k := 6) j.1 (by omega) rfl (by decide) (vM_steps_32 rfl ⟨fun _ => h _, fun q => sM_of (k := 6) j.1 (by omega) rfl (by decide) (vM_steps_47 ?_)⟩))
      rcases hc with hc | ⟨f, hf, e, hc⟩
      · exact absurd hc q
      · rw [e]; exact ih f _ hf hc
  exact key 25 i 0 hi ((j.2.2.2 i hi).2 u)
theorem tM_meets {c w : Int32} {K : Int32 → Mm → Prop} (j : JW M W) (h : ∀ r, K r M) : CI mM_meets [.ref 6027, .int c, .int w] M K := by
  obtain ⟨hm, hW, hW2, hw⟩ := j
  refine call_of rfl (Nat.le_of_ble_eq_true rfl) rfl (vM_meets_0 (sM_isCase (fun q => vM_meets_4 ⟨fun _ => h _, fun q => absurd rfl q⟩) (fun i hi e => vM_meets_4 ⟨fun q => absurd q (by decide), fun _ => inW (fun q => vM_meets_16 ⟨fun q => absurd rfl q, fun _ => h _⟩) (fun q => vM_meets_16 ⟨fun _ => ?_, fun q => absurd q (by decide)⟩)⟩)))
  have key := lp W (P := fun k => ∀ x, X mM_meets 26 [(0, .ref 6027), (1, .int c), (2, .int w), (3, .int x), (4, .int (nI k))] [] M (mC mM_meets, mS mM_meets) (QI K)) (fun k hk ih x => ?_) (fun x => ?_)
  · exact key 0
  · obtain ⟨⟨b, hb, eb⟩, hc⟩ := hw k hk
    have nW : ¬ gi M 6027 0 ≤ nI k := by rw [hW]; exact nge rfl (by omega) hk
    have b99 : ∀ y, X mM_meets 99 [(0, .ref 6027), (1, .int c), (2, .int w), (3, .int x), (4, .int (nI k))] [.int y] M (mC mM_meets, mS mM_meets) (QI K) := fun y => vM_meets_99 (by rw [nI_s]; exact ih _)
    exact vM_meets_26 rfl (mr25 hm) (mr26 hm) ⟨fun _ => vin (by omega) (by decide), fun _ => vin (by omega) (by decide), fun p => absurd p nW, fun _ => sM_told (vM_meets_53 rfl ⟨fun _ => vM_meets_98 (b99 0), fun _ => vM_meets_94 (b99 1), fun _ => sM_counts hm (by omega) eb hb (vM_meets_91 ⟨fun _ => vM_meets_98 (b99 0), fun _ => vM_meets_94 (b99 1)⟩), fun _ => b99 0, fun _ => b99 1⟩)⟩
  · have yW : gi M 6027 0 ≤ nI W := by rw [hW]; exact nself rfl
    exact vM_meets_26 rfl (mr25 hm) (mr26 hm) ⟨fun p => absurd yW p, fun p => absurd yW p, fun _ => h _, fun p => absurd yW p⟩
end GM8
