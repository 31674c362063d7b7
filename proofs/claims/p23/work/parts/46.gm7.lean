/-! ===== the reference at any state: turnsBy, turns, turn, hangs ===== -/
theorem chn_wd {M N : Mm} {B : Nat} (h : ∀ v, v < B → wd N v 6 = wd M v 6) : ∀ n v, v < B → chn M B n v → chn N B n v
  | 0, v, hv, q => by rw [chn, h v hv]; exact q
  | n + 1, v, hv, q => by
    rw [chn, h v hv]
    exact q.imp id (fun ⟨f, hf, e, q⟩ => ⟨f, hf, e, chn_wd h n f hf q⟩)
theorem jw_g {M N : Mm} {W : Nat} (h1 : gi N = gi M) (h2 : gr N = gr M) (j : JW M W) : JW N W := by
  have e : ∀ w k, wd N w k = wd M w k := fun w k => by unfold wd; rw [h1]
  refine ⟨mr_w j.1 h2, by rw [h1]; exact j.2.1, j.2.2.1, fun w hw => ?_⟩
  obtain ⟨⟨b, hb, eb⟩, c⟩ := j.2.2.2 w hw
  refine ⟨⟨b, hb, (e _ _).trans eb⟩, fun u => chn_wd (fun v _ => e v 6) _ _ hw (c ?_)⟩
  unfold uns at u ⊢
  rwa [h1] at u
def TB (M : Mm) (W : Nat) (d a m : Int32) : Mm := si (si (si (si (si (si (si (si M 6101 (10 * W) 0) 6101 (10 * W + 1) d) 6101 (10 * W + 2) 0) 6101 (10 * W + 3) m) 6101 (10 * W + 4) 0) 6101 (10 * W + 5) a) 6101 (10 * W + 6) (-4)) 6101 (10 * W + 7) (-4)
theorem tb_o {M : Mm} {W b k : Nat} {d a m : Int32} (h : b ≠ 6101) : gi (TB M W d a m) b k = gi M b k := by
  unfold TB
  rw [giR _ _ _ _ _ _ h, giR _ _ _ _ _ _ h, giR _ _ _ _ _ _ h, giR _ _ _ _ _ _ h, giR _ _ _ _ _ _ h, giR _ _ _ _ _ _ h, giR _ _ _ _ _ _ h, giR _ _ _ _ _ _ h]
theorem tb_l {M : Mm} {W k : Nat} {d a m : Int32} (h : k < 10 * W) : gi (TB M W d a m) 6101 k = gi M 6101 k := by
  unfold TB
  rw [gi_si, if_neg (fun q => by omega), gi_si, if_neg (fun q => by omega), gi_si, if_neg (fun q => by omega), gi_si, if_neg (fun q => by omega), gi_si, if_neg (fun q => by omega), gi_si, if_neg (fun q => by omega), gi_si, if_neg (fun q => by omega), gi_si, if_neg (fun q => by omega)]
theorem tb_0 {M : Mm} {W : Nat} {d a m : Int32} : wd (TB M W d a m) W 0 = 0 := by
  unfold wd TB
  rw [gi_si, if_neg (fun q => by omega), gi_si, if_neg (fun q => by omega), gi_si, if_neg (fun q => by omega), gi_si, if_neg (fun q => by omega), gi_si, if_neg (fun q => by omega), gi_si, if_neg (fun q => by omega), gi_si, if_neg (fun q => by omega), gi_si, if_pos ⟨rfl, rfl⟩]
theorem tb_2 {M : Mm} {W : Nat} {d a m : Int32} : wd (TB M W d a m) W 2 = 0 := by
  unfold wd TB
  rw [gi_si, if_neg (fun q => by omega), gi_si, if_neg (fun q => by omega), gi_si, if_neg (fun q => by omega), gi_si, if_neg (fun q => by omega), gi_si, if_neg (fun q => by omega), gi_si, if_pos ⟨rfl, rfl⟩]
theorem tb_6 {M : Mm} {W : Nat} {d a m : Int32} : wd (TB M W d a m) W 6 = -4 := by
  unfold wd TB
  rw [gi_si, if_neg (fun q => by omega), gi_si, if_pos ⟨rfl, rfl⟩]
/-- no bit behind the words -/
def UM (M : Mm) (W : Nat) : Prop := gi M 6027 24 &&& (((1 : Int32) <<< (nI W &&& 31)) - 1) = gi M 6027 24
theorem um_qf {M N : Mm} {W : Nat} (f : QF W M N) (h : UM M W) : UM N W := by unfold UM; rw [f.2.2.2.1 24 (by decide)]; exact h
theorem sM_turnsBy {M : Mm} {W d : Nat} {a m : Int32} {K : Int32 → Mm → Prop} (j : JW M W) (hW : W ≤ 24) (hh : HD M) (hu : UM M W) (hd : d < 8) (h : ∀ r N, QF W M N → K r N) : CI mM_turnsBy [.ref 6027, .int (nI d), .int a, .int m] M K := by
  obtain ⟨hm, hW0, hW2, hw⟩ := id j
  refine call_of rfl (Nat.le_of_ble_eq_true rfl) rfl (vM_turnsBy_0 rfl (mr1 hm) ?_)
  have i0 : (10 : Int32) * nI W = nI (10 * W) := by
    have := nI_ix W 0
    rwa [show (nI 0 : Int32) = 0 from rfl, Int32.add_zero, Nat.add_zero] at this
  have i : ∀ k, nI (10 * W) + nI k = nI (10 * W + k) := fun k => by
    show Int32.ofNat _ + Int32.ofNat _ = Int32.ofNat _
    rw [Int32.ofNat_add]
  have i1 : nI (10 * W) + 1 = nI (10 * W + 1) := i 1
  have i2 : nI (10 * W) + 2 = nI (10 * W + 2) := i 2
  have i3 : nI (10 * W) + 3 = nI (10 * W + 3) := i 3
  have i4 : nI (10 * W) + 4 = nI (10 * W + 4) := i 4
  have i5 : nI (10 * W) + 5 = nI (10 * W + 5) := i 5
  have i6 : nI (10 * W) + 6 = nI (10 * W + 6) := i 6
  have i7 : nI (10 * W) + 7 = nI (10 * W + 7) := i 7
  rw [hW0, i0, i1, i2, i3, i4, i5, i6, i7]
  refine ⟨vin (by omega) (by decide), vin (by omega) (by decide), vin (by omega) (by decide), vin (by omega) (by decide), vin (by omega) (by decide), vin (by omega) (by decide), vin (by omega) (by decide), vin (by omega) (by decide), ?_⟩
  rw [ncl (show 10 * W < 2 ^ 31 by omega), ncl (show 10 * W + 1 < 2 ^ 31 by omega), ncl (show 10 * W + 2 < 2 ^ 31 by omega), ncl (show 10 * W + 3 < 2 ^ 31 by omega), ncl (show 10 * W + 4 < 2 ^ 31 by omega), ncl (show 10 * W + 5 < 2 ^ 31 by omega), ncl (show 10 * W + 6 < 2 ^ 31 by omega), ncl (show 10 * W + 7 < 2 ^ 31 by omega)]
  change CV mM_sayWord [.ref 6027, .int (nI W)] (si (si (TB M W (nI d) a m) 6027 0 (gi (TB M W (nI d) a m) 6027 0 + 1)) 6027 24 (gi (si (TB M W (nI d) a m) 6027 0 (gi (TB M W (nI d) a m) 6027 0 + 1)) 6027 24 &&& (((1 : Int32) <<< (nI W &&& 31)) - 1))) _
  have t1 : ∀ b k, b ≠ 6101 → gi (TB M W (nI d) a m) b k = gi M b k := fun b k q => tb_o q
  have t2 : ∀ k, k < 10 * W → gi (TB M W (nI d) a m) 6101 k = gi M 6101 k := fun k q => tb_l q
  have t3 : wd (TB M W (nI d) a m) W 0 = 0 := tb_0
  have t4 : wd (TB M W (nI d) a m) W 2 = 0 := tb_2
  have t5 : wd (TB M W (nI d) a m) W 6 = -4 := tb_6
  have t6 : gr (TB M W (nI d) a m) = gr M := rfl
  have t7 : gl (TB M W (nI d) a m) = gl M := rfl
  generalize TB M W (nI d) a m = T at t1 t2 t3 t4 t5 t6 t7 ⊢
  rw [t1 6027 0 (by decide), hW0, nI_s, gi_si, if_neg (by decide), t1 6027 24 (by decide), show gi M 6027 24 &&& (((1 : Int32) <<< (nI W &&& 31)) - 1) = gi M 6027 24 from hu]
  have p1 : ∀ b k, b ≠ 6101 → b ≠ 6027 → gi (si (si T 6027 0 (nI (W + 1))) 6027 24 (gi M 6027 24)) b k = gi M b k := fun b k q r => by rw [giR _ _ _ _ _ _ r, giR _ _ _ _ _ _ r]; exact t1 b k q
  have p2 : ∀ k, gi (si (si T 6027 0 (nI (W + 1))) 6027 24 (gi M 6027 24)) 6101 k = gi T 6101 k := fun k => by rw [giR _ _ _ _ _ _ (by decide), giR _ _ _ _ _ _ (by decide)]
  have p3 : gi (si (si T 6027 0 (nI (W + 1))) 6027 24 (gi M 6027 24)) 6027 0 = nI (W + 1) := by rw [gi_si, if_neg (by decide), gi_si, if_pos ⟨rfl, rfl⟩]
  have p4 : ∀ k, k ≠ 0 → gi (si (si T 6027 0 (nI (W + 1))) 6027 24 (gi M 6027 24)) 6027 k = gi M 6027 k := fun k q => by
    rw [gi_si]
    by_cases e : k = 24
    · rw [if_pos ⟨rfl, e⟩, e]
    · rw [if_neg (fun r => e r.2), gi_si, if_neg (fun r => q r.2)]; exact t1 _ _ (by decide)
  have p5 : gr (si (si T 6027 0 (nI (W + 1))) 6027 24 (gi M 6027 24)) = gr M := t6
  have p6 : gl (si (si T 6027 0 (nI (W + 1))) 6027 24 (gi M 6027 24)) = gl M := t7
  generalize si (si T 6027 0 (nI (W + 1))) 6027 24 (gi M 6027 24) = P at p1 p2 p3 p4 p5 p6 ⊢
  have w1 : ∀ v k, v < W → k < 10 → wd P v k = wd M v k := fun v k hv hk => (p2 _).trans (t2 _ (by omega))
  have w2 : ∀ k, wd P W k = wd T W k := fun k => p2 _
  have jP : JW P (W + 1) := by
    refine ⟨mr_w hm p5, p3, by omega, fun w hw1 => ?_⟩
    by_cases e : w = W
    · subst e
      exact ⟨⟨0, by decide, (w2 2).trans t4⟩, fun _ => Or.inl ((w2 6).trans t5)⟩
    · obtain ⟨⟨b, hb, eb⟩, c⟩ := hw w (by omega)
      refine ⟨⟨b, hb, (w1 w 2 (by omega) (by decide)).trans eb⟩, fun u => chn_up (Nat.le_succ W) _ _ (chn_wd (fun v hv => w1 v 6 hv (by decide)) _ _ (by omega) (c ?_))⟩
      unfold uns at u ⊢
      rwa [p4 24 (by decide)] at u
  have hP : HD P := by unfold HD; rw [p1 6543 4 (by decide) (by decide)]; exact hh
  refine sM_sayWord jP.1 (by omega) (fun q => absurd ((w2 0).trans t3) q) ?_
  generalize (swv P W).1 = y
  generalize (swv P W).2 = n
  have jS : JW (sl (sl P 6874 W y) 6938 W n) (W + 1) := jw_g rfl rfl jP
  have s1 : gi (sl (sl P 6874 W y) 6938 W n) = gi P := rfl
  have s2 : gr (sl (sl P 6874 W y) 6938 W n) = gr M := p5
  have s3 : ∀ b k, ¬ ((b = 6874 ∨ b = 6938) ∧ k = W) → gl (sl (sl P 6874 W y) 6938 W n) b k = gl M b k := fun b k q => by
    rw [gl_sl, if_neg (fun r => q ⟨Or.inr r.1, r.2⟩), gl_sl, if_neg (fun r => q ⟨Or.inl r.1, r.2⟩), p6]
  have hS : HD (sl (sl P 6874 W y) 6938 W n) := hP
  generalize sl (sl P 6874 W y) 6938 W n = S at jS s1 s2 s3 hS ⊢
  refine vM_turnsBy_143 rfl (sM_findOne jS hd (fun N1 f1 _ _ _ => vM_turnsBy_148 rfl (sM_findHeld (jw_sm (of_sm f1) jS) (hd_sm (of_sm (W := W + 1) f1) hS) (fun N2 f2 _ => vM_turnsBy_152 rfl (sM_findChanged (mr_w hm ((f2.2.2.trans f1.2.1).trans s2)) (fun N3 c1 c2 c3 c4 _ _ => vM_turnsBy_166 rfl (h _ N3 ?_)))))))
  have k2 : ∀ b, b ≠ 7310 → b ≠ 7374 → b ≠ 7246 → b ≠ 7182 → gi N2 b = gi P b := fun b q1 q2 q3 q4 => by rw [f2.1 b q1 q2 q3 q4, f1.1, s1]
  have e6 := k2 6027 (by decide) (by decide) (by decide) (by decide)
  refine ⟨((c4.trans f2.2.2).trans f1.2.1).trans s2, fun b q => ?_, fun k hk => ?_, fun k q => ?_, fun b k q r => ?_⟩
  · rw [c1 b (fun e => q (by omega))]
    funext k
    rw [giR _ _ _ _ _ _ (fun e => q (by omega)), k2 b (fun e => q (by omega)) (fun e => q (by omega)) (fun e => q (by omega)) (fun e => q (by omega))]
    exact p1 b k (fun e => q (by omega)) (fun e => q (by omega))
  · rw [c1 6101 (by decide), giR _ _ _ _ _ _ (by decide), k2 6101 (by decide) (by decide) (by decide) (by decide), p2, t2 k hk]
  · rw [c2 k (fun e => q (by omega)) (fun e => q (by omega)), gi_si]
    by_cases e : k = 0
    · subst e
      rw [if_pos ⟨rfl, rfl⟩, e6, p3, hW0, ← nI_s]
      exact Int32.add_sub_cancel _ _
    · rw [if_neg (fun r => e r.2), e6, p4 k e]
  · rw [c3]
    show gl N2 b k = _
    rw [f2.2.1, f1.2.2 b k (fun e => q e.1), s3 b k r]
section GM7
variable {M : Mm} {W : Nat}
theorem tM_turns {d a m : Int32} {K : Int32 → Mm → Prop} (j : JW M W) (hW : W ≤ 24) (hh : HD M) (hu : UM M W) (h : ∀ r N, QF W M N → K r N) : CI mM_turns [.ref 6027, .int d, .int a, .int m] M K := by
  refine call_of rfl (Nat.le_of_ble_eq_true rfl) rfl (vM_turns_0 (sM_isDoctor (fun q => vM_turns_4 ⟨fun _ => h _ _ (qf_rf W M), fun q => absurd rfl q⟩) (fun i hi e => vM_turns_4 ⟨fun q => absurd q (by decide), fun _ => sM_inE (fun q => vM_turns_14 ⟨fun _ => h _ _ (qf_rf W M), fun q => absurd rfl q⟩) (fun qa => vM_turns_14 ⟨fun q => absurd q (by decide), fun _ => sM_isCase (fun q => vM_turns_21 rfl (mr18 j.1) ⟨fun q => absurd rfl q.1, fun q => absurd rfl q.1, fun _ => h _ _ (qf_rf W M)⟩) (fun k hk e2 => vM_turns_21 rfl (mr18 j.1) ⟨fun _ => tM_findAll j hh (fun N f _ _ => ?_), fun _ => h _ _ (qf_rf W M), fun q => absurd q (by decide)⟩)⟩)⟩)))
  subst e
  have f1 : QF W M N := qf_af f
  refine vM_turns_46 rfl (kh_row (mr_w j.1 f1.1) ?_)
  have f2 := qf_tr f1 (qf_row (M := N) (n := 64) (g := gi N 7182))
  generalize rwm N 7438 64 (gi N 7182) = O at f2 ⊢
  exact vM_turns_50 rfl (sM_turnsBy (jw_sm (qf_sm f2) j) hW (hd_sm (qf_sm f2) hh) (um_qf f2 hu) hi (fun r P f3 => vM_turns_57 (h r P (qf_tr f2 f3))))
theorem tM_turn {w : Int32} {K : Int32 → Mm → Prop} (j : JW M W) (hW : W ≤ 24) (hh : HD M) (hu : UM M W) (h : ∀ r N, QF W M N → K r N) : CI mM_turn [.ref 6027, .int w] M K := by
  refine call_of rfl (Nat.le_of_ble_eq_true rfl) rfl (vM_turn_0 (sM_in (l := 0) (m := 3) rfl rfl (fun q => vM_turn_9 rfl ⟨fun q => absurd rfl q, fun _ => h _ _ (qf_rf W M)⟩) (fun q1 q2 => vM_turn_9 rfl ⟨fun _ => tM_findAll j hh (fun N f _ _ => ?_), fun q => absurd q (by decide)⟩)))
  have f1 : QF W M N := qf_af f
  refine vM_turn_18 rfl (kh_row (mr_w j.1 f1.1) ?_)
  have f2 := qf_tr f1 (qf_row (M := N) (n := 64) (g := gi N 7182))
  generalize rwm N 7438 64 (gi N 7182) = O at f2 ⊢
  refine vM_turn_22 ?_
  have key := lp 8 (P := fun d => ∀ P x2 x3 x4 x5, QF W M P → X mM_turn 39 [(0, .ref 6027), (1, .int w), (2, .int x2), (3, .int x3), (4, .int x4), (5, .int x5), (6, .int (nI d))] [] P (mC mM_turn, mS mM_turn) (QI K)) (fun d hd ih P x2 x3 x4 x5 f => ?_) (fun P x2 x3 x4 x5 f => ?_)
  · exact key O _ _ _ _ f2
  · have nq := nge (c := 8) (i := d) (n := 8) rfl (by decide) hd
    refine vM_turn_39 ⟨fun q => absurd q.1 nq, fun q => absurd q.1 nq, fun q => absurd q.1 nq, fun q => absurd q.1 nq, fun _ => ?_⟩
    have out : ∀ P x2 x3 x4 x5, QF W M P → CV mM_findOne [.ref 6027, .int (nI d)] P (fun N => X mM_turn 173 [(0, .ref 6027), (1, .int w), (2, .int x2), (3, .int x3), (4, .int x4), (5, .int x5), (6, .int (nI d))] [] N (mC mM_turn, mS mM_turn) (QI K)) := fun P x2 x3 x4 x5 f => sM_findOne (jw_sm (qf_sm f) j) hd (fun N g _ _ _ => vM_turn_173 (by rw [nI_s]; exact ih N _ _ _ _ (qf_tr f (qf_af (af_of g)))))
    have k2 := lp 128 (P := fun k => ∀ P x2 x3 x4 x5, QF W M P → X mM_turn 49 [(0, .ref 6027), (1, .int w), (2, .int x2), (3, .int x3), (4, .int x4), (5, .int x5), (6, .int (nI d)), (7, .int (nI k))] [] P (mC mM_turn, mS mM_turn) (QI K)) (fun k hk ih2 P x2 x3 x4 x5 f => ?_) (fun P x2 x3 x4 x5 f => ?_)
    · exact k2 P _ _ _ _ f
    · refine vM_turn_49 rfl (mr18 (mr_w j.1 f.1)) ⟨fun _ => out P _ _ _ _ f, fun _ => sM_turnsBy (jw_sm (qf_sm f) j) hW (hd_sm (qf_sm f) hh) (um_qf f hu) hd (fun r N g => vM_turn_88 ?_)⟩
      rw [nI_s]
      exact ih2 N _ _ _ _ (qf_tr f g)
    · exact vM_turn_49 rfl (mr18 (mr_w j.1 f.1)) ⟨fun _ => out P _ _ _ _ f, fun q => absurd (nself rfl) q.1⟩
  · exact vM_turn_39 ⟨fun _ => h _ _ f, fun _ => h _ _ f, fun _ => h _ _ f, fun _ => h _ _ f, fun q => absurd (nself rfl) q⟩
theorem tM_hangs {d w : Int32} {K : Int32 → Mm → Prop} (j : JW M W) (hh : HD M) (h : ∀ r N, QF W M N → K r N) : CI mM_hangs [.ref 6027, .int d, .int w] M K := by
  refine call_of rfl (Nat.le_of_ble_eq_true rfl) rfl (vM_hangs_0 (sM_isDoctor (fun q => vM_hangs_4 ⟨fun _ => h _ _ (qf_rf W M), fun q => absurd rfl q⟩) (fun i hi e => vM_hangs_4 ⟨fun q => absurd q (by decide), fun _ => sM_inE (fun q => vM_hangs_14 rfl ⟨fun q => absurd rfl q, fun _ => h _ _ (qf_rf W M)⟩) (fun q => vM_hangs_14 rfl ⟨fun _ => tM_findAll j hh (fun N f _ _ => ?_), fun q => absurd q (by decide)⟩)⟩)))
  subst e
  have f1 : QF W M N := qf_af f
  refine vM_hangs_23 rfl (kh_row (mr_w j.1 f1.1) ?_)
  have f2 := qf_tr f1 (qf_row (M := N) (n := 64) (g := gi N 7182))
  generalize rwm N 7438 64 (gi N 7182) = O at f2 ⊢
  have hm := mr_w j.1 f2.1
  refine vM_hangs_27 rfl (mr27 hm) (mr28 hm) ⟨vin hi (by decide), vin hi (by decide), ?_⟩
  rw [ncl (by omega)]
  have f3 : QF W M (sl (sl O 7003 i 0) 7067 i 0) := qf_tr (qf_tr f2 (qf_sl (Or.inr (Or.inl rfl)))) (qf_sl (Or.inr (Or.inr rfl)))
  generalize sl (sl O 7003 i 0) 7067 i 0 = P at f3 ⊢
  refine sM_findHeld (jw_sm (qf_sm f3) j) (hd_sm (qf_sm f3) hh) (fun N2 g _ => vM_hangs_45 rfl ?_)
  have f4 := qf_tr f3 (qf_af (af_fr g))
  exact sM_findChanged (mr_w j.1 f4.1) (fun N3 c1 c2 c3 c4 _ _ => vM_hangs_49 rfl (h _ _ (qf_tr f4 (qf_ch c1 c2 c3 c4))))
end GM7
