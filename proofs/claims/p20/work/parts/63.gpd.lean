/-! ===== the reference: library ===== -/
/-- what the queries stand on, and the tape's and the sheets' state, is the same -/
def OS (M N : Mm) : Prop := gr N = gr M ∧ (∀ a, ¬ (a = 6027 ∨ a = 6423 ∨ a = 6229 ∨ a = 6285 ∨ a = 6360) → gi N a = gi M a) ∧ (∀ k, ¬ ((11 ≤ k ∧ k ≤ 17) ∨ k = 3 ∨ k = 8) → gi N 6027 k = gi M 6027 k) ∧ gl N = gl M
/-- words of another library -/
def NL (M N : Mm) : Prop := gr N = gr M ∧ (∀ a, ¬ (a = 6027 ∨ a = 6423 ∨ a = 6229 ∨ a = 6285 ∨ a = 6360 ∨ a = 6101 ∨ a = 6157 ∨ a = 6807) → gi N a = gi M a) ∧ (∀ k, ¬ ((11 ≤ k ∧ k ≤ 17) ∨ k = 3 ∨ k = 8 ∨ k = 0 ∨ k = 9 ∨ k = 23 ∨ k = 24) → gi N 6027 k = gi M 6027 k) ∧ ∀ a j, ¬ (a = 6874 ∨ a = 6938) → gl N a j = gl M a j
theorem tM_library {M : Mm} {T : Nat → Int32} {t : Nat} {K : Int32 → Mm → Prop} (tp : TP M T t) (h0 : ∀ r N, OS M N → gi N 6027 11 = 0 → K r N) (h1 : ∀ r N W, NL M N → gi N 6027 11 = 0 → JW N W → W ≤ 24 → UM N W → K r N) : CI mM_library [.ref 6027] M K := by
  have hm := tp.1
  refine call_of rfl (Nat.le_of_ble_eq_true rfl) rfl (vM_library_0 rfl (sM_firstLibrary (mr_w hm rfl) (vM_library_16 rfl ?_)))
  generalize eA : fb0 (si (si M 6027 16 0) 6027 12 0) = A
  have gA : ∀ a, ¬ (a = 6027 ∨ a = 6285 ∨ a = 6360) → gi A a = gi M a := by
    intro a ha
    funext k
    rw [← eA]; unfold fb0
    rw [flR _ _ _ _ _ _ (fun e => ha (by omega)), flR _ _ _ _ _ _ (fun e => ha (by omega)), giR _ _ _ _ _ _ (fun e => ha (by omega)), giR _ _ _ _ _ _ (fun e => ha (by omega)), giR _ _ _ _ _ _ (fun e => ha (by omega)), giR _ _ _ _ _ _ (fun e => ha (by omega))]
  have fA : ∀ k, k ≠ 8 → k ≠ 3 → k ≠ 12 → k ≠ 16 → gi A 6027 k = gi M 6027 k := by
    intro k a b c d
    rw [← eA]; unfold fb0
    rw [flR _ _ _ _ _ _ (by decide), flR _ _ _ _ _ _ (by decide), g6 _ _ _ _ a, g6 _ _ _ _ b, g6 _ _ _ _ c, g6 _ _ _ _ d]
  have fz : ∀ k, k = 8 ∨ k = 3 ∨ k = 12 ∨ k = 16 → gi A 6027 k = 0 := by
    intro k hk
    rw [← eA]; unfold fb0
    rw [flR _ _ _ _ _ _ (by decide), flR _ _ _ _ _ _ (by decide)]
    simp only [gi_si]
    rcases hk with rfl | rfl | rfl | rfl <;> simp
  have rA : gr A = gr M := by rw [← eA, gr_fb0]; rfl
  have lA : gl A = gl M := by rw [← eA]; rfl
  have tpA : TP A T t := ⟨mr_w hm rA, (fA 11 (by decide) (by decide) (by decide) (by decide)).trans tp.2.1, tp.2.2.1, (gA 6486 (by decide)).trans tp.2.2.2⟩
  have osA : ∀ {N}, PL A N → OS M N := by
    intro N pl
    refine ⟨pl.1.trans rA, fun a ha => (pl.2.2.1 a ha).trans (gA a (fun e => ha (by omega))), fun k hk => (pl.2.2.2 k (fun e => hk (by omega))).trans (fA k (fun e => hk (by omega)) (fun e => hk (by omega)) (fun e => hk (by omega)) (fun e => hk (by omega))), pl.2.1.trans lA⟩
  have b48 : ∀ N v, PL A N → (gi N 6027 16 ≤ 0 → ∃ D, MR N ∧ LB N D ∧ ∀ w, w < D → ¬ bad N D w) → X mM_library 48 [(0, .ref 6027), (1, .int v)] [] N (mC mM_library, mS mM_library) (QI K) := by
    intro N v pl hn
    have os := osA pl
    have ez : gi (si N 6027 11 0) 6027 16 = gi N 6027 16 := g6 _ _ _ _ (by decide)
    refine vM_library_48 rfl ⟨fun q => ?_, fun q => h0 _ _ ?_ (g6s _ _ _)⟩
    · rw [ez] at q
      obtain ⟨D, mN, lb, nb⟩ := hn q
      have mB : MR (si N 6027 11 0) := mr_w mN rfl
      have lB : LB (si N 6027 11 0) D := by
        refine ⟨by rw [g6 _ _ _ _ (by decide)]; exact lb.1, lb.2.1, by rw [g6 _ _ _ _ (by decide)]; exact lb.2.2.1, fun w hw => rk_eq (fun i _ => by rw [giR _ _ _ _ _ _ (by decide)]) (lb.2.2.2 w hw)⟩
      have nB : ∀ w, w < D → ¬ bad (si N 6027 11 0) D w := by
        intro w hw b
        refine nb w hw ?_
        unfold bad at b ⊢
        rw [gi_ne (show (6229 : Nat) ≠ 6027 by decide)] at b
        exact b
      obtain ⟨k1, k2, k3⟩ := kb_jw mB lB nB
      refine sM_keepLibrary mB lB.1 lB.2.1 k1 (vM_library_72 (h1 _ _ D ?_ ?_ k2 lB.2.1 k3))
      · have eg : gi (kbM (si N 6027 11 0) D) = gi (ffM (kb2 (si N 6027 11 0)) D) := (fs_fsM _ D).2.1
        refine ⟨?_, fun a ha => ?_, fun k hk => ?_, fun a j ha => ?_⟩
        · exact ((fs_fsM _ D).2.2.1.trans ((gr_ffM _ _).trans (gr_kb2 _))).trans os.1
        · rw [eg, ffM_ne _ _ _ (fun e => ha (by omega)) (fun e => ha (by omega))]
          funext k
          rw [kb2_ne _ _ _ (fun e => ha (by omega)) (fun e => ha (by omega)) (fun e => ha (by omega)), giR _ _ _ _ _ _ (fun e => ha (by omega)), os.2.1 a (fun e => ha (by omega))]
        · rw [eg, ffM_f _ _ _ (fun e => hk (by omega)) (fun e => hk (by omega)), kb2_f _ _ (fun e => hk (by omega)) (fun e => hk (by omega)), g6 _ _ _ _ (fun e => hk (by omega)), os.2.2.1 k (fun e => hk (by omega))]
        · unfold kbM
          rw [(fs_fsM _ D).2.2.2 a j ha, gl_ffM]
          show gl N a j = _
          rw [os.2.2.2]
      · unfold kbM
        rw [(fs_fsM _ D).2.1, ffM_f _ _ _ (by decide) (by decide), kb2_f _ _ (by decide) (by decide), g6s]
    · refine ⟨os.1, fun a ha => ?_, fun k hk => ?_, os.2.2.2⟩
      · rw [gi_ne (fun e => ha (by omega))]; exact os.2.1 a ha
      · rw [g6 _ _ _ _ (fun e => hk (by omega))]; exact os.2.2.1 k hk
  have key : ∀ n N s v, t < s.2.1 + n → PL A N → RD N T t s → (s.2.2.2.2.1 = 0 → ∃ D, LB N D) → X mM_library 20 [(0, .ref 6027), (1, .int v)] [] N (mC mM_library, mS mM_library) (QI K) := by
    intro n
    induction n with
    | zero =>
      intro N s v hn pl rN lb
      have := rN.2.2.2.2.2.2.2.2.1
      omega
    | succ n ih =>
      intro N s v hn pl rN lb
      have n16 := rN.2.2.2.2.2.1
      have mN := rN.1.1
      refine vM_library_20 rfl ⟨fun q => ?_, fun q => ?_⟩
      · by_cases z : s.2.2.2.2.1 = 0
        · obtain ⟨D, lb⟩ := lb z
          have hr : ∀ w, w < D → gi N 6229 (10 * w + 6) = -4 ∨ ∃ f, f < 24 ∧ gi N 6229 (10 * w + 6) = nI f := by
            intro w hw
            obtain ⟨-, k, hk, ek, h⟩ := lb.2.2.2 w hw
            exact h.imp (fun h => h.2) (fun h => h.2)
          refine nM_checks mN lb.1 lb.2.1 (fun _ => hr) (fun q => absurd (n16.trans z) q) (fun q nb => b48 N v pl (fun _ => ⟨D, mN, lb, nb⟩)) (fun q w hw b1 b2 => b48 _ v (pl_tr pl (pl_pf (pf_si (pf_si (pf_rf N) (by decide) (by decide)) (by decide) (by decide)))) (fun q => ?_))
          rw [g6 _ _ _ _ (by decide), g6s] at q
          exact absurd q (by decide)
        · have nz : ¬ gi N 6027 16 = 0 := by rw [n16]; exact z
          have nl : ¬ gi N 6027 16 ≤ 0 := by rw [n16]; exact rN.2.2.2.2.2.2.2.2.2.resolve_left z
          refine call_of rfl (Nat.le_of_ble_eq_true rfl) rfl (vM_checks_0 (vM_checks_2 rfl (mr4 mN) (mr7 mN) ⟨fun q => absurd q.2 nz, fun _ => b48 N v pl (fun q => absurd q nl), fun q => absurd q.2 nz⟩))
      · have z : s.2.2.2.2.1 = 0 := by rw [← n16]; exact q.1
        obtain ⟨D, lb⟩ := lb z
        refine nM_line rN lb (fun O u pO rO le hu => vM_library_38 ?_)
        by_cases y : u.2.2.2.2.1 = 0
        · obtain ⟨gt, E, lE⟩ := hu y
          exact ih O u _ (by omega) (pl_tr pl pO) rO (fun _ => ⟨E, lE⟩)
        · have o16 := rO.2.2.2.2.2.1
          have mO := rO.1.1
          have nz : ¬ gi O 6027 16 = 0 := by rw [o16]; exact y
          have nl : ¬ gi O 6027 16 ≤ 0 := by rw [o16]; exact rO.2.2.2.2.2.2.2.2.2.resolve_left y
          refine vM_library_20 rfl ⟨fun _ => ?_, fun q => absurd q.1 nz⟩
          exact call_of rfl (Nat.le_of_ble_eq_true rfl) rfl (vM_checks_0 (vM_checks_2 rfl (mr4 mO) (mr7 mO) ⟨fun q => absurd q.2 nz, fun _ => b48 O _ (pl_tr pl pO) (fun q => absurd q nl), fun q => absurd q.2 nz⟩))
  refine nM_next0 tpA (fz 12 (by decide)) (fz 16 (by decide)) (fun N pf rN => key (t + 1) N _ 0 (by omega) (pl_pf pf) rN (fun _ => ⟨0, ?_⟩))
  refine lb_pf pf ⟨fz 3 (by decide), by decide, ⟨0, by decide, fz 8 (by decide)⟩, fun w hw => absurd hw (by omega)⟩
