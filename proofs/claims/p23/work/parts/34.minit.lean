/-! ===== the reference: how it lies, its beginning ===== -/
def mrt : List (Nat × Nat) := [(1, 6101), (2, 6157), (4, 6229), (5, 6285), (6, 6360), (7, 6423), (10, 6486), (18, 6543), (19, 6607), (20, 6671), (21, 6745), (22, 6807), (25, 6874), (26, 6938), (27, 7003), (28, 7067), (29, 7131), (30, 7182), (31, 7246), (32, 7310), (33, 7374), (34, 7438), (37, 7502), (38, 7582), (40, 7644), (41, 7708), (42, 7773)]
def MR (M : Mm) : Prop := ∀ q ∈ mrt, gr M 6027 q.1 = some q.2
theorem mr1 {M : Mm} (h : MR M) : gr M 6027 1 = some 6101 := h (1, 6101) (by decide)
theorem mr2 {M : Mm} (h : MR M) : gr M 6027 2 = some 6157 := h (2, 6157) (by decide)
theorem mr4 {M : Mm} (h : MR M) : gr M 6027 4 = some 6229 := h (4, 6229) (by decide)
theorem mr5 {M : Mm} (h : MR M) : gr M 6027 5 = some 6285 := h (5, 6285) (by decide)
theorem mr6 {M : Mm} (h : MR M) : gr M 6027 6 = some 6360 := h (6, 6360) (by decide)
theorem mr7 {M : Mm} (h : MR M) : gr M 6027 7 = some 6423 := h (7, 6423) (by decide)
theorem mr10 {M : Mm} (h : MR M) : gr M 6027 10 = some 6486 := h (10, 6486) (by decide)
theorem mr18 {M : Mm} (h : MR M) : gr M 6027 18 = some 6543 := h (18, 6543) (by decide)
theorem mr19 {M : Mm} (h : MR M) : gr M 6027 19 = some 6607 := h (19, 6607) (by decide)
theorem mr20 {M : Mm} (h : MR M) : gr M 6027 20 = some 6671 := h (20, 6671) (by decide)
theorem mr21 {M : Mm} (h : MR M) : gr M 6027 21 = some 6745 := h (21, 6745) (by decide)
theorem mr22 {M : Mm} (h : MR M) : gr M 6027 22 = some 6807 := h (22, 6807) (by decide)
theorem mr25 {M : Mm} (h : MR M) : gr M 6027 25 = some 6874 := h (25, 6874) (by decide)
theorem mr26 {M : Mm} (h : MR M) : gr M 6027 26 = some 6938 := h (26, 6938) (by decide)
theorem mr27 {M : Mm} (h : MR M) : gr M 6027 27 = some 7003 := h (27, 7003) (by decide)
theorem mr28 {M : Mm} (h : MR M) : gr M 6027 28 = some 7067 := h (28, 7067) (by decide)
theorem mr29 {M : Mm} (h : MR M) : gr M 6027 29 = some 7131 := h (29, 7131) (by decide)
theorem mr30 {M : Mm} (h : MR M) : gr M 6027 30 = some 7182 := h (30, 7182) (by decide)
theorem mr31 {M : Mm} (h : MR M) : gr M 6027 31 = some 7246 := h (31, 7246) (by decide)
theorem mr32 {M : Mm} (h : MR M) : gr M 6027 32 = some 7310 := h (32, 7310) (by decide)
theorem mr33 {M : Mm} (h : MR M) : gr M 6027 33 = some 7374 := h (33, 7374) (by decide)
theorem mr34 {M : Mm} (h : MR M) : gr M 6027 34 = some 7438 := h (34, 7438) (by decide)
theorem mr37 {M : Mm} (h : MR M) : gr M 6027 37 = some 7502 := h (37, 7502) (by decide)
theorem mr38 {M : Mm} (h : MR M) : gr M 6027 38 = some 7582 := h (38, 7582) (by decide)
theorem mr40 {M : Mm} (h : MR M) : gr M 6027 40 = some 7644 := h (40, 7644) (by decide)
theorem mr41 {M : Mm} (h : MR M) : gr M 6027 41 = some 7708 := h (41, 7708) (by decide)
theorem mr42 {M : Mm} (h : MR M) : gr M 6027 42 = some 7773 := h (42, 7773) (by decide)
theorem si_fl (M : Mm) (a b j n : Nat) (v w : Int32) (h : a ≠ b) : si (fl M b n w) a j v = fl (si M a j v) b n w := by
  refine mm_ext rfl (fun c k => ?_) (fun _ _ => rfl) (fun _ _ => rfl)
  simp only [gi_si, gi_fl]
  by_cases p : c = a ∧ k = j
  · have q : ¬ (c = b ∧ k < n) := fun q => h (p.1.symm.trans q.1)
    rw [if_pos p, if_neg q, if_pos p]
  · rw [if_neg p]
    by_cases q : c = b ∧ k < n
    · rw [if_pos q, if_pos q]
    · rw [if_neg q, if_neg q, if_neg p]
theorem si_rwm (M : Mm) (a b j n : Nat) (v : Int32) (w : Nat → Int32) (h : a ≠ b) : si (rwm M b n w) a j v = rwm (si M a j v) b n w := by
  refine mm_ext rfl (fun c k => ?_) (fun _ _ => rfl) (fun _ _ => rfl)
  simp only [gi_si, gi_rwm]
  by_cases p : c = a ∧ k = j
  · have q : ¬ (c = b ∧ k < n) := fun q => h (p.1.symm.trans q.1)
    rw [if_pos p, if_neg q, if_pos p]
  · rw [if_neg p]
    by_cases q : c = b ∧ k < n
    · rw [if_pos q, if_pos q]
    · rw [if_neg q, if_neg q, if_neg p]
theorem fl2_s (M : Mm) (a b i : Nat) (v w : Int32) (h : a ≠ b) : si (si (fl (fl M a i v) b i w) a i v) b i w = fl (fl M a (i + 1) v) b (i + 1) w := by
  rw [si_fl _ _ _ _ _ _ _ h, fl_s, fl_s]
theorem rw2_s (M : Mm) (a b i : Nat) (f g : Nat → Int32) (h : a ≠ b) : si (si (rwm (rwm M a i f) b i g) a i (f i)) b i (g i) = rwm (rwm M a (i + 1) f) b (i + 1) g := by
  rw [si_rwm _ _ _ _ _ _ _ h, rwm_s, rwm_s]
theorem rwfl_s (M : Mm) (a b i : Nat) (v : Int32) (g : Nat → Int32) (h : a ≠ b) : si (si (rwm (fl M a i v) b i g) a i v) b i (g i) = rwm (fl M a (i + 1) v) b (i + 1) g := by
  rw [si_rwm _ _ _ _ _ _ _ h, fl_s, rwm_s]
theorem rwm_cg (M : Mm) (a n : Nat) (f g : Nat → Int32) (h : ∀ k, k < n → f k = g k) : rwm M a n f = rwm M a n g := by
  refine mm_ext rfl (fun b k => ?_) (fun _ _ => rfl) (fun _ _ => rfl)
  rw [gi_rwm, gi_rwm]
  by_cases e : b = a ∧ k < n
  · rw [if_pos e, if_pos e, h k e.2]
  · rw [if_neg e, if_neg e]
theorem gr_si (M : Mm) (a j : Nat) (v : Int32) : gr (si M a j v) = gr M := rfl
theorem gr_fl (M : Mm) (a n : Nat) (v : Int32) : gr (fl M a n v) = gr M := rfl
theorem gr_rwm (M : Mm) (a n : Nat) (f : Nat → Int32) : gr (rwm M a n f) = gr M := rfl
theorem mr_w {M N : Mm} (h : MR M) (e : gr N = gr M) : MR N := fun q hq => by rw [e]; exact h q hq
def fb0 (M : Mm) : Mm := fl (fl (si (si M 6027 3 0) 6027 8 0) 6285 8 2) 6360 8 0
theorem gr_fb0 (M : Mm) : gr (fb0 M) = gr M := by unfold fb0; simp only [gr_fl, gr_si]
theorem sM_firstLibrary {M : Mm} {K : Mm → Prop} (hm : MR M) (h : K (fb0 M)) : CV mM_firstLibrary [.ref 6027] M K := by
  refine call_of rfl (Nat.le_of_ble_eq_true rfl) rfl ?_
  refine vM_firstLibrary_0 rfl ?_
  have key := lp 8 (P := fun i => X mM_firstLibrary 12 [(0, .ref 6027), (1, .int (nI i))] [] (fl (fl (si (si M 6027 3 0) 6027 8 0) 6285 i 2) 6360 i 0) (mC mM_firstLibrary, mS mM_firstLibrary) (QV K)) (fun i hi ih => ?_) ?_
  · rw [fl_0, fl_0] at key
    exact key
  · refine vM_firstLibrary_12 rfl (mr5 hm) (mr6 hm) ⟨fun q => absurd q (nge rfl (by decide) hi), fun _ => ⟨vin hi (by decide), vin hi (by decide), ?_⟩⟩
    rw [ncl (by omega), nI_s, show vp_nar .boolean 0 = 0 from rfl, fl2_s _ _ _ _ _ _ (by decide)]
    exact ih
  · exact vM_firstLibrary_12 rfl (mr5 hm) (mr6 hm) ⟨fun _ => h, fun q => absurd (nself rfl) q⟩
theorem sM_findFollowing0 {M : Mm} {K : Mm → Prop} (hm : MR M) (hz : gi M 6027 0 = 0) (h : K (si (si M 6027 23 0) 6027 24 0)) : CV mM_findFollowing [.ref 6027] M K := by
  refine call_of rfl (Nat.le_of_ble_eq_true rfl) rfl ?_
  have e : gi M 6027 0 ≤ 0 := by rw [hz]; exact Int32.le_refl _
  refine vM_findFollowing_0 ?_
  refine vM_findFollowing_2 rfl (mr22 hm) ⟨fun _ => ?_, fun q => absurd e q⟩
  refine vM_findFollowing_29 rfl ⟨fun _ => ?_, fun q => absurd e q⟩
  refine vM_findFollowing_99 rfl (mr22 hm) ⟨fun q => absurd e q, fun _ => ?_, fun q => absurd e q⟩
  exact vM_findFollowing_142 rfl (mr22 hm) ⟨fun q => absurd e q, fun _ => h, fun q => absurd e q.1, fun q => absurd e q.1⟩
theorem sM_findSaid0 {M : Mm} {K : Mm → Prop} (hm : MR M) (hz : gi M 6027 0 = 0) (h : K M) : CV mM_findSaid [.ref 6027] M K := by
  refine call_of rfl (Nat.le_of_ble_eq_true rfl) rfl ?_
  have e : gi M 6027 0 ≤ 0 := by rw [hz]; exact Int32.le_refl _
  refine vM_findSaid_0 ?_
  refine vM_findSaid_4 rfl (mr25 hm) (mr26 hm) ⟨fun _ => ?_, fun q => absurd e q⟩
  exact vM_findSaid_34 rfl ⟨fun _ => h, fun q => absurd e q⟩
def kb1 (M : Mm) : Mm := rwm (si M 6027 0 (gi M 6027 3)) 6101 250 (gi M 6229)
def kb2 (M : Mm) : Mm := si (rwm (kb1 M) 6157 8 (gi M 6285)) 6027 9 255
def kb0 (M : Mm) : Mm := si (si (kb2 M) 6027 23 0) 6027 24 0
theorem gr_kb1 (M : Mm) : gr (kb1 M) = gr M := by unfold kb1; simp only [gr_rwm, gr_si]
theorem gr_kb2 (M : Mm) : gr (kb2 M) = gr M := by unfold kb2; simp only [gr_rwm, gr_si, gr_kb1]
theorem gr_kb0 (M : Mm) : gr (kb0 M) = gr M := by unfold kb0; simp only [gr_si, gr_kb2]
theorem sM_keepLibrary0 {M : Mm} {K : Mm → Prop} (hm : MR M) (hz : gi M 6027 3 = 0) (h : K (kb0 M)) : CV mM_keepLibrary [.ref 6027] M K := by
  refine call_of rfl (Nat.le_of_ble_eq_true rfl) rfl ?_
  refine vM_keepLibrary_0 rfl ?_
  have k2 : X mM_keepLibrary 37 [(0, .ref 6027), (1, .int 0)] [] (kb1 M) (mC mM_keepLibrary, mS mM_keepLibrary) (QV K) := by
    have key := lp 8 (P := fun i => X mM_keepLibrary 37 [(0, .ref 6027), (1, .int (nI i))] [] (rwm (kb1 M) 6157 i (gi M 6285)) (mC mM_keepLibrary, mS mM_keepLibrary) (QV K)) (fun i hi ih => ?_) ?_
    · rw [rwm_0] at key
      exact key
    · have hm := mr_w hm (show gr (rwm (kb1 M) 6157 i (gi M 6285)) = gr M from by rw [gr_rwm, gr_kb1])
      refine vM_keepLibrary_37 rfl (mr2 hm) (mr5 hm) ⟨fun _ => vin hi (by decide), fun q => absurd q (nge rfl (by decide) hi), fun _ => ⟨vin hi (by decide), ?_⟩⟩
      rw [ncl (by omega), nI_s, rwmR _ _ _ _ _ _ (by decide)]
      rw [show gi (kb1 M) 6285 i = gi M 6285 i from rwmR _ _ _ _ _ _ (by decide), rwm_s]
      exact ih
    · have hm1 := mr_w hm (show gr (rwm (kb1 M) 6157 8 (gi M 6285)) = gr M from by rw [gr_rwm, gr_kb1])
      refine vM_keepLibrary_37 rfl (mr2 hm1) (mr5 hm1) ⟨fun q => absurd (nself rfl) q, fun _ => ?_, fun q => absurd (nself rfl) q⟩
      have e : gi (kb2 M) 6027 0 = 0 := by
        unfold kb2
        rw [gi_si, if_neg (by decide), rwmR _ _ _ _ _ _ (by decide), kb1, rwmR _ _ _ _ _ _ (by decide), gi_si, if_pos ⟨rfl, rfl⟩, hz]
      refine sM_findFollowing0 (M := kb2 M) (mr_w hm (gr_kb2 M)) e ?_
      refine vM_keepLibrary_72 rfl ?_
      refine sM_findSaid0 (M := kb0 M) (mr_w hm (gr_kb0 M)) (by unfold kb0; rw [gi_si, if_neg (by decide), gi_si, if_neg (by decide), e]) ?_
      exact vM_keepLibrary_76 h
  have key := lp 250 (P := fun i => X mM_keepLibrary 10 [(0, .ref 6027), (1, .int (nI i))] [] (rwm (si M 6027 0 (gi M 6027 3)) 6101 i (gi M 6229)) (mC mM_keepLibrary, mS mM_keepLibrary) (QV K)) (fun i hi ih => ?_) ?_
  · rw [rwm_0] at key
    exact key
  · refine vM_keepLibrary_10 rfl (mr1 hm) (mr4 hm) ⟨fun _ => vin hi (by decide), fun q => absurd q (nge rfl (by decide) hi), fun _ => ⟨vin hi (by decide), ?_⟩⟩
    rw [ncl (by omega), nI_s, rwmR _ _ _ _ _ _ (by decide), giR _ _ _ _ _ _ (by decide), rwm_s]
    exact ih
  · exact vM_keepLibrary_10 rfl (mr1 hm) (mr4 hm) ⟨fun q => absurd (nself rfl) q, fun _ => k2, fun q => absurd (nself rfl) q⟩
/-- THE RULE as told at first -/
def dv (k : Nat) : Int32 := if k = 0 then 31 else if k = 1 then 2 else if k = 4 then -4 else if k = 5 then -4 else if k = 6 then 1 else 0
def fu0 (M : Mm) : Mm := rwm (fl M 6745 7 0) 6671 7 dv
theorem sM_firstRule {M : Mm} {K : Mm → Prop} (hm : MR M) (h : K (fu0 M)) : CV mM_firstRule [.ref 6027] M K := by
  refine call_of rfl (Nat.le_of_ble_eq_true rfl) rfl ?_
  refine vM_firstRule_0 ?_
  have key := lp 7 (P := fun i => X mM_firstRule 2 [(0, .ref 6027), (1, .int (nI i))] [] (rwm (fl M 6745 i 0) 6671 i dv) (mC mM_firstRule, mS mM_firstRule) (QV K)) (fun i hi ih => ?_) ?_
  · rw [fl_0, rwm_0] at key
    exact key
  · have go : ∀ w, w = dv i → X mM_firstRule 64 [(0, .ref 6027), (1, .int (nI i))] [.int w, .int (nI i), .ref 6671] (si (rwm (fl M 6745 i 0) 6671 i dv) 6745 (nI i).toNatClampNeg (vp_nar .boolean 0)) (mC mM_firstRule, mS mM_firstRule) (QV K) := by
      rintro w rfl
      refine vM_firstRule_64 rfl ⟨vin hi (by decide), ?_⟩
      rw [ncl (by omega), nI_s, show vp_nar .boolean 0 = 0 from rfl, rwfl_s _ _ _ _ _ _ (by decide)]
      exact ih
    have nz : ∀ j, j < 7 → ((nI i = nI j) ↔ i = j) := fun j hj => ninj (by omega) (by omega)
    have e0 : (nI i = 0) ↔ i = 0 := nz 0 (by decide)
    have e1 : (nI i = 1) ↔ i = 1 := nz 1 (by decide)
    have e4 : (nI i = 4) ↔ i = 4 := nz 4 (by decide)
    have e5 : (nI i = 5) ↔ i = 5 := nz 5 (by decide)
    have e6 : (nI i = 6) ↔ i = 6 := nz 6 (by decide)
    refine vM_firstRule_2 rfl (mr21 hm) (mr20 hm) ⟨fun q => absurd q (nge rfl (by decide) hi), fun _ => ⟨vin hi (by decide), fun q => go _ ?_, fun q => go _ ?_, fun q => go _ ?_, fun q => go _ ?_, fun q => go _ ?_⟩⟩ <;> simp only [e0, e1, e4, e5, e6] at q <;> unfold dv
    · rcases q with q | q <;> simp [q]
    · simp [q]
    · simp [q]
    · simp [q]
    · simp [q]
  · exact vM_firstRule_2 rfl (mr21 hm) (mr20 hm) ⟨fun _ => h, fun q => absurd (nself rfl) q⟩
theorem gr_fu0 (M : Mm) : gr (fu0 M) = gr M := by unfold fu0; simp only [gr_rwm, gr_fl]
def mt1 (M : Mm) : Mm := fu0 (kb0 (fb0 (fl M 7644 4 (-4))))
def mt0 (M : Mm) : Mm := rwm (rwm (mt1 M) 6543 7 (gi (mt1 M) 6671)) 6607 7 (gi (mt1 M) 6671)
theorem gr_mt1 (M : Mm) : gr (mt1 M) = gr M := by unfold mt1; rw [gr_fu0, gr_kb0, gr_fb0, gr_fl]
theorem sM_init_tail {M : Mm} {b : Nat × Nat} {K : Mm → Prop} (hm : MR M) (h : K (mt0 M)) : X mM_init 230 [(0, .ref 6027)] [] M b (QV K) := by
  refine vM_init_230 ?_
  have k1 : X mM_init 265 [(0, .ref 6027), (1, .int 0)] [] (mt1 M) b (QV K) := by
    have key := lp 7 (P := fun i => X mM_init 265 [(0, .ref 6027), (1, .int (nI i))] [] (rwm (rwm (mt1 M) 6543 i (gi (mt1 M) 6671)) 6607 i (gi (mt1 M) 6671)) b (QV K)) (fun i hi ih => ?_) ?_
    · rw [rwm_0, rwm_0] at key
      exact key
    · have hm := mr_w hm (show gr (rwm (rwm (mt1 M) 6543 i (gi (mt1 M) 6671)) 6607 i (gi (mt1 M) 6671)) = gr M from by rw [gr_rwm, gr_rwm, gr_mt1])
      refine vM_init_265 rfl (mr18 hm) (mr20 hm) (mr19 hm) ⟨fun _ => vin hi (by decide), fun q => absurd q (nge rfl (by decide) hi), fun _ => ⟨vin hi (by decide), vin hi (by decide), vin hi (by decide), ?_⟩⟩
      rw [ncl (by omega), nI_s, giR _ _ _ _ _ _ (by decide), rwmR _ _ _ _ _ _ (by decide), rwmR _ _ _ _ _ _ (by decide), rw2_s _ _ _ _ _ _ (by decide)]
      exact ih
    · have hm := mr_w hm (show gr (rwm (rwm (mt1 M) 6543 7 (gi (mt1 M) 6671)) 6607 7 (gi (mt1 M) 6671)) = gr M from by rw [gr_rwm, gr_rwm, gr_mt1])
      exact vM_init_265 rfl (mr18 hm) (mr20 hm) (mr19 hm) ⟨fun q => absurd (nself rfl) q, fun _ => h, fun q => absurd (nself rfl) q⟩
  have key := lp 4 (P := fun i => X mM_init 232 [(0, .ref 6027), (1, .int (nI i))] [] (fl M 7644 i (-4)) b (QV K)) (fun i hi ih => ?_) ?_
  · rw [fl_0] at key
    exact key
  · refine vM_init_232 rfl (mr40 hm) ⟨fun q => absurd q (nge rfl (by decide) hi), fun _ => ⟨vin hi (by decide), ?_⟩⟩
    rw [ncl (by omega), nI_s, fl_s]
    exact ih
  · refine vM_init_232 rfl (mr40 hm) ⟨fun _ => ?_, fun q => absurd (nself rfl) q⟩
    refine sM_firstLibrary hm ?_
    refine vM_init_255 rfl ?_
    refine sM_keepLibrary0 (M := fb0 (fl M 7644 4 (-4))) (mr_w hm (by rw [gr_fb0, gr_fl])) ?_ ?_
    · unfold fb0
      rw [flR _ _ _ _ _ _ (by decide), flR _ _ _ _ _ _ (by decide), gi_si, if_neg (by decide), gi_si, if_pos ⟨rfl, rfl⟩]
    · refine vM_init_259 rfl ?_
      refine sM_firstRule (M := kb0 (fb0 (fl M 7644 4 (-4)))) (mr_w hm (by rw [gr_kb0, gr_fb0, gr_fl])) ?_
      exact vM_init_263 k1
theorem rwm7 (M : Mm) (a : Nat) (f : Nat → Int32) : rwm M a 7 f = si (si (si (si (si (si (si M a 0 (f 0)) a 1 (f 1)) a 2 (f 2)) a 3 (f 3)) a 4 (f 4)) a 5 (f 5)) a 6 (f 6) := by
  rw [← rwm_s, ← rwm_s, ← rwm_s, ← rwm_s, ← rwm_s, ← rwm_s, ← rwm_s, rwm_0]
