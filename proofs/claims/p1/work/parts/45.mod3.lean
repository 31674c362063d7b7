theorem kh_row {M : Mm} {K : Mm → Prop} (hm : MR M) (h : K (rwm M 7438 64 (gi M 7182))) : CV mM_keepHeld [.ref 6027] M K := by
  refine call_of rfl (Nat.le_of_ble_eq_true rfl) rfl (vM_keepHeld_0 ?_)
  have key := lp 64 (P := fun c => X mM_keepHeld 2 [(0, .ref 6027), (1, .int (nI c))] [] (rwm M 7438 c (gi M 7182)) (mC mM_keepHeld, mS mM_keepHeld) (QV K)) (fun c hc ih => ?_) ?_
  · rw [rwm_0] at key; exact key
  · have hm2 := mr_w hm (gr_rwm M 7438 c (gi M 7182))
    refine vM_keepHeld_2 rfl (mr34 hm2) (mr30 hm2) ⟨fun _ => vin hc (by decide), fun q => absurd q (nge rfl (by decide) hc), fun _ => ⟨vin hc (by decide), ?_⟩⟩
    rw [ncl (by omega), nI_s, rwmR _ _ _ _ _ _ (by decide), rwm_s]; exact ih
  · have hm2 := mr_w hm (gr_rwm M 7438 64 (gi M 7182))
    exact vM_keepHeld_2 rfl (mr34 hm2) (mr30 hm2) ⟨fun q => absurd (nself rfl) q, fun _ => h, fun q => absurd (nself rfl) q⟩
/-- the number c at the j-th step of the way down -/
def dn (j : Nat) : Int32 := 63 - nI j
theorem dn1 : ∀ j, j < 64 → dn j = nI (63 - j) ∧ dn j + (-1) = dn (j + 1) := by decide +kernel
def cnt (H W : Nat → Int32) : Nat → Int32
  | 0 => 0
  | j + 1 => cnt H W j + (if H (63 - j) = W (63 - j) then 0 else 1)
def fst (H W : Nat → Int32) : Nat → Int32
  | 0 => -4
  | j + 1 => if H (63 - j) = W (63 - j) then fst H W j else nI (63 - j)
theorem sM_findChanged {M : Mm} {K : Mm → Prop} (hm : MR M) (h : ∀ N, (∀ a, a ≠ 6027 → gi N a = gi M a) → (∀ j, j ≠ 35 → j ≠ 36 → gi N 6027 j = gi M 6027 j) → gl N = gl M → gr N = gr M → gi N 6027 35 = cnt (gi M 7182) (gi M 7438) 64 → gi N 6027 36 = fst (gi M 7182) (gi M 7438) 64 → K N) : CV mM_findChanged [.ref 6027] M K := by
  refine call_of rfl (Nat.le_of_ble_eq_true rfl) rfl (vM_findChanged_0 rfl ?_)
  have key := lp 64 (P := fun i => ∀ N, (∀ a, a ≠ 6027 → gi N a = gi M a) → (∀ j, j ≠ 35 → j ≠ 36 → gi N 6027 j = gi M 6027 j) → gl N = gl M → gr N = gr M → gi N 6027 35 = cnt (gi M 7182) (gi M 7438) i → gi N 6027 36 = fst (gi M 7182) (gi M 7438) i → X mM_findChanged 14 [(0, .ref 6027), (1, .int (dn i))] [] N (mC mM_findChanged, mS mM_findChanged) (QV K)) (fun i hi ih N f1 f2 f3 f4 f5 f6 => ?_) (fun N f1 f2 f3 f4 f5 f6 => ?_)
  · refine key _ (fun a ha => ?_) (fun j h1 h2 => ?_) rfl rfl ?_ ?_
    · funext k; rw [giR _ _ _ _ _ _ ha, giR _ _ _ _ _ _ ha]
    · rw [gi_si, if_neg (fun q => h2 q.2), gi_si, if_neg (fun q => h1 q.2)]
    · rw [gi_si, if_neg (by decide), gi_si, if_pos ⟨rfl, rfl⟩]; rfl
    · rw [gi_si, if_pos ⟨rfl, rfl⟩]; rfl
  · obtain ⟨e1, e2⟩ := dn1 i hi
    have hm2 := mr_w hm f4
    have hn : ¬ dn i < 0 := by rw [e1]; exact n0 _ (by omega)
    have hin : vp_in (dn i) 64 := by rw [e1]; exact vin (by omega) (by decide)
    have hcl : (dn i).toNatClampNeg = 63 - i := by rw [e1]; exact ncl (by omega)
    have g1 : gi N 7182 = gi M 7182 := f1 _ (by decide)
    have g2 : gi N 7438 = gi M 7438 := f1 _ (by decide)
    have go : ∀ w, w = (if gi M 7182 (63 - i) = gi M 7438 (63 - i) then 0 else 1) → X mM_findChanged 43 [(0, .ref 6027), (1, .int (dn i))] [.int w, .int (gi N 6027 35), .ref 6027] N (mC mM_findChanged, mS mM_findChanged) (QV K) := by
      intro w hw
      refine vM_findChanged_43 rfl rfl (mr30 hm2) (mr34 hm2) ⟨hin, hin, ?_⟩
      rw [e2, hcl, giR _ _ _ _ _ _ (by decide), giR _ _ _ _ _ _ (by decide), g1, g2]
      refine ih _ (fun a ha => ?_) (fun j h1 h2 => ?_) f3 f4 ?_ ?_
      · funext k; rw [giR _ _ _ _ _ _ ha, giR _ _ _ _ _ _ ha, f1 a ha]
      · rw [gi_si, if_neg (fun q => h2 q.2), gi_si, if_neg (fun q => h1 q.2)]; exact f2 j h1 h2
      · rw [gi_si, if_neg (by decide), gi_si, if_pos ⟨rfl, rfl⟩, f5, hw]; rfl
      · rw [gi_si, if_pos ⟨rfl, rfl⟩, show gi (si N 6027 35 (gi N 6027 35 + w)) 6027 36 = gi N 6027 36 from by rw [gi_si, if_neg (by decide)], f6, e1]; rfl
    refine vM_findChanged_14 rfl (mr30 hm2) (mr34 hm2) ⟨fun _ => hin, fun _ => hin, fun q => absurd q hn, fun q => go 1 ?_, fun q => go 0 ?_⟩
    · rw [hcl, g1, g2] at q; rw [if_neg q.2]
    · rw [hcl, g1, g2] at q; rw [if_pos q.2]
  · have hm2 := mr_w hm f4
    have hn : dn 64 < 0 := by decide +kernel
    exact vM_findChanged_14 rfl (mr30 hm2) (mr34 hm2) ⟨fun q => absurd hn q, fun q => absurd hn q, fun _ => h N f1 f2 f3 f4 f5 f6, fun q => absurd hn q.1, fun q => absurd hn q.1⟩
theorem cnt_same {H W : Nat → Int32} (h : ∀ c, c < 64 → H c = W c) : ∀ j, j ≤ 64 → cnt H W j = 0 ∧ fst H W j = -4 := by
  intro j
  induction j with
  | zero => intro _; exact ⟨rfl, rfl⟩
  | succ j ih =>
    intro hj
    have e := h (63 - j) (by omega)
    obtain ⟨i1, i2⟩ := ih (by omega)
    exact ⟨by rw [cnt, if_pos e, i1]; rfl, by rw [fst, if_pos e, i2]⟩
theorem xm_kh {M : Mm} (z : XM M) (f : Nat → Int32) : XM (rwm M 7438 64 f) := by
  refine ⟨mr_w z.1 (gr_rwm _ _ _ _), fun q hq j h1 h2 => ?_, z.2.2⟩
  have : ∀ q ∈ xl, q.1 ≠ 7438 := by decide +kernel
  rw [rwmR _ _ _ _ _ _ (this q hq)]; exact z.2.1 q hq j h1 h2
section MOD3
variable {M : Mm}
theorem yM_hangs {d w : Int32} {K : Int32 → Mm → Prop} (y : YM M) (h : ∀ N, K (fClash d w) N) : CI mM_hangs [.ref 6027, .int d, .int w] M K := by
  refine call_of rfl (Nat.le_of_ble_eq_true rfl) rfl (vM_hangs_0 (sM_isDoctor (fun q => vM_hangs_4 ⟨fun _ => ?_, fun q => absurd rfl q⟩) (fun i hi e => vM_hangs_4 ⟨fun q => absurd q (by decide), fun _ => sM_inE (fun q => vM_hangs_14 rfl ⟨fun q => absurd rfl q, fun _ => ?_⟩) (fun q => vM_hangs_14 rfl ⟨fun _ => xM_findAll (y_x y) (fun N f hh => vM_hangs_23 rfl (kh_row hh.1.1 ?_)), fun q => absurd q (by decide)⟩)⟩)))
  · have hh := h M; rwa [fClash, q, Bool.false_and, if_neg (by decide)] at hh
  · have hh := h M; rwa [fClash, q, Bool.and_false, if_neg (by decide)] at hh
  · subst e
    have z := xm_kh hh.1 (gi N 7182)
    have hw : ∀ c, c < 64 → gi (rwm N 7438 64 (gi N 7182)) 7438 c = -4 := fun c hc => by
      rw [gi_rwm, if_pos ⟨rfl, hc⟩]; exact (hh.2 c hc).1
    generalize rwm N 7438 64 (gi N 7182) = N1 at z hw
    refine vM_hangs_27 rfl (mr27 z.1) (mr28 z.1) ⟨vin hi (by decide), vin hi (by decide), ?_⟩
    rw [sl_same N1 _ _ 0 (z.2.2 _ _), sl_same N1 _ _ 0 (z.2.2 _ _)]
    refine xM_findHeld z (fun N2 f2 h2 => vM_hangs_45 rfl (sM_findChanged h2.1.1 (fun N3 _ _ _ _ e5 e6 => vM_hangs_49 rfl ?_)))
    have c0 := cnt_same (H := gi N2 7182) (W := gi N2 7438) (fun c hc => by
      rw [(h2.2 c hc).1, f2.1 7438 (by decide) (by decide) (by decide) (by decide), hw c hc]) 64 (by decide)
    rw [e5, e6, c0.1, c0.2]
    have := h N3
    rwa [fClash, yD hi, yE q, if_pos (by decide), fML] at this
theorem yM_held {c w : Int32} {K : Int32 → Mm → Prop} (y : YM M) (h : ∀ N, K (fHeld c w) N) : CI mM_held [.ref 6027, .int c, .int w] M K := by
  refine call_of rfl (Nat.le_of_ble_eq_true rfl) rfl (vM_held_0 (sM_isCase (fun q => vM_held_4 ⟨fun _ => ?_, fun q => absurd rfl q⟩) (fun i hi e => vM_held_4 ⟨fun q => absurd q (by decide), fun _ => sM_in (l := 0) (m := 3) rfl rfl (fun q => vM_held_16 rfl ⟨fun q => absurd rfl q, fun _ => ?_⟩) (fun q1 q2 => vM_held_16 rfl ⟨fun _ => xM_findAll (y_x y) (fun N f hh => ?_), fun q => absurd q (by decide)⟩)⟩)))
  · have hh := h M; rwa [fHeld, q, if_neg (by decide)] at hh
  · have hh := h M
    subst e
    rw [fHeld, yC hi, if_pos rfl] at hh
    rw [if_neg, if_neg, if_neg, if_neg] at hh
    · exact hh
    · rintro rfl; exact absurd q (by decide)
    · rintro rfl; exact absurd q (by decide)
    · rintro rfl; exact absurd q (by decide)
    · rintro rfl; exact absurd q (by decide)
  · subst e
    have h2 := h N
    rw [fHeld, yC hi, if_pos rfl] at h2
    obtain ⟨a1, a2, a3, a4⟩ := hh.2 i hi
    refine vM_held_25 rfl (mr33 hh.1.1) (mr32 hh.1.1) (mr31 hh.1.1) (mr30 hh.1.1) ⟨fun _ => vin hi (by decide), fun _ => vin hi (by decide), fun _ => vin hi (by decide), fun _ => vin hi (by decide), ?_⟩
    rw [ncl (by omega), a1, a2, a3, a4]
    obtain ⟨j, hj, rfl⟩ := rngL (c := 3) (n := 3) rfl (by decide) q1 q2
    match j, hj with
    | 0, _ => exact h2
    | 1, _ => exact h2
    | 2, _ => exact h2
    | 3, _ => exact h2
theorem sM_areAsked {w : Int32} {K : Int32 → Mm → Prop} (h1 : isK w = false → K 0 M) (h2 : isK w = true → K 1 M) : CI mM_areAsked [.ref 6027, .int w] M K := by
  refine call_of rfl (Nat.le_of_ble_eq_true rfl) rfl (x_loc [1] rfl (vM_areAsked_0 (sM_in (l := 0) (m := 2) rfl rfl (fun q => vM_areAsked_9 ⟨fun q => absurd rfl q, fun _ => sM_in (l := 10) (m := 14) rfl rfl (fun p => vM_areAsked_23 ⟨fun _ => h1 (decide_eq_false ?_), fun q => absurd rfl q⟩) (fun p1 p2 => vM_areAsked_23 ⟨fun q => absurd q (by decide), fun _ => h2 (decide_eq_true (Or.inr ⟨p1, p2⟩))⟩)⟩) (fun q1 q2 => vM_areAsked_9 ⟨fun _ => h2 (decide_eq_true (Or.inl ⟨q1, Int32.not_lt.mp q2⟩)), fun q => absurd q (by decide)⟩))))
  rintro (r | r)
  · exact q.elim r.1 (fun q => absurd r.2 (Int32.not_le.mpr q))
  · exact p.elim r.1 r.2
theorem yM_cases {w : Int32} {K : Int64 → Mm → Prop} (y : YM M) (h : ∀ N, K (fCases w) N) : CJ mM_cases [.ref 6027, .int w] M K := by
  refine call_of rfl (Nat.le_of_ble_eq_true rfl) rfl (vM_cases_0 rfl (sM_areAsked (fun q => vM_cases_5 rfl ⟨fun q => absurd rfl q, fun _ => ?_⟩) (fun q => vM_cases_5 rfl ⟨fun _ => xM_findAll (y_x y) (fun N f hh => vM_cases_14 ?_), fun q => absurd q (by decide)⟩)))
  · have hh := h M; rwa [fCases, q, if_neg (by decide)] at hh
  · have h2 := h N
    rw [fCases, q, if_pos rfl] at h2
    have key := lp 64 (P := fun c => X mM_cases 19 [(0, .ref 6027), (1, .int w), (2, .long (if w = 2 ∨ w = 10 then ones c else 0)), (4, .int (nI c))] [] N (mC mM_cases, mS mM_cases) (QJ K)) (fun c hc ih => ?_) ?_
    · rw [show ones 0 = 0 from rfl, ite_self] at key; exact key
    · obtain ⟨a1, a2, a3, a4⟩ := hh.2 c hc
      have nn : (nI c).toNatClampNeg = c := ncl (by omega)
      have w10 : (0 = w - 10) ↔ w = 10 := by
        constructor
        · intro e
          have : w - 10 + 10 = 0 + 10 := by rw [← e]
          rwa [Int32.sub_add_cancel, Int32.zero_add] at this
        · rintro rfl; decide
      have go0 : ¬ (w = 2 ∨ w = 10) → X mM_cases 116 [(0, .ref 6027), (1, .int w), (2, .long (if w = 2 ∨ w = 10 then ones c else 0)), (4, .int (nI c))] [.int 0] N (mC mM_cases, mS mM_cases) (QJ K) := by
        intro l
        refine vM_cases_116 ?_
        rw [if_neg l, if_pos rfl, nI_s]
        rw [if_neg l] at ih
        exact ih
      have go1 : (w = 2 ∨ w = 10) → X mM_cases 116 [(0, .ref 6027), (1, .int w), (2, .long (if w = 2 ∨ w = 10 then ones c else 0)), (4, .int (nI c))] [.int 1] N (mC mM_cases, mS mM_cases) (QJ K) := by
        intro l
        refine vM_cases_116 ?_
        rw [if_pos l, if_neg (by decide), nI_s]
        rw [if_pos l] at ih
        exact ih
      refine vM_cases_19 rfl (mr31 hh.1.1) (mr30 hh.1.1) ⟨fun _ => vin hc (by decide), fun _ => vin hc (by decide), fun _ => vin hc (by decide), fun _ => vin hc (by decide), fun q => absurd q (nge rfl (by decide) hc), fun q => go0 ?_, fun q => go1 ?_⟩ <;> rw [nn, a1, a2] at q
      · rintro (rfl | rfl)
        · rcases q with q | q | q | q
          · exact absurd rfl q.2.2.2.1
          · exact absurd rfl q.2.2.2.2
          · exact absurd q.2.2.1 (by decide)
          · exact absurd q.2.1 (by decide)
        · rcases q with q | q | q | q
          · exact absurd (by decide) q.2.2.2.2
          · exact absurd q.2.2.2.1 (by decide)
          · exact absurd q.2.2.1 (by decide)
          · exact absurd q.2.1 (by decide)
      · rcases q with q | q | q | q
        · exact Or.inr (w10.mp q.2.2.2.2)
        · exact Or.inl q.2.2.2.1
        · exact absurd q.2.2.2 (by decide)
        · exact absurd q.2.2 (by decide)
    · refine vM_cases_19 rfl (mr31 hh.1.1) (mr30 hh.1.1) ⟨fun q => absurd (nself rfl) q.1, fun q => absurd (nself rfl) q.1, fun q => absurd (nself rfl) q.1, fun q => absurd (nself rfl) q.1, fun _ => ?_, fun q => ?_, fun q => ?_⟩
      · rw [ones_64]; exact h2
      · rcases q with q | q | q | q <;> exact absurd (nself rfl) q.1
      · rcases q with q | q | q | q <;> exact absurd (nself rfl) q.1
theorem many1 {K : Int32 → Mm → Prop} (h : K 64 M) : CI mM_manyOf [.long (-1)] M K := by
  have bb : ∀ c, c < 64 → ((((-1 : Int64) >>> ((nI c).toInt64 &&& 63)) &&& 1).toInt32) = 1 := by decide +kernel
  refine call_of rfl (Nat.le_of_ble_eq_true rfl) rfl (vM_manyOf_0 ?_)
  have key := lp 64 (P := fun c => X mM_manyOf 4 [(0, .long (-1)), (2, .int (nI c)), (3, .int (nI c))] [] M (mC mM_manyOf, mS mM_manyOf) (QI K)) (fun c hc ih => ?_) ?_
  · exact key
  · refine vM_manyOf_4 ⟨fun q => absurd q (nge rfl (by decide) hc), fun _ => ?_⟩
    rw [bb c hc, nI_s]; exact ih
  · exact vM_manyOf_4 ⟨fun _ => h, fun q => absurd (nself rfl) q⟩
theorem yM_many {w : Int32} {K : Int32 → Mm → Prop} (y : YM M) (h : ∀ N, K (fMany w) N) : CI mM_many [.ref 6027, .int w] M K := by
  refine call_of rfl (Nat.le_of_ble_eq_true rfl) rfl (vM_many_0 rfl (sM_areAsked (fun q => vM_many_5 rfl ⟨fun _ => ?_, fun q => absurd rfl q⟩) (fun q => vM_many_5 rfl ⟨fun q => absurd q (by decide), fun _ => yM_cases y (fun N => vM_many_13 ?_)⟩)))
  · have hh := h M; rwa [fMany, q, if_neg (by decide)] at hh
  · have h2 := h N
    rw [fMany, q, if_pos rfl] at h2
    rw [fCases, q, if_pos rfl]
    by_cases l : w = 2 ∨ w = 10
    · rw [if_pos l] at h2 ⊢; exact many1 (vM_many_16 h2)
    · rw [if_neg l] at h2 ⊢; exact many0 (vM_many_16 h2)
theorem yM_reckon {c b yy n a : Int32} {K : Int32 → Mm → Prop} (y : YM M) (h : ∀ N, K (fReckon c b yy n a) N) : CI mM_reckon [.ref 6027, .int c, .int b, .int yy, .int n, .int a] M K := by
  refine call_of rfl (Nat.le_of_ble_eq_true rfl) rfl (vM_reckon_0 (sM_isCase (fun q => vM_reckon_4 rfl ⟨fun q => absurd rfl q, fun _ => ?_⟩) (fun i hi e => vM_reckon_4 rfl ⟨fun _ => xM_findAll (y_x y) (fun N f hh => ?_), fun q => absurd q (by decide)⟩)))
  · have hh := h M; rwa [fReckon, q, if_neg (by decide)] at hh
  · subst e
    have h2 := h N
    rw [fReckon, yC hi, if_pos rfl] at h2
    obtain ⟨a1, a2, a3, a4⟩ := hh.2 i hi
    refine vM_reckon_13 rfl (mr31 hh.1.1) (mr32 hh.1.1) (mr33 hh.1.1) (mr30 hh.1.1) ⟨vin hi (by decide), fun _ => vin hi (by decide), fun _ => vin hi (by decide), fun _ => vin hi (by decide), ?_⟩
    rw [ncl (by omega), a1, a2, a3, a4]; exact h2
theorem yM_widest {w : Int32} {K : Int32 → Mm → Prop} (y : YM M) (h : ∀ N, K (fWidest w) N) : CI mM_widest [.ref 6027, .int w] M K := by
  refine call_of rfl (Nat.le_of_ble_eq_true rfl) rfl (vM_widest_0 (sM_inE (fun q => vM_widest_7 rfl ⟨fun q => absurd rfl q, fun _ => ?_⟩) (fun q => vM_widest_7 rfl ⟨fun _ => xM_findAll (y_x y) (fun N f hh => vM_widest_16 ?_), fun q => absurd q (by decide)⟩)))
  · have hh := h M; rwa [fWidest, q, if_neg (by decide)] at hh
  · have h2 := h N
    rw [fWidest, yE q, if_pos rfl] at h2
    have key := lp 64 (P := fun c => X mM_widest 24 [(0, .ref 6027), (1, .int w), (2, .int (-4)), (3, .int 0), (4, .int (nI c))] [] N (mC mM_widest, mS mM_widest) (QI K)) (fun c hc ih => ?_) ?_
    · exact key
    · obtain ⟨a1, a2, a3, a4⟩ := hh.2 c hc
      have nn : (nI c).toNatClampNeg = c := ncl (by omega)
      have go : X mM_widest 65 [(0, .ref 6027), (1, .int w), (2, .int (-4)), (3, .int 0), (4, .int (nI c))] [.int 0] N (mC mM_widest, mS mM_widest) (QI K) := by
        refine vM_widest_65 rfl (mr32 hh.1.1) (mr33 hh.1.1) ⟨vin hc (by decide), vin hc (by decide), ?_⟩
        rw [nn, a3, a4, if_pos (by decide), if_pos (by decide), nI_s]; exact ih
      have nq := nge (c := 64) (i := c) (n := 64) rfl (by decide) hc
      refine vM_widest_24 rfl (mr32 hh.1.1) (mr33 hh.1.1) ⟨fun _ => vin hc (by decide), fun _ => vin hc (by decide), fun _ => vin hc (by decide), fun _ => vin hc (by decide), fun q => absurd q.1 nq, fun q => absurd q.1 nq, fun q => absurd q.1 nq, fun _ => ?_, fun _ => ?_⟩
      · rw [nn, a4]; exact go
      · rw [nn, a3]; exact go
    · exact vM_widest_24 rfl (mr32 hh.1.1) (mr33 hh.1.1) ⟨fun q => absurd (nself rfl) q, fun q => absurd (nself rfl) q, fun q => absurd (nself rfl) q.1, fun q => absurd (nself rfl) q.1, fun q => absurd rfl q.2.1, fun q => absurd rfl q.2.1, fun _ => h2, fun q => absurd (nself rfl) q.1, fun q => absurd (nself rfl) q.1⟩
theorem yM_near {c a w : Int32} {K : Int32 → Mm → Prop} (y : YM M) (h : ∀ N, K (fNear c a w) N) : CI mM_near [.ref 6027, .int c, .int a, .int w] M K := by
  refine call_of rfl (Nat.le_of_ble_eq_true rfl) rfl (vM_near_0 (sM_isCase (fun q => vM_near_4 ⟨fun _ => ?_, fun q => absurd rfl q⟩) (fun i hi e => vM_near_4 ⟨fun q => absurd q (by decide), fun _ => sM_inE (fun q => vM_near_14 ⟨fun _ => ?_, fun q => absurd rfl q⟩) (fun qa => vM_near_14 ⟨fun q => absurd q (by decide), fun _ => sM_inE (fun q => vM_near_24 rfl ⟨fun q => absurd rfl q, fun _ => ?_⟩) (fun qw => vM_near_24 rfl ⟨fun _ => xM_findAll (y_x y) (fun N f hh => vM_near_33 ?_), fun q => absurd q (by decide)⟩)⟩)⟩)))
  · have hh := h M; rwa [fNear, q, Bool.false_and, if_neg (by decide)] at hh
  · have hh := h M; rwa [fNear, q, Bool.false_and, Bool.and_false, if_neg (by decide)] at hh
  · have hh := h M; rwa [fNear, q, Bool.and_false, Bool.and_false, if_neg (by decide)] at hh
  · subst e
    have h2 := h N
    rw [fNear, yC hi, yE qa, yE qw, if_pos (by decide)] at h2
    have key := lp 64 (P := fun o => X mM_near 40 [(0, .ref 6027), (1, .int (nI i)), (2, .int a), (3, .int w), (4, .int (-4)), (5, .int (nI o))] [] N (mC mM_near, mS mM_near) (QI K)) (fun o hc ih => ?_) ?_
    · exact key
    · obtain ⟨a1, a2, a3, a4⟩ := hh.2 o hc
      have nq := nge (c := 64) (i := o) (n := 64) rfl (by decide) hc
      have na : ¬ gi N 7182 (nI o).toNatClampNeg = a := by
        rw [ncl (by omega), a1]; rcases qa with rfl | rfl <;> decide
      refine vM_near_40 rfl (mr30 hh.1.1) ⟨fun _ => vin hc (by decide), fun q => absurd q.1 nq, fun q => absurd q.1 nq, fun q => absurd q.1 nq, fun _ => vM_near_86 (vM_near_87 ?_), fun q => absurd q.2.1 na, fun q => absurd q.2.1 na⟩
      rw [if_pos rfl, nI_s]; exact ih
    · exact vM_near_40 rfl (mr30 hh.1.1) ⟨fun q => absurd (nself rfl) q, fun q => absurd rfl q.2.1, fun q => absurd rfl q.2.1, fun _ => h2, fun q => absurd (nself rfl) q.1, fun q => absurd (nself rfl) q.1, fun q => absurd (nself rfl) q.1⟩
theorem yM_bring {b : Int32} {K : Int32 → Mm → Prop} (y : YM M) (h : ∀ N, K (fBring b) N) : CI mM_bring [.ref 6027, .int b] M K := by
  refine call_of rfl (Nat.le_of_ble_eq_true rfl) rfl (vM_bring_0 (sM_in (l := 0) (m := 255) rfl rfl (fun q => vM_bring_9 rfl ⟨fun q => absurd rfl q, fun _ => ?_⟩) (fun q1 q2 => vM_bring_9 rfl ⟨fun _ => ?_, fun q => absurd q (by decide)⟩)))
  · have hh := h M; rwa [fBring, if_neg (fun p => q.elim p.1 (fun q => absurd p.2 (Int32.not_le.mpr q)))] at hh
  · have hh := h (si M 6027 9 b)
    rw [fBring, if_pos ⟨q1, Int32.not_lt.mp q2⟩] at hh
    rw [yf (v := 255) y (by decide +kernel)]; exact hh
theorem yM_copies {b n : Int32} {K : Int32 → Mm → Prop} (y : YM M) (h : ∀ N, K (fCopies b n) N) : CI mM_copies [.ref 6027, .int b, .int n] M K := by
  refine call_of rfl (Nat.le_of_ble_eq_true rfl) rfl (vM_copies_0 (sM_in (l := 0) (m := 7) rfl rfl (fun q => vM_copies_9 ⟨fun _ => ?_, fun q => absurd rfl q⟩) (fun q1 q2 => vM_copies_9 ⟨fun q => absurd q (by decide), fun _ => sM_in (l := 0) (m := 9) rfl rfl (fun q => vM_copies_21 rfl (mr2 y.1) ⟨fun q => absurd rfl q, fun q => absurd rfl q, fun _ => ?_⟩) (fun p1 p2 => ?_)⟩)))
  · have hh := h M; rwa [fCopies, nD (q.imp id (sgt (by decide)).mp), Bool.false_and, if_neg (by decide)] at hh
  · have hh := h M
    rwa [fCopies, show decide (¬ n < 0 ∧ n ≤ 9) = false from decide_eq_false (fun p => q.elim p.1 (fun q => absurd p.2 (Int32.not_le.mpr q))), Bool.and_false, if_neg (by decide)] at hh
  · obtain ⟨i, hi, rfl⟩ := rngL (c := 7) (n := 7) rfl (by decide) q1 q2
    refine vM_copies_21 rfl (mr2 y.1) ⟨fun _ => vin hi (by decide), fun _ => ⟨vin hi (by decide), ?_⟩, fun q => absurd q (by decide)⟩
    have hh := h (si M 6157 i n)
    rw [fCopies, yD hi, show decide (¬ n < 0 ∧ n ≤ 9) = true from decide_eq_true ⟨p1, Int32.not_lt.mp p2⟩, if_pos (by decide)] at hh
    have e2 : gi M 6157 i = 2 := ya y 8 (by decide +kernel) hi
    rw [ncl (by omega), e2]; exact hh
theorem yM_argue {c a w : Int32} {K : Int32 → Mm → Prop} (y : YM M) (h : ∀ N, K (fNear c a w) N) : CI mM_argue [.ref 6027, .int c, .int a, .int w] M K := by
  refine call_of rfl (Nat.le_of_ble_eq_true rfl) rfl (vM_argue_0 (sM_isCase (fun q => vM_argue_4 ⟨fun _ => ?_, fun q => absurd rfl q⟩) (fun i hi e => vM_argue_4 ⟨fun q => absurd q (by decide), fun _ => sM_inE (fun q => vM_argue_14 ⟨fun _ => ?_, fun q => absurd rfl q⟩) (fun qa => vM_argue_14 ⟨fun q => absurd q (by decide), fun _ => sM_inE (fun q => vM_argue_24 rfl ⟨fun q => absurd rfl q, fun _ => ?_⟩) (fun qw => vM_argue_24 rfl ⟨fun _ => ?_, fun q => absurd q (by decide)⟩)⟩)⟩)))
  · have hh := h M; rwa [fNear, q, Bool.false_and, if_neg (by decide)] at hh
  · have hh := h M; rwa [fNear, q, Bool.false_and, Bool.and_false, if_neg (by decide)] at hh
  · have hh := h M; rwa [fNear, q, Bool.and_false, Bool.and_false, if_neg (by decide)] at hh
  · subst e
    rw [fNear, yC hi, yE qa, yE qw, if_pos (by decide)] at h
    generalize gi M 6027 9 = br
    have key := lp 256 (P := fun s => ∀ N, XM N → X mM_argue 42 [(0, .ref 6027), (1, .int (nI i)), (2, .int a), (3, .int w), (4, .int br), (5, .int (-4)), (6, .int (nI s))] [] N (mC mM_argue, mS mM_argue) (QI K)) (fun s hs ih N z => ?_) (fun N z => ?_)
    · exact key M (y_x y)
    · refine vM_argue_42 rfl ⟨fun q => absurd q (nge rfl (by decide) hs), fun _ => vM_argue_70 rfl (xM_findAll (xm_si z (by rfl)) (fun N f hh => vM_argue_80 rfl (mr30 hh.1.1) ⟨vin hi (by decide), ?_⟩)), fun q => absurd rfl q.2⟩
      rw [ncl (show i < 2 ^ 31 by omega), (hh.2 i hi).1, if_neg (by rcases qa with rfl | rfl <;> decide), nI_s]
      exact ih N hh.1
    · exact vM_argue_42 rfl ⟨fun _ => ⟨fun q => absurd rfl q.1, fun q => absurd rfl q.1, fun _ => h _⟩, fun q => absurd (nself rfl) q.1, fun q => absurd (nself rfl) q.1⟩
end MOD3
