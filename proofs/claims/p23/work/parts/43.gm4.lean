/-! ===== the reference at any state: the queries ===== -/
theorem yC {i : Nat} (h : i < 64) : isC (nI i) = true := decide_eq_true ⟨n0 i (by omega), nge rfl (by decide) h⟩
theorem yD {i : Nat} (h : i < 8) : isD (nI i) = true := decide_eq_true ⟨n0 i (by omega), nge rfl (by decide) h⟩
theorem yS {i : Nat} (h : i < 4) : isS (nI i) = true := decide_eq_true ⟨n0 i (by omega), nge rfl (by decide) h⟩
theorem yL {c : Int32} (q1 : ¬ c < 0) (q2 : ¬ 2 < c) : isL c = true := decide_eq_true ⟨q1, q2⟩
theorem yE {c : Int32} (q : c = 0 ∨ c = 1) : isE c = true := decide_eq_true q
/-- the state when the doctors are found -/
def EO (M : Mm) (W : Nat) : Mm := (M.1, gi M, (fun a k => if a = 7003 ∧ k < 8 then eyv M W (nI k) 64 else if a = 7067 ∧ k < 8 then enw M W (nI k) 64 else gl M a k), gr M)
theorem gl_eo (M : Mm) (W a k : Nat) : gl (EO M W) a k = if a = 7003 ∧ k < 8 then eyv M W (nI k) 64 else if a = 7067 ∧ k < 8 then enw M W (nI k) 64 else gl M a k := rfl
theorem eo_sm (M : Mm) (W : Nat) : SM W M (EO M W) := by
  refine ⟨rfl, fun _ _ => rfl, rfl, rfl, rfl, rfl, rfl, fun k _ => ?_, fun k _ => ?_⟩
  · rw [gl_eo, if_neg (by simp), if_neg (by simp)]
  · rw [gl_eo, if_neg (by simp), if_neg (by simp)]
theorem sb_cg {G H : Nat → Nat → Int64} {a c : Nat} : ∀ n, (∀ e, e < n → G a e = H a e) → sb G a c n = sb H a c n
  | 0, _ => rfl
  | n + 1, h => by rw [sb, sb, sb_cg n (fun e he => h e (by omega)), h n (by omega)]
theorem hf_eo {M O N : Mm} {W c : Nat} (hh : HD M) (e : EF M O) (v : ∀ d, d < 8 → EV M W O d) (h : HF O W N c) : HF (EO M W) W N c := by
  have g3 : ∀ k, k < 8 → gl O 7003 k = gl (EO M W) 7003 k := fun k hk => by rw [gl_eo, if_pos ⟨rfl, hk⟩]; exact (v k hk).2.1
  have g6 : ∀ k, k < 8 → gl O 7067 k = gl (EO M W) 7067 k := fun k hk => by rw [gl_eo, if_neg (by simp), if_pos ⟨rfl, hk⟩]; exact (v k hk).2.2
  have s3 : sb (gl O) 7003 c 8 = sb (gl (EO M W)) 7003 c 8 := sb_cg 8 g3
  have s6 : sb (gl O) 7067 c 8 = sb (gl (EO M W)) 7067 c 8 := sb_cg 8 g6
  have i43 : gi O 6543 = gi (EO M W) 6543 := by rw [e.1]; rfl
  have l : laV O W (nI c) = laV (EO M W) W (nI c) := (laV_sm (ef_sm e) _).trans (laV_sm (eo_sm M W) _).symm
  have hd : hdv O c = hdv (EO M W) c := by
    unfold hdv
    rw [i43]
    by_cases q : gi (EO M W) 6543 4 = -4
    · rw [if_pos q, if_pos q]
    · rw [if_neg q, if_neg q]
      rcases hh with hh | ⟨k, hk, hh⟩
      · exact absurd hh q
      · rw [show gi (EO M W) 6543 4 = nI k from hh, ncl (by omega), g3 k hk, g6 k hk]
  obtain ⟨h1, h2, h3, h4⟩ := h
  refine ⟨h1.trans s3, h2.trans s6, h3.trans ?_, h4.trans ?_⟩
  · unfold byv; rw [l, s3, s6, hd, i43]
  · unfold hev; rw [l, s3, s6, hd, i43]
theorem tM_findAll {M : Mm} {W : Nat} {K : Mm → Prop} (j : JW M W) (hh : HD M) (h : ∀ N, AF M N → (∀ c, c < 64 → HF (EO M W) W N c) → (∀ d, d < 8 → EV M W N d) → K N) : CV mM_findAll [.ref 6027] M K :=
  sM_findAll j hh (fun O N e v f hf => h N (af_tr (af_ef e) (af_fr f)) (fun c hc => hf_eo hh e v (hf c hc)) (fun d hd => by unfold EV; rw [f.2.1]; exact v d hd))
theorem kh_row {M : Mm} {K : Mm → Prop} (hm : MR M) (h : K (rwm M 7438 64 (gi M 7182))) : CV mM_keepHeld [.ref 6027] M K := by
  refine call_of rfl (Nat.le_of_ble_eq_true rfl) rfl (vM_keepHeld_0 ?_)
  have key := lp 64 (P := fun c => X mM_keepHeld 2 [(0, .ref 6027), (1, .int (nI c))] [] (rwm M 7438 c (gi M 7182)) (mC mM_keepHeld, mS mM_keepHeld) (QV K)) (fun c hc ih => ?_) ?_
  · rw [rwm_0] at key; exact key
  · have hm2 := mr_w hm (gr_rwm M 7438 c (gi M 7182))
    refine vM_keepHeld_2 rfl (mr34 hm2) (mr30 hm2) ⟨fun _ => vin hc (by decide), fun q => absurd q (nge rfl (by decide) hc), fun _ => ⟨vin hc (by decide), ?_⟩⟩
    rw [ncl (by omega), nI_s, rwmR _ _ _ _ _ _ (by decide), rwm_s]; exact ih
  · have hm2 := mr_w hm (gr_rwm M 7438 64 (gi M 7182))
    exact vM_keepHeld_2 rfl (mr34 hm2) (mr30 hm2) ⟨fun q => absurd (nself rfl) q, fun _ => h, fun q => absurd (nself rfl) q⟩
/-- the number c at the j-th step of the way down -/
def dn (j : Nat) : Int32 := 63 - nI j
theorem dn1 : ∀ j, j < 64 → dn j = nI (63 - j) ∧ dn j + (-1) = dn (j + 1) := by decide +kernel
def cnt (H W : Nat → Int32) : Nat → Int32
  | 0 => 0
  | j + 1 => cnt H W j + (if H (63 - j) = W (63 - j) then 0 else 1)
def fst (H W : Nat → Int32) : Nat → Int32
  | 0 => -4
  | j + 1 => if H (63 - j) = W (63 - j) then fst H W j else nI (63 - j)
theorem sM_findChanged {M : Mm} {K : Mm → Prop} (hm : MR M) (h : ∀ N, (∀ a, a ≠ 6027 → gi N a = gi M a) → (∀ j, j ≠ 35 → j ≠ 36 → gi N 6027 j = gi M 6027 j) → gl N = gl M → gr N = gr M → gi N 6027 35 = cnt (gi M 7182) (gi M 7438) 64 → gi N 6027 36 = fst (gi M 7182) (gi M 7438) 64 → K N) : CV mM_findChanged [.ref 6027] M K := by
  refine call_of rfl (Nat.le_of_ble_eq_true rfl) rfl (vM_findChanged_0 rfl ?_)
  have key := lp 64 (P := fun i => ∀ N, (∀ a, a ≠ 6027 → gi N a = gi M a) → (∀ j, j ≠ 35 → j ≠ 36 → gi N 6027 j = gi M 6027 j) → gl N = gl M → gr N = gr M → gi N 6027 35 = cnt (gi M 7182) (gi M 7438) i → gi N 6027 36 = fst (gi M 7182) (gi M 7438) i → X mM_findChanged 14 [(0, .ref 6027), (1, .int (dn i))] [] N (mC mM_findChanged, mS mM_findChanged) (QV K)) (fun i hi ih N f1 f2 f3 f4 f5 f6 => ?_) (fun N f1 f2 f3 f4 f5 f6 => ?_)
  · refine key _ (fun a ha => ?_) (fun j h1 h2 => ?_) rfl rfl ?_ ?_
    · funext k; rw [giR _ _ _ _ _ _ ha, giR _ _ _ _ _ _ ha]
    · rw [gi_si, if_neg (fun q => h2 q.2), gi_si, if_neg (fun q => h1 q.2)]
    · rw [gi_si, if_neg (by decide), gi_si, if_pos ⟨rfl, rfl⟩]; rfl
    · rw [gi_si, if_pos ⟨rfl, rfl⟩]; rfl
  · obtain ⟨e1, e2⟩ := dn1 i hi
    have hm2 := mr_w hm f4
    have hn : ¬ dn i < 0 := by rw [e1]; exact n0 _ (by omega)
    have hin : vp_in (dn i) 64 := by rw [e1]; exact vin (by omega) (by decide)
    have hcl : (dn i).toNatClampNeg = 63 - i := by rw [e1]; exact ncl (by omega)
    have g1 : gi N 7182 = gi M 7182 := f1 _ (by decide)
    have g2 : gi N 7438 = gi M 7438 := f1 _ (by decide)
    have go : ∀ w, w = (if gi M 7182 (63 - i) = gi M 7438 (63 - i) then 0 else 1) → X mM_findChanged 43 [(0, .ref 6027), (1, .int (dn i))] [.int w, .int (gi N 6027 35), .ref 6027] N (mC mM_findChanged, mS mM_findChanged) (QV K) := by
      intro w hw
      refine vM_findChanged_43 rfl rfl (mr30 hm2) (mr34 hm2) ⟨hin, hin, ?_⟩
      rw [e2, hcl, giR _ _ _ _ _ _ (by decide), giR _ _ _ _ _ _ (by decide), g1, g2]
      refine ih _ (fun a ha => ?_) (fun j h1 h2 => ?_) f3 f4 ?_ ?_
      · funext k; rw [giR _ _ _ _ _ _ ha, giR _ _ _ _ _ _ ha, f1 a ha]
      · rw [gi_si, if_neg (fun q => h2 q.2), gi_si, if_neg (fun q => h1 q.2)]; exact f2 j h1 h2
      · rw [gi_si, if_neg (by decide), gi_si, if_pos ⟨rfl, rfl⟩, f5, hw]; rfl
      · rw [gi_si, if_pos ⟨rfl, rfl⟩, show gi (si N 6027 35 (gi N 6027 35 + w)) 6027 36 = gi N 6027 36 from by rw [gi_si, if_neg (by decide)], f6, e1]; rfl
    refine vM_findChanged_14 rfl (mr30 hm2) (mr34 hm2) ⟨fun _ => hin, fun _ => hin, fun q => absurd q hn, fun q => go 1 ?_, fun q => go 0 ?_⟩
    · rw [hcl, g1, g2] at q; rw [if_neg q.2]
    · rw [hcl, g1, g2] at q; rw [if_pos q.2]
  · have hm2 := mr_w hm f4
    have hn : dn 64 < 0 := by decide +kernel
    exact vM_findChanged_14 rfl (mr30 hm2) (mr34 hm2) ⟨fun q => absurd hn q, fun q => absurd hn q, fun _ => h N f1 f2 f3 f4 f5 f6, fun q => absurd hn q.1, fun q => absurd hn q.1⟩
section GM4
variable {M : Mm}
theorem inW {w : Int32} {K : Int32 → Mm → Prop} (h0 : (¬ w = 0 ∧ ¬ w = 1 ∧ ¬ w = 2) → K 0 M) (h1 : (w = 0 ∨ w = 1 ∨ w = 2) → K 1 M) : CI mM_in [.long w.toInt64, .long 0, .long 2] M K := by
  refine sM_in (l := 0) (m := 2) rfl rfl (fun q => h0 ⟨?_, ?_, ?_⟩) (fun q1 q2 => h1 ?_)
  · rintro rfl; exact absurd q (by decide)
  · rintro rfl; exact absurd q (by decide)
  · rintro rfl; exact absurd q (by decide)
  · obtain ⟨i, hi, rfl⟩ := rngL (c := 2) (n := 2) rfl (by decide) q1 q2
    match i, hi with
    | 0, _ => exact Or.inl rfl
    | 1, _ => exact Or.inr (Or.inl rfl)
    | 2, _ => exact Or.inr (Or.inr rfl)
theorem sM_areAsked {w : Int32} {K : Int32 → Mm → Prop} (h1 : isK w = false → K 0 M) (h2 : isK w = true → K 1 M) : CI mM_areAsked [.ref 6027, .int w] M K := by
  refine call_of rfl (Nat.le_of_ble_eq_true rfl) rfl (x_loc [1] rfl (vM_areAsked_0 (sM_in (l := 0) (m := 2) rfl rfl (fun q => vM_areAsked_9 ⟨fun q => absurd rfl q, fun _ => sM_in (l := 10) (m := 14) rfl rfl (fun p => vM_areAsked_23 ⟨fun _ => h1 (decide_eq_false ?_), fun q => absurd rfl q⟩) (fun p1 p2 => vM_areAsked_23 ⟨fun q => absurd q (by decide), fun _ => h2 (decide_eq_true (Or.inr ⟨p1, p2⟩))⟩)⟩) (fun q1 q2 => vM_areAsked_9 ⟨fun _ => h2 (decide_eq_true (Or.inl ⟨q1, Int32.not_lt.mp q2⟩)), fun q => absurd q (by decide)⟩))))
  rintro (r | r)
  · exact q.elim r.1 (fun q => absurd r.2 (Int32.not_le.mpr q))
  · exact p.elim r.1 r.2
def mEach (M : Mm) (W : Nat) (d c : Int32) : Int32 := if (isD d && isC c) = true then td (eyv M W d 64) (enw M W d 64) c else -1
theorem tM_each {W : Nat} {d c : Int32} {K : Int32 → Mm → Prop} (j : JW M W) (h : ∀ N, AF M N → K (mEach M W d c) N) : CI mM_each [.ref 6027, .int d, .int c] M K := by
  refine call_of rfl (Nat.le_of_ble_eq_true rfl) rfl (vM_each_0 (sM_isDoctor (fun q => vM_each_4 ⟨fun _ => ?_, fun q => absurd rfl q⟩) (fun i hi e => vM_each_4 ⟨fun q => absurd q (by decide), fun _ => sM_isCase (fun q => vM_each_11 rfl ⟨fun q => absurd rfl q, fun _ => ?_⟩) (fun k hk e2 => vM_each_11 rfl ⟨fun _ => sM_findEach j (fun N f hv => ?_), fun q => absurd q (by decide)⟩)⟩)))
  · have hh := h M (af_rf M); rwa [mEach, q, Bool.false_and, if_neg (by decide)] at hh
  · have hh := h M (af_rf M); rwa [mEach, q, Bool.and_false, if_neg (by decide)] at hh
  · subst e e2
    have hh := h N (af_ef f)
    rw [mEach, yD hi, yC hk, if_pos (by decide)] at hh
    have hm := mr_w j.1 f.2.1
    refine vM_each_20 rfl (mr27 hm) (mr28 hm) ⟨vin hi (by decide), vin hi (by decide), ?_⟩
    rw [ncl (by omega), (hv i hi).2.1, (hv i hi).2.2]
    exact sM_told (vM_each_36 hh)
def mClash (M : Mm) (W : Nat) (d w : Int32) : Int32 := if (isD d && isE w) = true then (if w = 0 then mo (clv M W d) 64 else ffo (clv M W d) 64) else -1
theorem tM_clash {W : Nat} {d w : Int32} {K : Int32 → Mm → Prop} (j : JW M W) (h : ∀ N, AF M N → K (mClash M W d w) N) : CI mM_clash [.ref 6027, .int d, .int w] M K := by
  refine call_of rfl (Nat.le_of_ble_eq_true rfl) rfl (vM_clash_0 (sM_isDoctor (fun q => vM_clash_4 ⟨fun _ => ?_, fun q => absurd rfl q⟩) (fun i hi e => vM_clash_4 ⟨fun q => absurd q (by decide), fun _ => sM_inE (fun q => vM_clash_14 rfl ⟨fun q => absurd rfl q, fun _ => ?_⟩) (fun q => vM_clash_14 rfl ⟨fun _ => sM_findEach j (fun N f hv => ?_), fun q => absurd q (by decide)⟩)⟩)))
  · have hh := h M (af_rf M); rwa [mClash, q, Bool.false_and, if_neg (by decide)] at hh
  · have hh := h M (af_rf M); rwa [mClash, q, Bool.and_false, if_neg (by decide)] at hh
  · subst e
    have hh := h N (af_ef f)
    rw [mClash, yD hi, yE q, if_pos (by decide)] at hh
    have hm := mr_w j.1 f.2.1
    refine vM_clash_23 rfl (mr29 hm) ⟨fun _ => vin hi (by decide), fun _ => vin hi (by decide), fun p => ?_, fun p => ?_⟩
    · rw [ncl (by omega), (hv i hi).1]; refine sM_firstOf (vM_clash_48 ?_); rwa [if_neg p] at hh
    · rw [ncl (by omega), (hv i hi).1]; refine sM_manyOf (vM_clash_36 ?_); rwa [if_pos p] at hh
def mSides (M : Mm) (W : Nat) (d e w : Int32) : Int32 := if (isD d && (isD e && decide (¬ d = e ∧ (w = 0 ∨ w = 1 ∨ w = 2)))) = true then
  (if w = 0 then mo (((eyv M W d 64 &&& eyv M W e 64) ||| (enw M W d 64 &&& enw M W e 64)) ||| ((eyv M W d 64 &&& enw M W e 64) ||| (enw M W d 64 &&& eyv M W e 64))) 64 else if w = 1 then mo ((eyv M W d 64 &&& eyv M W e 64) ||| (enw M W d 64 &&& enw M W e 64)) 64 else ffo ((eyv M W d 64 &&& enw M W e 64) ||| (enw M W d 64 &&& eyv M W e 64)) 64) else -1
theorem tM_sides {W : Nat} {d e w : Int32} {K : Int32 → Mm → Prop} (j : JW M W) (h : ∀ N, AF M N → K (mSides M W d e w) N) : CI mM_sides [.ref 6027, .int d, .int e, .int w] M K := by
  refine call_of rfl (Nat.le_of_ble_eq_true rfl) rfl (vM_sides_0 (sM_isDoctor (fun q => vM_sides_4 ⟨fun _ => ?_, fun q => absurd rfl q⟩) (fun i hi e1 => vM_sides_4 ⟨fun q => absurd q (by decide), fun _ => sM_isDoctor (fun q => vM_sides_11 ⟨fun _ => ?_, fun q => absurd rfl q.1⟩) (fun k hk e2 => vM_sides_11 ⟨fun q => ?_, fun q => inW (fun p => vM_sides_28 rfl ⟨fun q => absurd rfl q, fun _ => ?_⟩) (fun p => vM_sides_28 rfl ⟨fun _ => sM_findEach j (fun N f hv => ?_), fun q => absurd q (by decide)⟩)⟩)⟩)))
  · have hh := h M (af_rf M); rwa [mSides, q, Bool.false_and, if_neg (by decide)] at hh
  · have hh := h M (af_rf M); rwa [mSides, q, Bool.false_and, Bool.and_false, if_neg (by decide)] at hh
  · have hh := h M (af_rf M)
    have q1 : d = e := by
      rcases q with q | q
      · exact absurd q (by decide)
      · exact q.2
    rwa [mSides, show decide (¬ d = e ∧ (w = 0 ∨ w = 1 ∨ w = 2)) = false from decide_eq_false (fun r => r.1 q1), Bool.and_false, Bool.and_false, if_neg (by decide)] at hh
  · have hh := h M (af_rf M)
    rwa [mSides, show decide (¬ d = e ∧ (w = 0 ∨ w = 1 ∨ w = 2)) = false from decide_eq_false (fun r => r.2.elim p.1 (fun r => r.elim p.2.1 p.2.2)), Bool.and_false, Bool.and_false, if_neg (by decide)] at hh
  · subst e1 e2
    have hh := h N (af_ef f)
    have hm := mr_w j.1 f.2.1
    rw [mSides, yD hi, yD hk, show decide (¬ nI i = nI k ∧ (w = 0 ∨ w = 1 ∨ w = 2)) = true from decide_eq_true ⟨q.2, p⟩, if_pos (by decide)] at hh
    refine vM_sides_37 rfl (mr27 hm) (mr28 hm) ⟨vin hi (by decide), vin hk (by decide), vin hi (by decide), vin hk (by decide), vin hi (by decide), vin hk (by decide), vin hi (by decide), vin hk (by decide), ?_⟩
    rw [ncl (show i < 2 ^ 31 by omega), ncl (show k < 2 ^ 31 by omega), (hv i hi).2.1, (hv i hi).2.2, (hv k hk).2.1, (hv k hk).2.2]
    refine ⟨fun p => sM_firstOf (vM_sides_128 ?_), fun p => sM_manyOf (vM_sides_120 ?_), fun p => sM_manyOf (vM_sides_107 ?_)⟩
    · rwa [if_neg p.1, if_neg p.2] at hh
    · rwa [if_neg p.1, if_pos p.2] at hh
    · rwa [if_pos p] at hh
def mHeld (M : Mm) (W : Nat) (c w : Int32) : Int32 := if (isC c && decide (¬ w < 0 ∧ ¬ 3 < w)) = true then
  (if w = 0 then hev (EO M W) W c.toNatClampNeg else if w = 1 then byv (EO M W) W c.toNatClampNeg else if w = 2 then sb (gl (EO M W)) 7003 c.toNatClampNeg 8 else sb (gl (EO M W)) 7067 c.toNatClampNeg 8) else -1
theorem tM_held {W : Nat} {c w : Int32} {K : Int32 → Mm → Prop} (j : JW M W) (hd : HD M) (h : ∀ N, AF M N → K (mHeld M W c w) N) : CI mM_held [.ref 6027, .int c, .int w] M K := by
  refine call_of rfl (Nat.le_of_ble_eq_true rfl) rfl (vM_held_0 (sM_isCase (fun q => vM_held_4 ⟨fun _ => ?_, fun q => absurd rfl q⟩) (fun i hi e => vM_held_4 ⟨fun q => absurd q (by decide), fun _ => sM_in (l := 0) (m := 3) rfl rfl (fun q => vM_held_16 rfl ⟨fun q => absurd rfl q, fun _ => ?_⟩) (fun q1 q2 => vM_held_16 rfl ⟨fun _ => tM_findAll j hd (fun N f hf hv => ?_), fun q => absurd q (by decide)⟩)⟩)))
  · have hh := h M (af_rf M); rwa [mHeld, q, Bool.false_and, if_neg (by decide)] at hh
  · have hh := h M (af_rf M)
    rwa [mHeld, show decide (¬ w < 0 ∧ ¬ 3 < w) = false from decide_eq_false (fun r => q.elim r.1 r.2), Bool.and_false, if_neg (by decide)] at hh
  · subst e
    have hh := h N f
    rw [mHeld, yC hi, show decide (¬ w < 0 ∧ ¬ 3 < w) = true from decide_eq_true ⟨q1, q2⟩, if_pos (by decide), ncl (by omega)] at hh
    have hm := mr_w j.1 f.2.1
    obtain ⟨a1, a2, a3, a4⟩ := hf i hi
    refine vM_held_25 rfl (mr33 hm) (mr32 hm) (mr31 hm) (mr30 hm) ⟨fun _ => vin hi (by decide), fun _ => vin hi (by decide), fun _ => vin hi (by decide), fun _ => vin hi (by decide), ?_⟩
    rw [ncl (by omega), a1, a2, a3, a4]
    exact hh
end GM4
