/-! ===== the reference at any state: more queries ===== -/
def csb (H B : Nat → Int32) (w : Int32) (c : Nat) : Bool := if w = 0 then decide (H c = 1) else if w = 1 then decide (H c = 0) else if w = 2 then decide (H c = -4) else decide (B c = w - 10)
def csv (H B : Nat → Int32) (w : Int32) : Nat → Int64
  | 0 => 0
  | c + 1 => csv H B w c ||| (if csb H B w c = true then ((1 : Int64) <<< ((nI c).toInt64 &&& 63)) else 0)
section GM5
variable {M : Mm}
def mCases (M : Mm) (W : Nat) (w : Int32) : Int64 := if isK w = true then csv (hev (EO M W) W) (byv (EO M W) W) w 64 else 0
theorem tM_cases {W : Nat} {w : Int32} {K : Int64 → Mm → Prop} (j : JW M W) (hd : HD M) (h : ∀ N, AF M N → K (mCases M W w) N) : CJ mM_cases [.ref 6027, .int w] M K := by
  refine call_of rfl (Nat.le_of_ble_eq_true rfl) rfl (vM_cases_0 rfl (sM_areAsked (fun q => vM_cases_5 rfl ⟨fun q => absurd rfl q, fun _ => ?_⟩) (fun q => vM_cases_5 rfl ⟨fun _ => tM_findAll j hd (fun N f hf hv => vM_cases_14 ?_), fun q => absurd q (by decide)⟩)))
  · have hh := h M (af_rf M); rwa [mCases, q, if_neg (by decide)] at hh
  · have h2 := h N f
    rw [mCases, q, if_pos rfl] at h2
    have hm := mr_w j.1 f.2.1
    have key := lp 64 (P := fun c => X mM_cases 19 [(0, .ref 6027), (1, .int w), (2, .long (csv (hev (EO M W) W) (byv (EO M W) W) w c)), (4, .int (nI c))] [] N (mC mM_cases, mS mM_cases) (QJ K)) (fun c hc ih => ?_) ?_
    · exact key
    · obtain ⟨a1, a2, a3, a4⟩ := hf c hc
      have nn : (nI c).toNatClampNeg = c := ncl (by omega)
      have go : ∀ x : Int32, x = (if csb (hev (EO M W) W) (byv (EO M W) W) w c = true then 1 else 0) → X mM_cases 116 [(0, .ref 6027), (1, .int w), (2, .long (csv (hev (EO M W) W) (byv (EO M W) W) w c)), (4, .int (nI c))] [.int x] N (mC mM_cases, mS mM_cases) (QJ K) := by
        intro x hx
        refine vM_cases_116 ?_
        rw [csv] at ih
        rw [nI_s]
        by_cases l : csb (hev (EO M W) W) (byv (EO M W) W) w c = true
        · rw [if_pos l] at hx ih
          subst hx
          rw [if_neg (by decide)]; exact ih
        · rw [if_neg l] at hx ih
          subst hx
          rw [if_pos rfl]; exact ih
      refine vM_cases_19 rfl (mr31 hm) (mr30 hm) ⟨fun _ => vin hc (by decide), fun _ => vin hc (by decide), fun _ => vin hc (by decide), fun _ => vin hc (by decide), fun q => absurd q (nge rfl (by decide) hc), fun q => go 0 ?_, fun q => go 1 ?_⟩ <;> rw [nn, a3, a4] at q
      · rcases q with q | q | q | q
        · rw [csb, if_neg q.2.1, if_neg q.2.2.1, if_neg q.2.2.2.1, decide_eq_false q.2.2.2.2, if_neg (by decide)]
        · rw [csb, if_neg q.2.1, if_neg q.2.2.1, if_pos q.2.2.2.1, decide_eq_false q.2.2.2.2, if_neg (by decide)]
        · rw [csb, if_neg q.2.1, if_pos q.2.2.1, decide_eq_false q.2.2.2, if_neg (by decide)]
        · rw [csb, if_pos q.2.1, decide_eq_false q.2.2, if_neg (by decide)]
      · rcases q with q | q | q | q
        · rw [csb, if_neg q.2.1, if_neg q.2.2.1, if_neg q.2.2.2.1, decide_eq_true q.2.2.2.2, if_pos rfl]
        · rw [csb, if_neg q.2.1, if_neg q.2.2.1, if_pos q.2.2.2.1, decide_eq_true q.2.2.2.2, if_pos rfl]
        · rw [csb, if_neg q.2.1, if_pos q.2.2.1, decide_eq_true q.2.2.2, if_pos rfl]
        · rw [csb, if_pos q.2.1, decide_eq_true q.2.2, if_pos rfl]
    · refine vM_cases_19 rfl (mr31 hm) (mr30 hm) ⟨fun q => absurd (nself rfl) q.1, fun q => absurd (nself rfl) q.1, fun q => absurd (nself rfl) q.1, fun q => absurd (nself rfl) q.1, fun _ => h2, fun q => ?_, fun q => ?_⟩
      · rcases q with q | q | q | q <;> exact absurd (nself rfl) q.1
      · rcases q with q | q | q | q <;> exact absurd (nself rfl) q.1
def mMany (M : Mm) (W : Nat) (w : Int32) : Int32 := if isK w = true then mo (mCases M W w) 64 else -1
theorem tM_many {W : Nat} {w : Int32} {K : Int32 → Mm → Prop} (j : JW M W) (hd : HD M) (h : ∀ N, AF M N → K (mMany M W w) N) : CI mM_many [.ref 6027, .int w] M K := by
  refine call_of rfl (Nat.le_of_ble_eq_true rfl) rfl (vM_many_0 rfl (sM_areAsked (fun q => vM_many_5 rfl ⟨fun _ => ?_, fun q => absurd rfl q⟩) (fun q => vM_many_5 rfl ⟨fun q => absurd q (by decide), fun _ => tM_cases j hd (fun N f => vM_many_13 (sM_manyOf (vM_many_16 ?_)))⟩)))
  · have hh := h M (af_rf M); rwa [mMany, q, if_neg (by decide)] at hh
  · have hh := h N f; rwa [mMany, q, if_pos rfl] at hh
def mReckon (M : Mm) (W : Nat) (c b yy n a : Int32) : Int32 := if isC c = true then (if b = byv (EO M W) W c.toNatClampNeg then (if yy = sb (gl (EO M W)) 7003 c.toNatClampNeg 8 then (if n = sb (gl (EO M W)) 7067 c.toNatClampNeg 8 then (if a = hev (EO M W) W c.toNatClampNeg then 0 else 4) else 3) else 2) else 1) else -1
theorem tM_reckon {W : Nat} {c b yy n a : Int32} {K : Int32 → Mm → Prop} (j : JW M W) (hd : HD M) (h : ∀ N, AF M N → K (mReckon M W c b yy n a) N) : CI mM_reckon [.ref 6027, .int c, .int b, .int yy, .int n, .int a] M K := by
  refine call_of rfl (Nat.le_of_ble_eq_true rfl) rfl (vM_reckon_0 (sM_isCase (fun q => vM_reckon_4 rfl ⟨fun q => absurd rfl q, fun _ => ?_⟩) (fun i hi e => vM_reckon_4 rfl ⟨fun _ => tM_findAll j hd (fun N f hf hv => ?_), fun q => absurd q (by decide)⟩)))
  · have hh := h M (af_rf M); rwa [mReckon, q, if_neg (by decide)] at hh
  · subst e
    have h2 := h N f
    rw [mReckon, yC hi, if_pos rfl, ncl (by omega)] at h2
    have hm := mr_w j.1 f.2.1
    obtain ⟨a1, a2, a3, a4⟩ := hf i hi
    refine vM_reckon_13 rfl (mr31 hm) (mr32 hm) (mr33 hm) (mr30 hm) ⟨vin hi (by decide), fun _ => vin hi (by decide), fun _ => vin hi (by decide), fun _ => vin hi (by decide), ?_⟩
    rw [ncl (by omega), a1, a2, a3, a4]; exact h2
/-- the widest so far, its number -/
def wdv (Y N : Nat → Int32) (c : Nat) : Int32 := ((100 * (if N c ≤ Y c then N c else Y c)) + Y c) + N c
def wds (Y N : Nat → Int32) : Nat → Int32 × Int32
  | 0 => (-4, 0)
  | c + 1 => (if wdv Y N c ≤ (wds Y N c).2 then (wds Y N c).1 else nI c, if wdv Y N c ≤ (wds Y N c).2 then (wds Y N c).2 else wdv Y N c)
def ysE (M : Mm) (W c : Nat) : Int32 := sb (gl (EO M W)) 7003 c 8
def nsE (M : Mm) (W c : Nat) : Int32 := sb (gl (EO M W)) 7067 c 8
def mWidest (M : Mm) (W : Nat) (w : Int32) : Int32 := if isE w = true then (if (wds (ysE M W) (nsE M W) 64).1 = -4 then -4 else if w = 0 then (wds (ysE M W) (nsE M W) 64).1 else (wds (ysE M W) (nsE M W) 64).2 / 100) else -1
theorem tM_widest {W : Nat} {w : Int32} {K : Int32 → Mm → Prop} (j : JW M W) (hd : HD M) (h : ∀ N, AF M N → K (mWidest M W w) N) : CI mM_widest [.ref 6027, .int w] M K := by
  refine call_of rfl (Nat.le_of_ble_eq_true rfl) rfl (vM_widest_0 (sM_inE (fun q => vM_widest_7 rfl ⟨fun q => absurd rfl q, fun _ => ?_⟩) (fun q => vM_widest_7 rfl ⟨fun _ => tM_findAll j hd (fun N f hf hv => vM_widest_16 ?_), fun q => absurd q (by decide)⟩)))
  · have hh := h M (af_rf M); rwa [mWidest, q, if_neg (by decide)] at hh
  · have h2 := h N f
    rw [mWidest, yE q, if_pos rfl] at h2
    have hm := mr_w j.1 f.2.1
    have key := lp 64 (P := fun c => X mM_widest 24 [(0, .ref 6027), (1, .int w), (2, .int (wds (ysE M W) (nsE M W) c).1), (3, .int (wds (ysE M W) (nsE M W) c).2), (4, .int (nI c))] [] N (mC mM_widest, mS mM_widest) (QI K)) (fun c hc ih => ?_) ?_
    · exact key
    · obtain ⟨a1, a2, a3, a4⟩ := hf c hc
      have b1 : gi N 7310 c = ysE M W c := a1
      have b2 : gi N 7374 c = nsE M W c := a2
      have nn : (nI c).toNatClampNeg = c := ncl (by omega)
      have go : ∀ x, x = (if nsE M W c ≤ ysE M W c then nsE M W c else ysE M W c) → X mM_widest 65 [(0, .ref 6027), (1, .int w), (2, .int (wds (ysE M W) (nsE M W) c).1), (3, .int (wds (ysE M W) (nsE M W) c).2), (4, .int (nI c))] [.int x] N (mC mM_widest, mS mM_widest) (QI K) := by
        rintro x rfl
        refine vM_widest_65 rfl (mr32 hm) (mr33 hm) ⟨vin hc (by decide), vin hc (by decide), ?_⟩
        rw [nn, b1, b2, nI_s]; exact ih
      have nq := nge (c := 64) (i := c) (n := 64) rfl (by decide) hc
      refine vM_widest_24 rfl (mr32 hm) (mr33 hm) ⟨fun _ => vin hc (by decide), fun _ => vin hc (by decide), fun _ => vin hc (by decide), fun _ => vin hc (by decide), fun q => absurd q.1 nq, fun q => absurd q.1 nq, fun q => absurd q.1 nq, fun q => ?_, fun q => ?_⟩ <;> rw [nn, b1, b2] at q
      · rw [nn, b2]; exact go _ (by rw [if_pos q.2])
      · rw [nn, b1]; exact go _ (by rw [if_neg q.2])
    · refine vM_widest_24 rfl (mr32 hm) (mr33 hm) ⟨fun q => absurd (nself rfl) q, fun q => absurd (nself rfl) q, fun q => absurd (nself rfl) q.1, fun q => absurd (nself rfl) q.1, fun q => ?_, fun q => ?_, fun q => ?_, fun q => absurd (nself rfl) q.1, fun q => absurd (nself rfl) q.1⟩
      · rwa [if_neg q.2.1, if_neg q.2.2] at h2
      · rwa [if_neg q.2.1, if_pos q.2.2] at h2
      · rwa [if_pos q.2] at h2
/-- the nearest so far -/
def nrs (H : Nat → Int32) (c : Nat) (a : Int32) : Nat → Int32
  | 0 => -4
  | o + 1 => if H o = a ∧ (nrs H c a o = -4 ∨ ¬ co (nrs H c a o ^^^ nI c) 32 ≤ co (nI o ^^^ nI c) 32) then nI o else nrs H c a o
def mNear (M : Mm) (W : Nat) (c a w : Int32) : Int32 := if (isC c && (isE a && isE w)) = true then (if nrs (hev (EO M W) W) c.toNatClampNeg a 64 = -4 then -4 else if w = 0 then nrs (hev (EO M W) W) c.toNatClampNeg a 64 else co (nrs (hev (EO M W) W) c.toNatClampNeg a 64 ^^^ c) 32) else -1
theorem tM_near {W : Nat} {c a w : Int32} {K : Int32 → Mm → Prop} (j : JW M W) (hd : HD M) (h : ∀ N, AF M N → K (mNear M W c a w) N) : CI mM_near [.ref 6027, .int c, .int a, .int w] M K := by
  refine call_of rfl (Nat.le_of_ble_eq_true rfl) rfl (vM_near_0 (sM_isCase (fun q => vM_near_4 ⟨fun _ => ?_, fun q => absurd rfl q⟩) (fun i hi e => vM_near_4 ⟨fun q => absurd q (by decide), fun _ => sM_inE (fun q => vM_near_14 ⟨fun _ => ?_, fun q => absurd rfl q⟩) (fun qa => vM_near_14 ⟨fun q => absurd q (by decide), fun _ => sM_inE (fun q => vM_near_24 rfl ⟨fun q => absurd rfl q, fun _ => ?_⟩) (fun qw => vM_near_24 rfl ⟨fun _ => tM_findAll j hd (fun N f hf hv => vM_near_33 ?_), fun q => absurd q (by decide)⟩)⟩)⟩)))
  · have hh := h M (af_rf M); rwa [mNear, q, Bool.false_and, if_neg (by decide)] at hh
  · have hh := h M (af_rf M); rwa [mNear, q, Bool.false_and, Bool.and_false, if_neg (by decide)] at hh
  · have hh := h M (af_rf M); rwa [mNear, q, Bool.and_false, Bool.and_false, if_neg (by decide)] at hh
  · subst e
    have h2 := h N f
    rw [mNear, yC hi, yE qa, yE qw, if_pos (by decide), ncl (by omega)] at h2
    have hm := mr_w j.1 f.2.1
    have key := lp 64 (P := fun o => X mM_near 40 [(0, .ref 6027), (1, .int (nI i)), (2, .int a), (3, .int w), (4, .int (nrs (hev (EO M W) W) i a o)), (5, .int (nI o))] [] N (mC mM_near, mS mM_near) (QI K)) (fun o hc ih => ?_) ?_
    · exact key
    · obtain ⟨a1, a2, a3, a4⟩ := hf o hc
      have nn : (nI o).toNatClampNeg = o := ncl (by omega)
      have nq := nge (c := 64) (i := o) (n := 64) rfl (by decide) hc
      rw [nrs] at ih
      have no : ¬ (hev (EO M W) W o = a ∧ (nrs (hev (EO M W) W) i a o = -4 ∨ ¬ co (nrs (hev (EO M W) W) i a o ^^^ nI i) 32 ≤ co (nI o ^^^ nI i) 32)) → X mM_near 86 [(0, .ref 6027), (1, .int (nI i)), (2, .int a), (3, .int w), (4, .int (nrs (hev (EO M W) W) i a o)), (5, .int (nI o))] [] N (mC mM_near, mS mM_near) (QI K) := fun p => vM_near_86 (vM_near_87 (by rw [if_pos rfl, nI_s]; rw [if_neg p] at ih; exact ih))
      have yes : (hev (EO M W) W o = a ∧ (nrs (hev (EO M W) W) i a o = -4 ∨ ¬ co (nrs (hev (EO M W) W) i a o ^^^ nI i) 32 ≤ co (nI o ^^^ nI i) 32)) → X mM_near 82 [(0, .ref 6027), (1, .int (nI i)), (2, .int a), (3, .int w), (4, .int (nrs (hev (EO M W) W) i a o)), (5, .int (nI o))] [] N (mC mM_near, mS mM_near) (QI K) := fun p => vM_near_82 (vM_near_87 (by rw [if_neg (by decide), nI_s]; rw [if_pos p] at ih; exact ih))
      refine vM_near_40 rfl (mr30 hm) ⟨fun _ => vin hc (by decide), fun q => absurd q.1 nq, fun q => absurd q.1 nq, fun q => absurd q.1 nq, fun q => no ?_, fun q => yes ?_, fun q => sM_countOf (vM_near_72 (sM_countOf (vM_near_79 ⟨fun p => no ?_, fun p => yes ?_⟩)))⟩ <;> rw [nn, a4] at q
      · exact fun r => q.2 r.1
      · exact ⟨q.2.1, Or.inl q.2.2⟩
      · exact fun r => r.2.elim q.2.2 (fun r => r p)
      · exact ⟨q.2.1, Or.inr p⟩
    · refine vM_near_40 rfl (mr30 hm) ⟨fun q => absurd (nself rfl) q, fun q => sM_countOf (vM_near_137 ?_), fun q => ?_, fun q => ?_, fun q => absurd (nself rfl) q.1, fun q => absurd (nself rfl) q.1, fun q => absurd (nself rfl) q.1⟩
      · rwa [if_neg q.2.1, if_neg q.2.2] at h2
      · rwa [if_neg q.2.1, if_pos q.2.2] at h2
      · rwa [if_pos q.2] at h2
/-- what is asked of the words alone -/
theorem tM_word {W : Nat} {v w : Int32} {K : Int32 → Mm → Prop} (j : JW M W) (h : ∀ r, K r M) : CI mM_word [.ref 6027, .int v, .int w] M K := by
  refine call_of rfl (Nat.le_of_ble_eq_true rfl) rfl (vM_word_0 rfl (sM_isWord j.2.1 j.2.2.1 (fun q => vM_word_5 ⟨fun _ => h _, fun q => absurd rfl q⟩) (fun i hi e => vM_word_5 ⟨fun q => absurd q (by decide), fun _ => sM_in (l := 0) (m := 8) rfl rfl (fun q => vM_word_17 rfl ⟨fun q => absurd rfl q.1, fun q => absurd rfl q.1, fun _ => h _⟩) (fun q1 q2 => vM_word_17 rfl ⟨fun q => ?_, fun q => ?_, fun q => absurd q (by decide)⟩)⟩)))
  · subst e
    obtain ⟨k, hk, rfl⟩ := rngL (c := 8) (n := 8) rfl (by decide) q1 q2
    exact sM_of j.1 (by have := j.2.2.1; omega) rfl (by omega) (vM_word_42 (h _))
  · subst e
    exact sM_weightOf j.1 (by have := j.2.2.1; omega) j.2.2.1 (j.2.2.2 i hi).2 (vM_word_33 (h _))
def mSays (M : Mm) (W : Nat) (v c : Int32) : Int32 := if (decide (¬ v < 0 ∧ ¬ nI W ≤ v) && isC c) = true then td (gl M 6874 v.toNatClampNeg) (gl M 6938 v.toNatClampNeg) c else -1
theorem yW {W i : Nat} (hW : W ≤ 25) (hi : i < W) : decide (¬ nI i < 0 ∧ ¬ nI W ≤ nI i) = true := decide_eq_true ⟨n0 i (by omega), nge rfl (by omega) hi⟩
theorem nW {W : Nat} {v : Int32} (q : v < 0 ∨ nI W ≤ v) : decide (¬ v < 0 ∧ ¬ nI W ≤ v) = false := decide_eq_false (fun r => q.elim r.1 r.2)
theorem tM_says {W : Nat} {v c : Int32} {K : Int32 → Mm → Prop} (j : JW M W) (h : K (mSays M W v c) M) : CI mM_says [.ref 6027, .int v, .int c] M K := by
  have hW := j.2.2.1
  refine call_of rfl (Nat.le_of_ble_eq_true rfl) rfl (vM_says_0 rfl (sM_isWord j.2.1 j.2.2.1 (fun q => vM_says_5 ⟨fun _ => ?_, fun q => absurd rfl q⟩) (fun i hi e => vM_says_5 ⟨fun q => absurd q (by decide), fun _ => sM_isCase (fun q => vM_says_12 rfl (mr25 j.1) (mr26 j.1) ⟨fun q => absurd rfl q, fun q => absurd rfl q, fun _ => ?_, fun q => absurd rfl q⟩) (fun k hk e2 => vM_says_12 rfl (mr25 j.1) (mr26 j.1) ⟨fun _ => ?_, fun _ => ?_, fun q => absurd q (by decide), fun _ => sM_told (vM_says_31 ?_)⟩)⟩)))
  · rwa [mSays, nW q, Bool.false_and, if_neg (by decide)] at h
  · rwa [mSays, q, Bool.and_false, if_neg (by decide)] at h
  · rw [e]; exact vin (by omega) (by decide)
  · rw [e]; exact vin (by omega) (by decide)
  · subst e e2
    rwa [mSays, yW hW hi, yC hk, if_pos (by decide)] at h
def cnw (M : Mm) : Nat → Int32
  | 0 => 0
  | i + 1 => cnw M i ||| (if cw M i = 0 then 0 else ((1 : Int32) <<< (nI i &&& 31)))
def mWords (M : Mm) (W : Nat) (w : Int32) : Int32 := if w = 0 then gi M 6027 23 else if w = 1 then gi M 6027 24 else if w = 2 then cnw M W else -1
theorem tM_words {W : Nat} {w : Int32} {K : Int32 → Mm → Prop} (j : JW M W) (h : K (mWords M W w) M) : CI mM_words [.ref 6027, .int w] M K := by
  obtain ⟨hm, hW, hW2, hw⟩ := j
  refine call_of rfl (Nat.le_of_ble_eq_true rfl) rfl (vM_words_0 (inW (fun q => vM_words_9 ⟨fun q => absurd rfl q, fun _ => ?_⟩) (fun q => vM_words_9 ⟨fun _ => ?_, fun q => absurd q (by decide)⟩)))
  · rwa [mWords, if_neg q.1, if_neg q.2.1, if_neg q.2.2] at h
  · have key := lp W (P := fun i => X mM_words 18 [(0, .ref 6027), (1, .int w), (2, .int (cnw M i)), (3, .int (nI i))] [] M (mC mM_words, mS mM_words) (QI K)) (fun i hi ih => ?_) ?_
    · exact key
    · obtain ⟨⟨b, hb, eb⟩, hc⟩ := hw i hi
      have nW : ¬ gi M 6027 0 ≤ nI i := by rw [hW]; exact nge rfl (by omega) hi
      refine vM_words_18 rfl ⟨fun q => absurd q.1 nW, fun q => absurd q.1 nW, fun q => absurd q.1 nW, fun _ => sM_counts hm (by omega) eb hb (vM_words_32 ?_)⟩
      rw [nI_s]; exact ih
    · refine vM_words_18 rfl ⟨fun p => ?_, fun p => ?_, fun p => ?_, fun p => absurd (by rw [hW]; exact nself rfl) p⟩
      · rwa [mWords, if_neg p.2.1, if_neg p.2.2, if_pos ((q.resolve_left p.2.1).resolve_left p.2.2)] at h
      · rwa [mWords, if_neg p.2.1, if_pos p.2.2] at h
      · rwa [mWords, if_pos p.2] at h
end GM5
