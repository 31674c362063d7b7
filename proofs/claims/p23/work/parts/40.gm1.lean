/-! ===== the reference at any state: what only reads ===== -/
def isC (c : Int32) : Bool := decide (¬ c < 0 ∧ ¬ 64 ≤ c)
def isD (c : Int32) : Bool := decide (¬ c < 0 ∧ ¬ 8 ≤ c)
def isS (c : Int32) : Bool := decide (¬ c < 0 ∧ ¬ 4 ≤ c)
def isL (c : Int32) : Bool := decide (¬ c < 0 ∧ ¬ 2 < c)
def isE (c : Int32) : Bool := decide (c = 0 ∨ c = 1)
def isK (c : Int32) : Bool := decide ((¬ c < 0 ∧ c ≤ 2) ∨ (¬ c < 10 ∧ ¬ 14 < c))
theorem nC {c : Int32} (q : c < 0 ∨ 64 ≤ c) : isC c = false := decide_eq_false (fun h => q.elim h.1 h.2)
theorem nD {c : Int32} (q : c < 0 ∨ 8 ≤ c) : isD c = false := decide_eq_false (fun h => q.elim h.1 h.2)
theorem nS {c : Int32} (q : c < 0 ∨ 4 ≤ c) : isS c = false := decide_eq_false (fun h => q.elim h.1 h.2)
theorem nL {c : Int32} (q : c < 0 ∨ 2 < c) : isL c = false := decide_eq_false (fun h => q.elim h.1 h.2)
theorem sgt {c d x : Int32} (h : c.toInt + 1 = d.toInt) : c < x ↔ d ≤ x := by
  rw [Int32.lt_iff_toInt_lt, Int32.le_iff_toInt_le]; omega
theorem rngL {x c : Int32} {n : Nat} (hc : c = nI n) (hn : n < 2 ^ 31) (h0 : ¬ x < 0) (h1 : ¬ c < x) : ∃ i, i < n + 1 ∧ x = nI i := by
  obtain ⟨i, hi, rfl⟩ := nI_of h0
  subst hc
  rw [nlt hi hn] at h1
  exact ⟨i, by omega, rfl⟩
theorem sM_in {M : Mm} {w l m : Int32} {lo hi : Int64} {K : Int32 → Mm → Prop} (hl : l.toInt64 = lo) (hm : m.toInt64 = hi) (h0 : (w < l ∨ m < w) → K 0 M) (h1 : ¬ w < l → ¬ m < w → K 1 M) : CI mM_in [.long w.toInt64, .long lo, .long hi] M K := by
  subst hl hm
  refine call_of rfl (Nat.le_of_ble_eq_true rfl) rfl (vM_in_0 ⟨fun q => ?_, fun q => ?_⟩)
  · rw [Int32.toInt64_lt, Int32.toInt64_lt] at q
    exact h0 (q.elim Or.inl (fun q => Or.inr q.2))
  · rw [Int32.toInt64_lt, Int32.toInt64_lt] at q
    exact h1 q.1 q.2
theorem sM_inE {M : Mm} {w : Int32} {K : Int32 → Mm → Prop} (h0 : isE w = false → K 0 M) (h1 : (w = 0 ∨ w = 1) → K 1 M) : CI mM_in [.long w.toInt64, .long 0, .long 1] M K := by
  refine sM_in (l := 0) (m := 1) rfl rfl (fun q => h0 (decide_eq_false ?_)) (fun q1 q2 => h1 ?_)
  · rintro (rfl | rfl) <;> exact absurd q (by decide)
  · obtain ⟨i, hi, rfl⟩ := rngL (c := 1) (n := 1) rfl (by decide) q1 q2
    match i, hi with
    | 0, _ => exact Or.inl rfl
    | 1, _ => exact Or.inr rfl
theorem sM_isCase {M : Mm} {v : Int32} {K : Int32 → Mm → Prop} (h1 : isC v = false → K 0 M) (h2 : ∀ i, i < 64 → v = nI i → K 1 M) : CI mM_isCase [.int v] M K := by
  refine call_of rfl (Nat.le_of_ble_eq_true rfl) rfl (vM_isCase_0 (sM_in (l := 0) (m := 63) rfl rfl (fun q => vM_isCase_9 ⟨rfl, h1 (nC (q.imp id (sgt (by decide)).mp))⟩) (fun q1 q2 => vM_isCase_9 ⟨rfl, ?_⟩)))
  obtain ⟨i, hi, e⟩ := rngL (c := 63) (n := 63) rfl (by decide) q1 q2
  exact h2 i hi e
theorem sM_isDoctor {M : Mm} {v : Int32} {K : Int32 → Mm → Prop} (h1 : isD v = false → K 0 M) (h2 : ∀ i, i < 8 → v = nI i → K 1 M) : CI mM_isDoctor [.int v] M K := by
  refine call_of rfl (Nat.le_of_ble_eq_true rfl) rfl (vM_isDoctor_0 (sM_in (l := 0) (m := 7) rfl rfl (fun q => vM_isDoctor_9 ⟨rfl, h1 (nD (q.imp id (sgt (by decide)).mp))⟩) (fun q1 q2 => vM_isDoctor_9 ⟨rfl, ?_⟩)))
  obtain ⟨i, hi, e⟩ := rngL (c := 7) (n := 7) rfl (by decide) q1 q2
  exact h2 i hi e
def co (v : Int32) : Nat → Int32
  | 0 => 0
  | k + 1 => co v k + ((v >>> (nI k &&& 31)) &&& 1)
theorem sM_countOf {M : Mm} {v : Int32} {K : Int32 → Mm → Prop} (h : K (co v 32) M) : CI mM_countOf [.int v] M K := by
  refine call_of rfl (Nat.le_of_ble_eq_true rfl) rfl (vM_countOf_0 ?_)
  have key := lp 32 (P := fun k => X mM_countOf 4 [(0, .int v), (1, .int (co v k)), (2, .int (nI k))] [] M (mC mM_countOf, mS mM_countOf) (QI K)) (fun k hk ih => ?_) ?_
  · exact key
  · refine vM_countOf_4 ⟨fun q => absurd q (nge rfl (by decide) hk), fun _ => ?_⟩
    rw [nI_s]; exact ih
  · exact vM_countOf_4 ⟨fun _ => h, fun q => absurd (nself rfl) q⟩
def mo (v : Int64) : Nat → Int32
  | 0 => 0
  | k + 1 => mo v k + ((v >>> ((nI k).toInt64 &&& 63)) &&& 1).toInt32
theorem sM_manyOf {M : Mm} {v : Int64} {K : Int32 → Mm → Prop} (h : K (mo v 64) M) : CI mM_manyOf [.long v] M K := by
  refine call_of rfl (Nat.le_of_ble_eq_true rfl) rfl (vM_manyOf_0 ?_)
  have key := lp 64 (P := fun k => X mM_manyOf 4 [(0, .long v), (2, .int (mo v k)), (3, .int (nI k))] [] M (mC mM_manyOf, mS mM_manyOf) (QI K)) (fun k hk ih => ?_) ?_
  · exact key
  · refine vM_manyOf_4 ⟨fun q => absurd q (nge rfl (by decide) hk), fun _ => ?_⟩
    rw [nI_s]; exact ih
  · exact vM_manyOf_4 ⟨fun _ => h, fun q => absurd (nself rfl) q⟩
/-- the first bit, r places before the end -/
def ffo (v : Int64) : Nat → Int32
  | 0 => -4
  | r + 1 => if ((v >>> ((nI (63 - r)).toInt64 &&& 63)) &&& 1) = 0 then ffo v r else nI (63 - r)
theorem sM_firstOf {M : Mm} {v : Int64} {K : Int32 → Mm → Prop} (h : K (ffo v 64) M) : CI mM_firstOf [.long v] M K := by
  refine call_of rfl (Nat.le_of_ble_eq_true rfl) rfl (vM_firstOf_0 ?_)
  have key := lp 64 (P := fun k => ffo v (64 - k) = ffo v 64 → X mM_firstOf 2 [(0, .long v), (2, .int (nI k))] [] M (mC mM_firstOf, mS mM_firstOf) (QI K)) (fun k hk ih => ?_) ?_
  · exact key rfl
  · intro e
    rw [show 64 - k = (63 - k) + 1 by omega, ffo, show 63 - (63 - k) = k by omega] at e
    refine vM_firstOf_2 ⟨fun q => ?_, fun q => ?_⟩
    · rcases q with q | q
      · exact absurd q (nge rfl (by decide) hk)
      · rw [if_neg q.2] at e
        rw [if_neg q.1, e]; exact h
    · rw [if_pos q.2] at e
      rw [nI_s]
      exact ih (by rw [show 64 - (k + 1) = 63 - k by omega]; exact e)
  · intro e
    refine vM_firstOf_2 ⟨fun _ => ?_, fun q => absurd (nself rfl) q.1⟩
    rw [if_pos (show (64 : Int32) ≤ nI 64 from nself rfl)]
    rw [← e] at h
    exact h
def td (y n : Int64) (c : Int32) : Int32 := if ((y >>> (c.toInt64 &&& 63)) &&& 1) = 1 then 1 else if ((n >>> (c.toInt64 &&& 63)) &&& 1) = 1 then 0 else -4
theorem sM_told {M : Mm} {y n : Int64} {c : Int32} {K : Int32 → Mm → Prop} (h : K (td y n c) M) : CI mM_told [.long y, .long n, .int c] M K :=
  call_of rfl (Nat.le_of_ble_eq_true rfl) rfl (vM_told_0 h)
/-- a word's row -/
def wd (M : Mm) (w k : Nat) : Int32 := gi M 6101 (10 * w + k)
theorem nI_ix (w k : Nat) : 10 * nI w + nI k = nI (10 * w + k) := by
  show (10 : Int32) * Int32.ofNat w + Int32.ofNat k = Int32.ofNat (10 * w + k)
  rw [Int32.ofNat_add, Int32.ofNat_mul]; rfl
theorem sM_of {M : Mm} {w k : Nat} {kk : Int32} {K : Int32 → Mm → Prop} (hm : MR M) (hw : w < 25) (hk : kk = nI k) (hk2 : k < 10) (h : K (wd M w k) M) : CI mM_of [.ref 6027, .int (nI w), .int kk] M K := by
  subst hk
  refine call_of rfl (Nat.le_of_ble_eq_true rfl) rfl (vM_of_0 rfl (mr1 hm) ?_)
  rw [nI_ix, ncl (by omega)]
  exact ⟨vin (by omega) (by decide), h⟩
abbrev uns (M : Mm) (w : Nat) : Prop := ((gi M 6027 24 >>> (nI w &&& 31)) &&& 1) = 1
theorem sM_isUnsound {M : Mm} {w : Nat} {K : Int32 → Mm → Prop} (h : K (if uns M w then 1 else 0) M) : CI mM_isUnsound [.ref 6027, .int (nI w)] M K :=
  call_of rfl (Nat.le_of_ble_eq_true rfl) rfl (vM_isUnsound_0 rfl h)
theorem sM_isWord {M : Mm} {v : Int32} {W : Nat} {K : Int32 → Mm → Prop} (hW : gi M 6027 0 = nI W) (hW2 : W ≤ 25) (h0 : (v < 0 ∨ nI W ≤ v) → K 0 M) (h1 : ∀ w, w < W → v = nI w → K 1 M) : CI mM_isWord [.ref 6027, .int v] M K := by
  refine call_of rfl (Nat.le_of_ble_eq_true rfl) rfl (vM_isWord_0 rfl (sM_in (l := 0) (m := gi M 6027 0 - 1) rfl rfl (fun q => vM_isWord_13 ⟨rfl, h0 ?_⟩) (fun q1 q2 => vM_isWord_13 ⟨rfl, ?_⟩)))
  · refine q.imp id (fun q => ?_)
    rw [hW] at q
    rcases Nat.eq_zero_or_pos W with e | e
    · subst e
      exact (sgt (c := nI 0 - 1) (d := nI 0) (by decide)).mp q
    · have e2 : nI W - 1 = nI (W - 1) := by
        rw [show W = (W - 1) + 1 by omega, ← nI_s, show W - 1 + 1 - 1 = W - 1 by omega]
        exact Int32.add_sub_cancel _ _
      rw [e2] at q
      have : (nI (W - 1)).toInt + 1 = (nI W).toInt := by
        show (Int32.ofNat (W - 1)).toInt + 1 = (Int32.ofNat W).toInt
        rw [Int32.toInt_ofNat_of_lt (by omega), Int32.toInt_ofNat_of_lt (by omega)]; omega
      exact (sgt this).mp q
  · rw [hW] at q2
    obtain ⟨i, hi, rfl⟩ := nI_of q1
    have e2 : ¬ nI W ≤ nI i := by
      rcases Nat.eq_zero_or_pos W with e | e
      · subst e
        exact fun q => q2 ((sgt (c := nI 0 - 1) (d := nI 0) (by decide)).mpr q)
      · have e2 : nI W - 1 = nI (W - 1) := by
          rw [show W = (W - 1) + 1 by omega, ← nI_s, show W - 1 + 1 - 1 = W - 1 by omega]
          exact Int32.add_sub_cancel _ _
        rw [e2, nlt hi (by omega)] at q2
        rw [nle hi (by omega)]; omega
    rw [nle hi (by omega)] at e2
    exact h1 i (by omega) rfl
/-- whether a word counts -/
def cw (M : Mm) (w : Nat) : Int32 := if wd M w 0 = 5 then 0 else if wd M w 0 = 3 ∧ gi M 6543 2 = 0 then 0 else
  if ((gi M 6543 0 >>> (wd M w 1 &&& 31)) &&& 1) = 1 ∨ (((gi M 6027 9 >>> (wd M w 2 &&& 31)) &&& 1) = 1 ∧ ¬ gi M 6157 (wd M w 2).toNatClampNeg < gi M 6543 1) then 1 else 0
theorem sM_counts {M : Mm} {w b : Nat} {K : Int32 → Mm → Prop} (hm : MR M) (hw : w < 25) (hb : wd M w 2 = nI b) (hb2 : b < 8) (h : K (cw M w) M) : CI mM_counts [.ref 6027, .int (nI w)] M K := by
  refine call_of rfl (Nat.le_of_ble_eq_true rfl) rfl (vM_counts_0 rfl (sM_of (k := 0) hm hw rfl (by decide) (vM_counts_6 rfl ⟨fun q => ?_, fun q => sM_of (k := 0) hm hw rfl (by decide) (vM_counts_16 rfl (mr18 hm) ⟨fun q2 => sM_of (k := 2) hm hw rfl (by decide) ?_, fun q2 => ?_⟩)⟩)))
  · rwa [cw, if_pos q] at h
  · have q3 : ¬ (wd M w 0 = 3 ∧ gi M 6543 2 = 0) := fun p => q2.elim (fun n => n p.1) (fun n => n.2 p.2)
    rw [cw, if_neg q, if_neg q3] at h
    have fin : ∀ x : Int32, (x = 0 ∨ x = 1) → (x = 1 ↔ (((gi M 6027 9 >>> (wd M w 2 &&& 31)) &&& 1) = 1 ∧ ¬ gi M 6157 (wd M w 2).toNatClampNeg < gi M 6543 1)) → X mM_counts 73 [(0, .ref 6027), (1, .int (nI w))] [.int x] M (mC mM_counts, mS mM_counts) (QI K) := by
      intro x hx hi
      refine vM_counts_73 rfl (mr18 hm) (sM_of (k := 1) hm hw rfl (by decide) (vM_counts_86 ⟨fun p => ?_, fun p => ?_⟩))
      · rwa [if_pos] at h
        rcases p with p | p
        · exact Or.inl p
        · exact Or.inr (hi.mp (hx.resolve_left p.2))
      · rwa [if_neg] at h
        rintro (n | n)
        · exact p.1 n
        · have := hi.mpr n
          rw [p.2] at this
          exact absurd this (by decide)
    refine vM_counts_41 rfl (mr2 hm) ⟨fun p => vM_counts_72 (fin 0 (Or.inl rfl) ⟨fun n => absurd n (by decide), fun n => absurd n.1 p⟩), fun p => sM_of (k := 2) hm hw rfl (by decide) (vM_counts_58 rfl rfl (mr18 hm) ⟨by rw [hb]; exact vin hb2 (by decide), fun n => vM_counts_72 (fin 0 (Or.inl rfl) ⟨fun e => absurd e (by decide), fun e => absurd n e.2⟩), fun n => fin 1 (Or.inr rfl) ⟨fun _ => ⟨p, n⟩, fun _ => rfl⟩⟩)⟩
  · rwa [cw, if_neg q, if_pos q2] at h
/-- to the end of what a word follows -/
def en (M : Mm) : Nat → Nat → Nat
  | 0, v => v
  | n + 1, v => if wd M v 6 = -4 then v else en M n (wd M v 6).toNatClampNeg
def chn (M : Mm) (B : Nat) : Nat → Nat → Prop
  | 0, v => wd M v 6 = -4
  | n + 1, v => wd M v 6 = -4 ∨ ∃ f, f < B ∧ wd M v 6 = nI f ∧ chn M B n f
theorem chn_up {M : Mm} {B C : Nat} (h : B ≤ C) : ∀ n v, chn M B n v → chn M C n v
  | 0, _, q => q
  | n + 1, v, q => q.imp id (fun ⟨f, hf, e, q⟩ => ⟨f, Nat.lt_of_lt_of_le hf h, e, chn_up h n f q⟩)
def wt (M : Mm) (w : Nat) : Int32 := if uns M w then 0 else co (wd M (en M 25 w) 3) 32 + co (wd M (en M 25 w) 4) 32
theorem nI4 {f : Nat} (hf : f < 25) : ¬ nI f = -4 := by
  have : ∀ f, f < 25 → ¬ nI f = -4 := by decide +kernel
  exact this f hf
theorem sM_weightOf {M : Mm} {w : Nat} {K : Int32 → Mm → Prop} (hm : MR M) (hw : w < 25) {B : Nat} (hB : B ≤ 25) (hc : ¬ uns M w → chn M B 25 w) (h : K (wt M w) M) : CI mM_weightOf [.ref 6027, .int (nI w)] M K := by
  refine call_of rfl (Nat.le_of_ble_eq_true rfl) rfl (vM_weightOf_0 rfl (sM_isUnsound (vM_weightOf_5 ⟨fun q => ?_, fun q => ?_⟩)))
  · by_cases u : uns M w
    · rw [if_pos u] at q; exact absurd q (by decide)
    · rw [wt, if_neg u] at h
      have key : ∀ (n v : Nat), v < 25 → chn M B n v → K (co (wd M (en M n v) 3) 32 + co (wd M (en M n v) 4) 32) M → X mM_weightOf 12 [(0, .ref 6027), (2, .int (nI v))] [] M (mC mM_weightOf, mS mM_weightOf) (QI K) := by
        intro n
        induction n with
        | zero =>
          intro v hv hc h
          exact vM_weightOf_12 rfl (sM_of (k := 6) hm hv rfl (by decide) (vM_weightOf_19 rfl ⟨fun _ => sM_of (k := 3) hm hv rfl (by decide) (vM_weightOf_41 (sM_countOf (vM_weightOf_44 rfl (sM_of (k := 4) hm hv rfl (by decide) (vM_weightOf_50 (sM_countOf (vM_weightOf_53 h))))))), fun q => absurd hc q⟩))
        | succ n ih =>
          intro v hv hc h
          rw [en] at h
          refine vM_weightOf_12 rfl (sM_of (k := 6) hm hv rfl (by decide) (vM_weightOf_19 rfl ⟨fun q => ?_, fun q => sM_of (k := 6) hm hv rfl (by decide) (vM_weightOf_31 ?_)⟩))
          · rw [if_pos q] at h
            exact sM_of (k := 3) hm hv rfl (by decide) (vM_weightOf_41 (sM_countOf (vM_weightOf_44 rfl (sM_of (k := 4) hm hv rfl (by decide) (vM_weightOf_50 (sM_countOf (vM_weightOf_53 h)))))))
          · rw [if_neg q] at h
            rcases hc with hc | ⟨f, hf, e, hc⟩
            · exact absurd hc q
            · rw [e, ncl (by omega)] at h
              rw [e]
              exact ih f (by omega) hc h
      exact key 25 w hw (hc u) h
  · by_cases u : uns M w
    · rwa [wt, if_pos u] at h
    · rw [if_neg u] at q; exact absurd rfl q
