section MG9
/-! ===== the reference at any state: what only reads ===== -/
def isC (c : Int32) : Bool := decide (¬ c < 0 ∧ ¬ 64 ≤ c)
def isD (c : Int32) : Bool := decide (¬ c < 0 ∧ ¬ 8 ≤ c)
def isS (c : Int32) : Bool := decide (¬ c < 0 ∧ ¬ 4 ≤ c)
def isL (c : Int32) : Bool := decide (¬ c < 0 ∧ ¬ 2 < c)
def isE (c : Int32) : Bool := decide (c = 0 ∨ c = 1)
def isK (c : Int32) : Bool := decide ((¬ c < 0 ∧ c ≤ 2) ∨ (¬ c < 10 ∧ ¬ 14 < c))
theorem nC {c : Int32} (q : c < 0 ∨ 64 ≤ c) : isC c = false := decide_eq_false (fun h => q.elim h.1 h.2)
theorem nD {c : Int32} (q : c < 0 ∨ 8 ≤ c) : isD c = false := decide_eq_false (fun h => q.elim h.1 h.2)
theorem nS {c : Int32} (q : c < 0 ∨ 4 ≤ c) : isS c = false := decide_eq_false (fun h => q.elim h.1 h.2)
theorem nL {c : Int32} (q : c < 0 ∨ 2 < c) : isL c = false := decide_eq_false (fun h => q.elim h.1 h.2)
theorem sgt {c d x : Int32} (h : c.toInt + 1 = d.toInt) : c < x ↔ d ≤ x := by
  rw [Int32.lt_iff_toInt_lt, Int32.le_iff_toInt_le]; omega
theorem rngL {x c : Int32} {n : Nat} (hc : c = nI n) (hn : n < 2 ^ 31) (h0 : ¬ x < 0) (h1 : ¬ c < x) : ∃ i, i < n + 1 ∧ x = nI i := by
  obtain ⟨i, hi, rfl⟩ := nI_of h0
  subst hc
  rw [nlt hi hn] at h1
  exact ⟨i, by omega, rfl⟩
theorem sM_in {M : Mm} {w l m : Int32} {lo hi : Int64} {K : Int32 → Mm → Prop} (hl : l.toInt64 = lo) (hm : m.toInt64 = hi) (h0 : (w < l ∨ m < w) → K 0 M) (h1 : ¬ w < l → ¬ m < w → K 1 M) : CI mM_in [.long w.toInt64, .long lo, .long hi] M K := by
  subst hl hm
  refine call_of rfl (Nat.le_of_ble_eq_true rfl) rfl (vM_in_0 ⟨fun q => ?_, fun q => ?_⟩)
  · rw [Int32.toInt64_lt, Int32.toInt64_lt] at q
    exact h0 (q.elim Or.inl (fun q => Or.inr q.2))
  · rw [Int32.toInt64_lt, Int32.toInt64_lt] at q
    exact h1 q.1 q.2
theorem sM_inE {M : Mm} {w : Int32} {K : Int32 → Mm → Prop} (h0 : isE w = false → K 0 M) (h1 : (w = 0 ∨ w = 1) → K 1 M) : CI mM_in [.long w.toInt64, .long 0, .long 1] M K := by
  refine sM_in (l := 0) (m := 1) rfl rfl (fun q => h0 (decide_eq_false ?_)) (fun q1 q2 => h1 ?_)
  · rintro (rfl | rfl) <;> exact absurd q (by decide)
  · obtain ⟨i, hi, rfl⟩ := rngL (c := 1) (n := 1) rfl (by decide) q1 q2
    match i, hi with
    | 0, _ => exact Or.inl rfl
    | 1, _ => exact Or.inr rfl
theorem sM_isCase {M : Mm} {v : Int32} {K : Int32 → Mm → Prop} (h1 : isC v = false → K 0 M) (h2 : ∀ i, i < 64 → v = nI i → K 1 M) : CI mM_isCase [.int v] M K := by
  refine call_of rfl (Nat.le_of_ble_eq_true rfl) rfl (vM_isCase_0 (sM_in (l := 0) (m := 63) rfl rfl (fun q => vM_isCase_9 ⟨rfl, h1 (nC (q.imp id (sgt (by decide)).mp))⟩) (fun q1 q2 => vM_isCase_9 ⟨rfl, ?_⟩)))
  obtain ⟨i, hi, e⟩ := rngL (c := 63) (n := 63) rfl (by decide) q1 q2
  exact h2 i hi e
theorem sM_isDoctor {M : Mm} {v : Int32} {K : Int32 → Mm → Prop} (h1 : isD v = false → K 0 M) (h2 : ∀ i, i < 8 → v = nI i → K 1 M) : CI mM_isDoctor [.int v] M K := by
  refine call_of rfl (Nat.le_of_ble_eq_true rfl) rfl (vM_isDoctor_0 (sM_in (l := 0) (m := 7) rfl rfl (fun q => vM_isDoctor_9 ⟨rfl, h1 (nD (q.imp id (sgt (by decide)).mp))⟩) (fun q1 q2 => vM_isDoctor_9 ⟨rfl, ?_⟩)))
  obtain ⟨i, hi, e⟩ := rngL (c := 7) (n := 7) rfl (by decide) q1 q2
  exact h2 i hi e
def co (v : Int32) : Nat → Int32
  | 0 => 0
  | k + 1 => co v k + ((v >>> (nI k &&& 31)) &&& 1)
theorem sM_countOf {M : Mm} {v : Int32} {K : Int32 → Mm → Prop} (h : K (co v 32) M) : CI mM_countOf [.int v] M K := by
  refine call_of rfl (Nat.le_of_ble_eq_true rfl) rfl (vM_countOf_0 ?_)
  have key := lp 32 (P := fun k => X mM_countOf 4 [(0, .int v), (1, .int (co v k)), (2, .int (nI k))] [] M (mC mM_countOf, mS mM_countOf) (QI K)) (fun k hk ih => ?_) ?_
  · exact key
  · refine vM_countOf_4 ⟨fun q => absurd q (nge rfl (by decide) hk), fun _ => ?_⟩
    rw [nI_s]; exact ih
  · exact vM_countOf_4 ⟨fun _ => h, fun q => absurd (nself rfl) q⟩
def mo (v : Int64) : Nat → Int32
  | 0 => 0
  | k + 1 => mo v k + ((v >>> ((nI k).toInt64 &&& 63)) &&& 1).toInt32
theorem sM_manyOf {M : Mm} {v : Int64} {K : Int32 → Mm → Prop} (h : K (mo v 64) M) : CI mM_manyOf [.long v] M K := by
  refine call_of rfl (Nat.le_of_ble_eq_true rfl) rfl (vM_manyOf_0 ?_)
  have key := lp 64 (P := fun k => X mM_manyOf 4 [(0, .long v), (2, .int (mo v k)), (3, .int (nI k))] [] M (mC mM_manyOf, mS mM_manyOf) (QI K)) (fun k hk ih => ?_) ?_
  · exact key
  · refine vM_manyOf_4 ⟨fun q => absurd q (nge rfl (by decide) hk), fun _ => ?_⟩
    rw [nI_s]; exact ih
  · exact vM_manyOf_4 ⟨fun _ => h, fun q => absurd (nself rfl) q⟩
/-- the first bit, r places before the end -/
def ffo (v : Int64) : Nat → Int32
  | 0 => -4
  | r + 1 => if ((v >>> ((nI (63 - r)).toInt64 &&& 63)) &&& 1) = 0 then ffo v r else nI (63 - r)
theorem sM_firstOf {M : Mm} {v : Int64} {K : Int32 → Mm → Prop} (h : K (ffo v 64) M) : CI mM_firstOf [.long v] M K := by
  refine call_of rfl (Nat.le_of_ble_eq_true rfl) rfl (vM_firstOf_0 ?_)
  have key := lp 64 (P := fun k => ffo v (64 - k) = ffo v 64 → X mM_firstOf 2 [(0, .long v), (2, .int (nI k))] [] M (mC mM_firstOf, mS mM_firstOf) (QI K)) (fun k hk ih => ?_) ?_
  · exact key rfl
  · intro e
    rw [show 64 - k = (63 - k) + 1 by omega, ffo, show 63 - (63 - k) = k by omega] at e
    refine vM_firstOf_2 ⟨fun q => ?_, fun q => ?_⟩
    · rcases q with q | q
      · exact absurd q (nge rfl (by decide) hk)
      · rw [if_neg q.2] at e
        rw [if_neg q.1, e]; exact h
    · rw [if_pos q.2] at e
      rw [nI_s]
      exact ih (by rw [show 64 - (k + 1) = 63 - k by omega]; exact e)
  · intro e
    refine vM_firstOf_2 ⟨fun _ => ?_, fun q => absurd (nself rfl) q.1⟩
    rw [if_pos (show (64 : Int32) ≤ nI 64 from nself rfl)]
    rw [← e] at h
    exact h
def td (y n : Int64) (c : Int32) : Int32 := if ((y >>> (c.toInt64 &&& 63)) &&& 1) = 1 then 1 else if ((n >>> (c.toInt64 &&& 63)) &&& 1) = 1 then 0 else -4
theorem sM_told {M : Mm} {y n : Int64} {c : Int32} {K : Int32 → Mm → Prop} (h : K (td y n c) M) : CI mM_told [.long y, .long n, .int c] M K :=
  call_of rfl (Nat.le_of_ble_eq_true rfl) rfl (vM_told_0 h)
/-- a word's row -/
def wd (M : Mm) (w k : Nat) : Int32 := gi M 6101 (10 * w + k)
theorem nI_ix (w k : Nat) : 10 * nI w + nI k = nI (10 * w + k) := by
  show (10 : Int32) * Int32.ofNat w + Int32.ofNat k = Int32.ofNat (10 * w + k)
  rw [Int32.ofNat_add, Int32.ofNat_mul]; rfl
theorem sM_of {M : Mm} {w k : Nat} {kk : Int32} {K : Int32 → Mm → Prop} (hm : MR M) (hw : w < 25) (hk : kk = nI k) (hk2 : k < 10) (h : K (wd M w k) M) : CI mM_of [.ref 6027, .int (nI w), .int kk] M K := by
  subst hk
  refine call_of rfl (Nat.le_of_ble_eq_true rfl) rfl (vM_of_0 rfl (mr1 hm) ?_)
  rw [nI_ix, ncl (by omega)]
  exact ⟨vin (by omega) (by decide), h⟩
abbrev uns (M : Mm) (w : Nat) : Prop := ((gi M 6027 24 >>> (nI w &&& 31)) &&& 1) = 1
theorem sM_isUnsound {M : Mm} {w : Nat} {K : Int32 → Mm → Prop} (h : K (if uns M w then 1 else 0) M) : CI mM_isUnsound [.ref 6027, .int (nI w)] M K :=
  call_of rfl (Nat.le_of_ble_eq_true rfl) rfl (vM_isUnsound_0 rfl h)
theorem sM_isWord {M : Mm} {v : Int32} {W : Nat} {K : Int32 → Mm → Prop} (hW : gi M 6027 0 = nI W) (hW2 : W ≤ 25) (h0 : (v < 0 ∨ nI W ≤ v) → K 0 M) (h1 : ∀ w, w < W → v = nI w → K 1 M) : CI mM_isWord [.ref 6027, .int v] M K := by
  refine call_of rfl (Nat.le_of_ble_eq_true rfl) rfl (vM_isWord_0 rfl (sM_in (l := 0) (m := gi M 6027 0 - 1) rfl rfl (fun q => vM_isWord_13 ⟨rfl, h0 ?_⟩) (fun q1 q2 => vM_isWord_13 ⟨rfl, ?_⟩)))
  · refine q.imp id (fun q => ?_)
    rw [hW] at q
    rcases Nat.eq_zero_or_pos W with e | e
    · subst e
      exact (sgt (c := nI 0 - 1) (d := nI 0) (by decide)).mp q
    · have e2 : nI W - 1 = nI (W - 1) := by
        rw [show W = (W - 1) + 1 by omega, ← nI_s, show W - 1 + 1 - 1 = W - 1 by omega]
        exact Int32.add_sub_cancel _ _
      rw [e2] at q
      have : (nI (W - 1)).toInt + 1 = (nI W).toInt := by
        show (Int32.ofNat (W - 1)).toInt + 1 = (Int32.ofNat W).toInt
        rw [Int32.toInt_ofNat_of_lt (by omega), Int32.toInt_ofNat_of_lt (by omega)]; omega
      exact (sgt this).mp q
  · rw [hW] at q2
    obtain ⟨i, hi, rfl⟩ := nI_of q1
    have e2 : ¬ nI W ≤ nI i := by
      rcases Nat.eq_zero_or_pos W with e | e
      · subst e
        exact fun q => q2 ((sgt (c := nI 0 - 1) (d := nI 0) (by decide)).mpr q)
      · have e2 : nI W - 1 = nI (W - 1) := by
          rw [show W = (W - 1) + 1 by omega, ← nI_s, show W - 1 + 1 - 1 = W - 1 by omega]
          exact Int32.add_sub_cancel _ _
        rw [e2, nlt hi (by omega)] at q2
        rw [nle hi (by omega)]; omega
    rw [nle hi (by omega)] at e2
    exact h1 i (by omega) rfl
/-- whether a word counts -/
def cw (M : Mm) (w : Nat) : Int32 := if wd M w 0 = 5 then 0 else if wd M w 0 = 3 ∧ gi M 6543 2 = 0 then 0 else
  if ((gi M 6543 0 >>> (wd M w 1 &&& 31)) &&& 1) = 1 ∨ (((gi M 6027 9 >>> (wd M w 2 &&& 31)) &&& 1) = 1 ∧ ¬ gi M 6157 (wd M w 2).toNatClampNeg < gi M 6543 1) then 1 else 0
theorem sM_counts {M : Mm} {w b : Nat} {K : Int32 → Mm → Prop} (hm : MR M) (hw : w < 25) (hb : wd M w 2 = nI b) (hb2 : b < 8) (h : K (cw M w) M) : CI mM_counts [.ref 6027, .int (nI w)] M K := by
  refine call_of rfl (Nat.le_of_ble_eq_true rfl) rfl (vM_counts_0 rfl (sM_of (k := 0) hm hw rfl (by decide) (vM_counts_6 rfl ⟨fun q => ?_, fun q => sM_of (k := 0) hm hw rfl (by decide) (vM_counts_16 rfl (mr18 hm) ⟨fun q2 => sM_of (k := 2) hm hw rfl (by decide) ?_, fun q2 => ?_⟩)⟩)))
  · rwa [cw, if_pos q] at h
  · have q3 : ¬ (wd M w 0 = 3 ∧ gi M 6543 2 = 0) := fun p => q2.elim (fun n => n p.1) (fun n => n.2 p.2)
    rw [cw, if_neg q, if_neg q3] at h
    have fin : ∀ x : Int32, (x = 0 ∨ x = 1) → (x = 1 ↔ (((gi M 6027 9 >>> (wd M w 2 &&& 31)) &&& 1) = 1 ∧ ¬ gi M 6157 (wd M w 2).toNatClampNeg < gi M 6543 1)) → X mM_counts 73 [(0, .ref 6027), (1, .int (nI w))] [.int x] M (mC mM_counts, mS mM_counts) (QI K) := by
      intro x hx hi
      refine vM_counts_73 rfl (mr18 hm) (sM_of (k := 1) hm hw rfl (by decide) (vM_counts_86 ⟨fun p => ?_, fun p => ?_⟩))
      · rwa [if_pos] at h
        rcases p with p | p
        · exact Or.inl p
        · exact Or.inr (hi.mp (hx.resolve_left p.2))
      · rwa [if_neg] at h
        rintro (n | n)
        · exact p.1 n
        · have := hi.mpr n
          rw [p.2] at this
          exact absurd this (by decide)
    refine vM_counts_41 rfl (mr2 hm) ⟨fun p => vM_counts_72 (fin 0 (Or.inl rfl) ⟨fun n => absurd n (by decide), fun n => absurd n.1 p⟩), fun p => sM_of (k := 2) hm hw rfl (by decide) (vM_counts_58 rfl rfl (mr18 hm) ⟨by rw [hb]; exact vin hb2 (by decide), fun n => vM_counts_72 (fin 0 (Or.inl rfl) ⟨fun e => absurd e (by decide), fun e => absurd n e.2⟩), fun n => fin 1 (Or.inr rfl) ⟨fun _ => ⟨p, n⟩, fun _ => rfl⟩⟩)⟩
  · rwa [cw, if_neg q, if_pos q2] at h
/-- to the end of what a word follows -/
def en (M : Mm) : Nat → Nat → Nat
  | 0, v => v
  | n + 1, v => if wd M v 6 = -4 then v else en M n (wd M v 6).toNatClampNeg
def chn (M : Mm) (B : Nat) : Nat → Nat → Prop
  | 0, v => wd M v 6 = -4
  | n + 1, v => wd M v 6 = -4 ∨ ∃ f, f < B ∧ wd M v 6 = nI f ∧ chn M B n f
theorem chn_up {M : Mm} {B C : Nat} (h : B ≤ C) : ∀ n v, chn M B n v → chn M C n v
  | 0, _, q => q
  | n + 1, v, q => q.imp id (fun ⟨f, hf, e, q⟩ => ⟨f, Nat.lt_of_lt_of_le hf h, e, chn_up h n f q⟩)
def wt (M : Mm) (w : Nat) : Int32 := if uns M w then 0 else co (wd M (en M 25 w) 3) 32 + co (wd M (en M 25 w) 4) 32
theorem nI4 {f : Nat} (hf : f < 25) : ¬ nI f = -4 := by
  have : ∀ f, f < 25 → ¬ nI f = -4 := by decide +kernel
  exact this f hf
theorem sM_weightOf {M : Mm} {w : Nat} {K : Int32 → Mm → Prop} (hm : MR M) (hw : w < 25) {B : Nat} (hB : B ≤ 25) (hc : ¬ uns M w → chn M B 25 w) (h : K (wt M w) M) : CI mM_weightOf [.ref 6027, .int (nI w)] M K := by
  refine call_of rfl (Nat.le_of_ble_eq_true rfl) rfl (vM_weightOf_0 rfl (sM_isUnsound (vM_weightOf_5 ⟨fun q => ?_, fun q => ?_⟩)))
  · by_cases u : uns M w
    · rw [if_pos u] at q; exact absurd q (by decide)
    · rw [wt, if_neg u] at h
      have key : ∀ (n v : Nat), v < 25 → chn M B n v → K (co (wd M (en M n v) 3) 32 + co (wd M (en M n v) 4) 32) M → X mM_weightOf 12 [(0, .ref 6027), (2, .int (nI v))] [] M (mC mM_weightOf, mS mM_weightOf) (QI K) := by
        intro n
        induction n with
        | zero =>
          intro v hv hc h
          exact vM_weightOf_12 rfl (sM_of (k := 6) hm hv rfl (by decide) (vM_weightOf_19 rfl ⟨fun _ => sM_of (k := 3) hm hv rfl (by decide) (vM_weightOf_41 (sM_countOf (vM_weightOf_44 rfl (sM_of (k := 4) hm hv rfl (by decide) (vM_weightOf_50 (sM_countOf (vM_weightOf_53 h))))))), fun q => absurd hc q⟩))
        | succ n ih =>
          intro v hv hc h
          rw [en] at h
          refine vM_weightOf_12 rfl (sM_of (k := 6) hm hv rfl (by decide) (vM_weightOf_19 rfl ⟨fun q => ?_, fun q => sM_of (k := 6) hm hv rfl (by decide) (vM_weightOf_31 ?_)⟩))
          · rw [if_pos q] at h
            exact sM_of (k := 3) hm hv rfl (by decide) (vM_weightOf_41 (sM_countOf (vM_weightOf_44 rfl (sM_of (k := 4) hm hv rfl (by decide) (vM_weightOf_50 (sM_countOf (vM_weightOf_53 h)))))))
          · rw [if_neg q] at h
            rcases hc with hc | ⟨f, hf, e, hc⟩
            · exact absurd hc q
            · rw [e, ncl (by omega)] at h
              rw [e]
              exact ih f (by omega) hc h
      exact key 25 w hw (hc u) h
  · by_cases u : uns M w
    · rwa [wt, if_pos u] at h
    · rw [if_neg u] at q; exact absurd rfl q
end MG9
section MG10
/-! ===== the reference at any state: doctors, laws, what holds ===== -/
/-- what the queries stand on is the same, for W words -/
def SM (W : Nat) (M N : Mm) : Prop := gr N = gr M ∧ (∀ k, k < 10 * W → gi N 6101 k = gi M 6101 k) ∧ gi N 6543 = gi M 6543 ∧ gi N 6157 = gi M 6157 ∧ gi N 6027 0 = gi M 6027 0 ∧ gi N 6027 9 = gi M 6027 9 ∧ gi N 6027 24 = gi M 6027 24 ∧ (∀ k, k < W → gl N 6874 k = gl M 6874 k) ∧ ∀ k, k < W → gl N 6938 k = gl M 6938 k
section SMS
variable {M N : Mm} {W : Nat}
theorem wd_sm (s : SM W M N) {w k : Nat} (hw : w < W) (hk : k < 10) : wd N w k = wd M w k := s.2.1 _ (by omega)
theorem uns_sm (s : SM W M N) (w : Nat) : uns N w ↔ uns M w := by unfold uns; rw [s.2.2.2.2.2.2.1]
theorem cw_sm (s : SM W M N) {w : Nat} (hw : w < W) : cw N w = cw M w := by
  unfold cw
  rw [wd_sm s hw (k := 0) (by decide), wd_sm s hw (k := 1) (by decide), wd_sm s hw (k := 2) (by decide), s.2.2.1, s.2.2.2.1, s.2.2.2.2.2.1]
theorem en_sm (s : SM W M N) (hW : W ≤ 25) : ∀ n v, v < W → chn M W n v → en N n v = en M n v ∧ en M n v < W
  | 0, _, hv, _ => ⟨rfl, hv⟩
  | n + 1, v, hv, q => by
    rw [en, en, wd_sm s hv (by decide)]
    rcases q with q | ⟨f, hf, e, q⟩
    · rw [if_pos q, if_pos q]; exact ⟨rfl, hv⟩
    · have n4 : ¬ wd M v 6 = -4 := by rw [e]; exact nI4 (by omega)
      rw [if_neg n4, if_neg n4, e, ncl (by omega)]
      exact en_sm s hW n f hf q
theorem wt_sm (s : SM W M N) (hW : W ≤ 25) {w : Nat} (hw : w < W) (hc : ¬ uns M w → chn M W 25 w) : wt N w = wt M w := by
  unfold wt
  by_cases u : uns M w
  · rw [if_pos u, if_pos ((uns_sm s w).mpr u)]
  · rw [if_neg u, if_neg (fun q => u ((uns_sm s w).mp q))]
    obtain ⟨e1, e2⟩ := en_sm s hW 25 w hw (hc u)
    rw [e1, wd_sm s e2 (by decide), wd_sm s e2 (by decide)]
theorem chn_sm (s : SM W M N) : ∀ n v, v < W → chn M W n v → chn N W n v
  | 0, v, hv, q => by rw [chn, wd_sm s hv (by decide)]; exact q
  | n + 1, v, hv, q => by
    rw [chn, wd_sm s hv (by decide)]
    exact q.imp id (fun ⟨f, hf, e, q⟩ => ⟨f, hf, e, chn_sm s n f hf q⟩)
end SMS
/-- the words are such as may be asked -/
def JW (M : Mm) (W : Nat) : Prop := MR M ∧ gi M 6027 0 = nI W ∧ W ≤ 25 ∧ ∀ w, w < W → (∃ b, b < 8 ∧ wd M w 2 = nI b) ∧ (¬ uns M w → chn M W 25 w)
theorem jw_sm {M N : Mm} {W : Nat} (s : SM W M N) (j : JW M W) : JW N W := by
  refine ⟨mr_w j.1 s.1, s.2.2.2.2.1.trans j.2.1, j.2.2.1, fun w hw => ?_⟩
  obtain ⟨⟨b, hb, e⟩, c⟩ := j.2.2.2 w hw
  exact ⟨⟨b, hb, (wd_sm s hw (by decide)).trans e⟩, fun u => chn_sm s _ _ hw (c (fun q => u ((uns_sm s w).mpr q)))⟩
def twv (M : Mm) (d c : Int32) (i : Nat) : Int32 := if wd M i 1 = d ∧ ¬ cw M i = 0 then td (gl M 6874 i) (gl M 6938 i) c else -4
def twt (M : Mm) (i : Nat) : Int32 := if gi M 6543 3 = 1 then nI i else wt M i
def tw (M : Mm) (d c : Int32) : Nat → Int32 × Int32 × Int32
  | 0 => (-4, -1, 0)
  | i + 1 => if twv M d c i = -4 ∨ twt M i < (tw M d c i).2.1 then tw M d c i else (twv M d c i, twt M i, if twt M i = (tw M d c i).2.1 ∧ (¬ (tw M d c i).2.2 = 0 ∨ ¬ twv M d c i = (tw M d c i).1) then 1 else 0)
def o2 (M : Mm) (W : Nat) (d c : Int32) : Int32 := if gi M 6543 3 ≤ 0 then -4 else if (tw M d c W).2.2 = 0 then (tw M d c W).1 else -4
section SMS
variable {M N : Mm} {W : Nat}
theorem twv_sm (s : SM W M N) (d c : Int32) {i : Nat} (hi : i < W) : twv N d c i = twv M d c i := by
  unfold twv; rw [wd_sm s hi (by decide), cw_sm s hi, s.2.2.2.2.2.2.2.1 i hi, s.2.2.2.2.2.2.2.2 i hi]
theorem twt_sm (s : SM W M N) (j : JW M W) {i : Nat} (hi : i < W) : twt N i = twt M i := by unfold twt; rw [wt_sm s j.2.2.1 hi (j.2.2.2 i hi).2, s.2.2.1]
theorem tw_sm (s : SM W M N) (j : JW M W) (d c : Int32) : ∀ i, i ≤ W → tw N d c i = tw M d c i
  | 0, _ => rfl
  | i + 1, hi => by rw [tw, tw, twv_sm s d c hi, twt_sm s j hi, tw_sm s j d c i (by omega)]
theorem o2_sm (s : SM W M N) (j : JW M W) (d c : Int32) : o2 N W d c = o2 M W d c := by unfold o2; rw [tw_sm s j d c W (Nat.le_refl W), s.2.2.1]
end SMS
theorem sM_ofTwo {M : Mm} {W : Nat} {d c : Int32} {K : Int32 → Mm → Prop} (j : JW M W) (h : K (o2 M W d c) M) : CI mM_ofTwo [.ref 6027, .int d, .int c] M K := by
  obtain ⟨hm, hW, hW2, hw⟩ := j
  refine call_of rfl (Nat.le_of_ble_eq_true rfl) rfl (vM_ofTwo_0 ?_)
  by_cases r3 : gi M 6543 3 ≤ 0
  · refine vM_ofTwo_12 rfl (mr18 hm) ⟨fun _ => ?_, fun q => absurd r3 q.2⟩
    rw [if_pos rfl]
    rwa [o2, if_pos r3] at h
  · rw [o2, if_neg r3] at h
    have key := lp W (P := fun i => X mM_ofTwo 12 [(0, .ref 6027), (1, .int d), (2, .int c), (3, .int (tw M d c i).1), (4, .int (tw M d c i).2.1), (5, .int (tw M d c i).2.2), (6, .int (nI i))] [] M (mC mM_ofTwo, mS mM_ofTwo) (QI K)) (fun i hi ih => ?_) ?_
    · exact key
    · obtain ⟨⟨b, hb, eb⟩, hc⟩ := hw i hi
      have hi2 : i < 25 := by omega
      have nW : ¬ gi M 6027 0 ≤ nI i := by rw [hW]; exact nge rfl (by omega) hi
      have g : ∀ v t, v = twv M d c i → t = twt M i → X mM_ofTwo 96 [(0, .ref 6027), (1, .int d), (2, .int c), (3, .int (tw M d c i).1), (4, .int (tw M d c i).2.1), (5, .int (tw M d c i).2.2), (6, .int (nI i)), (7, .int v)] [.int t] M (mC mM_ofTwo, mS mM_ofTwo) (QI K) := by
        rintro v t rfl rfl
        refine vM_ofTwo_96 ⟨fun q => ?_, fun q => vM_ofTwo_135 ?_, fun q => vM_ofTwo_135 ?_⟩
        · have e : tw M d c (i + 1) = tw M d c i := by rw [tw, if_pos (q.imp id (fun q => q.2))]
          rw [e] at ih
          rw [nI_s]; exact ih
        · have n1 : ¬ (twv M d c i = -4 ∨ twt M i < (tw M d c i).2.1) := by
            rcases q with ⟨a, b, -⟩ | ⟨a, b, -⟩ <;> exact fun p => p.elim a b
          have n2 : ¬ (twt M i = (tw M d c i).2.1 ∧ (¬ (tw M d c i).2.2 = 0 ∨ ¬ twv M d c i = (tw M d c i).1)) := by
            rcases q with ⟨-, -, a⟩ | ⟨-, -, -, a, b⟩
            · exact fun p => a p.1
            · exact fun p => p.2.elim (fun n => n a) (fun n => n b)
          have e : tw M d c (i + 1) = (twv M d c i, twt M i, 0) := by rw [tw, if_neg n1, if_neg n2]
          rw [e] at ih
          rw [nI_s]; exact ih
        · have n1 : ¬ (twv M d c i = -4 ∨ twt M i < (tw M d c i).2.1) := by
            rcases q with ⟨a, b, -⟩ | ⟨a, b, -⟩ <;> exact fun p => p.elim a b
          have n2 : twt M i = (tw M d c i).2.1 ∧ (¬ (tw M d c i).2.2 = 0 ∨ ¬ twv M d c i = (tw M d c i).1) := by
            rcases q with ⟨-, -, a, b⟩ | ⟨-, -, a, -, b⟩
            · exact ⟨a, Or.inl b⟩
            · exact ⟨a, Or.inr b⟩
          have e : tw M d c (i + 1) = (twv M d c i, twt M i, 1) := by rw [tw, if_neg n1, if_pos n2]
          rw [e] at ih
          rw [nI_s]; exact ih
      have fin : ∀ v, v = twv M d c i → X mM_ofTwo 73 [(0, .ref 6027), (1, .int d), (2, .int c), (3, .int (tw M d c i).1), (4, .int (tw M d c i).2.1), (5, .int (tw M d c i).2.2), (6, .int (nI i))] [.int v] M (mC mM_ofTwo, mS mM_ofTwo) (QI K) := by
        intro v hv
        refine vM_ofTwo_73 rfl (mr18 hm) ⟨fun p => sM_weightOf hm hi2 hW2 hc (g v _ hv ?_), fun p => g v _ hv ?_⟩
        · rw [twt, if_neg p]
        · rw [twt, if_pos p]
      refine vM_ofTwo_12 rfl (mr18 hm) ⟨fun q => ?_, fun q => sM_of (k := 1) hm hi2 rfl (by decide) (vM_ofTwo_37 rfl ⟨fun p => vM_ofTwo_71 (fin _ ?_), fun p => sM_counts hm hi2 eb hb (vM_ofTwo_47 rfl (mr25 hm) (mr26 hm) ⟨fun _ => vin hi2 (by decide), fun _ => vin hi2 (by decide), fun p2 => vM_ofTwo_71 (fin _ ?_), fun p2 => sM_told (vM_ofTwo_68 (fin _ ?_))⟩)⟩)⟩
      · rcases q with q | q
        · exact absurd q nW
        · exact absurd q.2 r3
      · rw [twv, if_neg (fun n => p n.1)]
      · rw [twv, if_neg (fun n => n.2 p2)]
      · rw [twv, if_pos ⟨p, p2⟩, ncl (by omega)]
    · refine vM_ofTwo_12 rfl (mr18 hm) ⟨fun _ => h, fun q => absurd ?_ q.1⟩
      rw [hW]; exact nself rfl
def lav (M : Mm) (c : Int32) (i : Nat) : Int32 := if wd M i 0 = 5 then td (gl M 6874 i) (gl M 6938 i) c else -4
abbrev lab (M : Mm) (i : Nat) (s : Int32 × Int32 × Int32) : Prop := s.1 = -4 ∨ (gi M 6543 6 = 1 ∧ ¬ wd M i 7 ≤ s.2.1) ∨ (¬ gi M 6543 6 = 1 ∧ ¬ s.2.1 ≤ wd M i 7)
def laS (M : Mm) (c : Int32) : Nat → Int32 × Int32 × Int32
  | 0 => (-4, 0, 0)
  | i + 1 => if lav M c i = -4 ∨ (¬ lab M i (laS M c i) ∧ ¬ wd M i 7 = (laS M c i).2.1) then laS M c i else (lav M c i, wd M i 7, if lab M i (laS M c i) ∨ ((laS M c i).2.2 = 0 ∧ lav M c i = (laS M c i).1) then 0 else 1)
def laV (M : Mm) (W : Nat) (c : Int32) : Int32 := if gi M 6543 6 ≤ 0 then -4 else if (laS M c W).2.2 = 0 then (laS M c W).1 else -4
section SMS
variable {M N : Mm} {W : Nat}
theorem lav_sm (s : SM W M N) (c : Int32) {i : Nat} (hi : i < W) : lav N c i = lav M c i := by
  unfold lav; rw [wd_sm s hi (by decide), s.2.2.2.2.2.2.2.1 i hi, s.2.2.2.2.2.2.2.2 i hi]
theorem laS_sm (s : SM W M N) (c : Int32) : ∀ i, i ≤ W → laS N c i = laS M c i
  | 0, _ => rfl
  | i + 1, hi => by
    simp only [laS, lav_sm s c (show i < W from hi), laS_sm s c i (by omega), lab, wd_sm s (show i < W from hi) (show 7 < 10 by decide), s.2.2.1]
theorem laV_sm (s : SM W M N) (c : Int32) : laV N W c = laV M W c := by unfold laV; rw [laS_sm s c W (Nat.le_refl W), s.2.2.1]
end SMS
theorem sM_lawOf {M : Mm} {W : Nat} {c : Int32} {K : Int32 → Mm → Prop} (j : JW M W) (h : K (laV M W c) M) : CI mM_lawOf [.ref 6027, .int c] M K := by
  obtain ⟨hm, hW, hW2, hw⟩ := j
  refine call_of rfl (Nat.le_of_ble_eq_true rfl) rfl (vM_lawOf_0 ?_)
  by_cases r6 : gi M 6543 6 ≤ 0
  · refine vM_lawOf_11 rfl (mr18 hm) ⟨fun _ => ?_, fun q => absurd r6 q.2⟩
    rw [if_pos rfl]
    rwa [laV, if_pos r6] at h
  · rw [laV, if_neg r6] at h
    have key := lp W (P := fun i => X mM_lawOf 11 [(0, .ref 6027), (1, .int c), (2, .int (laS M c i).1), (3, .int (laS M c i).2.1), (4, .int (laS M c i).2.2), (5, .int (nI i))] [] M (mC mM_lawOf, mS mM_lawOf) (QI K)) (fun i hi ih => ?_) ?_
    · exact key
    · have hi2 : i < 25 := by omega
      have nW : ¬ gi M 6027 0 ≤ nI i := by rw [hW]; exact nge rfl (by omega) hi
      have b115 : ∀ v x, v = lav M c i → (x = 0 ∨ x = 1) → (x = 1 ↔ lab M i (laS M c i)) → X mM_lawOf 115 [(0, .ref 6027), (1, .int c), (2, .int (laS M c i).1), (3, .int (laS M c i).2.1), (4, .int (laS M c i).2.2), (5, .int (nI i)), (6, .int v)] [.int x] M (mC mM_lawOf, mS mM_lawOf) (QI K) := by
        rintro v x rfl hx hb
        have b141 : ¬ lav M c i = -4 → (lab M i (laS M c i) ∨ wd M i 7 = (laS M c i).2.1) → X mM_lawOf 141 [(0, .ref 6027), (1, .int c), (2, .int (laS M c i).1), (4, .int (laS M c i).2.2), (5, .int (nI i)), (6, .int (lav M c i)), (7, .int x)] [] M (mC mM_lawOf, mS mM_lawOf) (QI K) := by
          intro n1 n2
          have n3 : ¬ (lav M c i = -4 ∨ (¬ lab M i (laS M c i) ∧ ¬ wd M i 7 = (laS M c i).2.1)) := fun p => p.elim n1 (fun p => n2.elim p.1 p.2)
          refine vM_lawOf_141 ⟨fun q => vM_lawOf_162 rfl (sM_of (k := 7) hm hi2 rfl (by decide) (vM_lawOf_175 ?_)), fun q => vM_lawOf_162 rfl (sM_of (k := 7) hm hi2 rfl (by decide) (vM_lawOf_175 ?_))⟩
          · have n4 : lab M i (laS M c i) ∨ ((laS M c i).2.2 = 0 ∧ lav M c i = (laS M c i).1) := by
              rcases q with q | q
              · exact Or.inl (hb.mp (hx.resolve_left q))
              · exact Or.inr q.2
            have e : laS M c (i + 1) = (lav M c i, wd M i 7, 0) := by rw [laS, if_neg n3, if_pos n4]
            rw [e] at ih
            rw [nI_s]; exact ih
          · have n4 : ¬ (lab M i (laS M c i) ∨ ((laS M c i).2.2 = 0 ∧ lav M c i = (laS M c i).1)) := by
              have x0 : x = 0 := by rcases q with q | q <;> exact q.1
              rintro (n | n)
              · have := hb.mpr n
                rw [x0] at this
                exact absurd this (by decide)
              · rcases q with q | q
                · exact q.2 n.1
                · exact q.2.2 n.2
            have e : laS M c (i + 1) = (lav M c i, wd M i 7, 1) := by rw [laS, if_neg n3, if_neg n4]
            rw [e] at ih
            rw [nI_s]; exact ih
        refine vM_lawOf_115 rfl ⟨fun q => ?_, fun q => b141 q.1 (Or.inl (hb.mp (hx.resolve_left q.2))), fun q => sM_of (k := 7) hm hi2 rfl (by decide) (vM_lawOf_137 ⟨fun p => ?_, fun p => b141 q.1 (Or.inr p)⟩)⟩
        · have e : laS M c (i + 1) = laS M c i := by rw [laS, if_pos (Or.inl q)]
          rw [e] at ih
          rw [nI_s]; exact ih
        · have n : ¬ lab M i (laS M c i) := fun n => by
            have := hb.mpr n
            rw [q.2] at this
            exact absurd this (by decide)
          have e : laS M c (i + 1) = laS M c i := by rw [laS, if_pos (Or.inr ⟨n, p⟩)]
          rw [e] at ih
          rw [nI_s]; exact ih
      have b64 : ∀ v, v = lav M c i → X mM_lawOf 64 [(0, .ref 6027), (1, .int c), (2, .int (laS M c i).1), (3, .int (laS M c i).2.1), (4, .int (laS M c i).2.2), (5, .int (nI i))] [.int v] M (mC mM_lawOf, mS mM_lawOf) (QI K) := by
        intro v hv
        refine vM_lawOf_64 rfl (mr18 hm) ⟨fun q => vM_lawOf_110 (b115 v 1 hv (Or.inr rfl) ⟨fun _ => Or.inl q, fun _ => rfl⟩), fun q => sM_of (k := 7) hm hi2 rfl (by decide) (vM_lawOf_106 ⟨fun p => vM_lawOf_114 (b115 v 0 hv (Or.inl rfl) ⟨fun n => absurd n (by decide), fun n => ?_⟩), fun p => vM_lawOf_110 (b115 v 1 hv (Or.inr rfl) ⟨fun _ => Or.inr (Or.inr ⟨q.2, p⟩), fun _ => rfl⟩)⟩), fun q => sM_of (k := 7) hm hi2 rfl (by decide) (vM_lawOf_91 ⟨fun p => vM_lawOf_114 (b115 v 0 hv (Or.inl rfl) ⟨fun n => absurd n (by decide), fun n => ?_⟩), fun p => vM_lawOf_110 (b115 v 1 hv (Or.inr rfl) ⟨fun _ => Or.inr (Or.inl ⟨q.2, p⟩), fun _ => rfl⟩)⟩)⟩
        · rcases n with n | n | n
          · exact absurd n q.1
          · exact absurd n.1 q.2
          · exact absurd p n.2
        · rcases n with n | n | n
          · exact absurd n q.1
          · exact absurd p n.2
          · exact absurd q.2 n.1
      refine vM_lawOf_11 rfl (mr18 hm) ⟨fun q => ?_, fun q => sM_of (k := 0) hm hi2 rfl (by decide) (vM_lawOf_37 rfl (mr25 hm) (mr26 hm) ⟨fun _ => vin hi2 (by decide), fun _ => vin hi2 (by decide), fun p => b64 _ ?_, fun p => sM_told (vM_lawOf_59 (b64 _ ?_))⟩)⟩
      · rcases q with q | q
        · exact absurd q nW
        · exact absurd q.2 r6
      · rw [lav, if_neg p]
      · rw [lav, if_pos p, ncl (by omega)]
    · refine vM_lawOf_11 rfl (mr18 hm) ⟨fun _ => h, fun q => absurd ?_ q.1⟩
      rw [hW]; exact nself rfl
end MG10
section MG11
/-! ===== the reference at any state: findOne, findEach, findHeld, findAll ===== -/
def fyn (M : Mm) (d : Int32) : Nat → Int64 × Int64
  | 0 => (0, 0)
  | i + 1 => if wd M i 1 = d ∧ ¬ cw M i = 0 then ((fyn M d i).1 ||| gl M 6874 i, (fyn M d i).2 ||| gl M 6938 i) else fyn M d i
def clv (M : Mm) (W : Nat) (d : Int32) : Int64 := (fyn M d W).1 &&& (fyn M d W).2
def eyv (M : Mm) (W : Nat) (d : Int32) : Nat → Int64
  | 0 => (fyn M d W).1 &&& ((fyn M d W).2 ^^^ (-1))
  | c + 1 => if ((clv M W d >>> ((nI c).toInt64 &&& 63)) &&& 1) = 1 then eyv M W d c ||| (if o2 M W d (nI c) = 1 then ((1 : Int64) <<< ((nI c).toInt64 &&& 63)) else 0) else eyv M W d c
def enw (M : Mm) (W : Nat) (d : Int32) : Nat → Int64
  | 0 => (fyn M d W).2 &&& ((fyn M d W).1 ^^^ (-1))
  | c + 1 => if ((clv M W d >>> ((nI c).toInt64 &&& 63)) &&& 1) = 1 then enw M W d c ||| (if o2 M W d (nI c) = 0 then ((1 : Int64) <<< ((nI c).toInt64 &&& 63)) else 0) else enw M W d c
section SMS
variable {M N : Mm} {W : Nat}
theorem fyn_sm (s : SM W M N) (d : Int32) : ∀ i, i ≤ W → fyn N d i = fyn M d i
  | 0, _ => rfl
  | i + 1, hi => by rw [fyn, fyn, fyn_sm s d i (by omega), wd_sm s (show i < W from hi) (by decide), cw_sm s (show i < W from hi), s.2.2.2.2.2.2.2.1 i hi, s.2.2.2.2.2.2.2.2 i hi]
theorem clv_sm (s : SM W M N) (d : Int32) : clv N W d = clv M W d := by unfold clv; rw [fyn_sm s d W (Nat.le_refl W)]
theorem eyv_sm (s : SM W M N) (j : JW M W) (d : Int32) : ∀ c, eyv N W d c = eyv M W d c
  | 0 => by rw [eyv, eyv, fyn_sm s d W (Nat.le_refl W)]
  | c + 1 => by rw [eyv, eyv, eyv_sm s j d c, clv_sm s, o2_sm s j]
theorem enw_sm (s : SM W M N) (j : JW M W) (d : Int32) : ∀ c, enw N W d c = enw M W d c
  | 0 => by rw [enw, enw, fyn_sm s d W (Nat.le_refl W)]
  | c + 1 => by rw [enw, enw, enw_sm s j d c, clv_sm s, o2_sm s j]
end SMS
/-- one doctor's three rows alone change -/
def OF (d : Nat) (M N : Mm) : Prop := gi N = gi M ∧ gr N = gr M ∧ ∀ a j, ¬ ((a = 7131 ∨ a = 7003 ∨ a = 7067) ∧ j = d) → gl N a j = gl M a j
theorem of_rf (d : Nat) (M : Mm) : OF d M M := ⟨rfl, rfl, fun _ _ _ => rfl⟩
theorem of_sl {d a : Nat} {M N : Mm} {v : Int64} (f : OF d M N) (h : a = 7131 ∨ a = 7003 ∨ a = 7067) : OF d M (sl N a d v) := by
  refine ⟨f.1, f.2.1, fun b j q => ?_⟩
  rw [gl_sl, if_neg (fun e => q ⟨by rw [e.1]; exact h, e.2⟩)]
  exact f.2.2 b j q
theorem of_sm {W d : Nat} {M N : Mm} (f : OF d M N) : SM W M N := by
  refine ⟨f.2.1, fun _ _ => by rw [f.1], by rw [f.1], by rw [f.1], by rw [f.1], by rw [f.1], by rw [f.1], fun k _ => ?_, fun k _ => ?_⟩
  · exact f.2.2 _ _ (fun q => absurd q.1 (by decide))
  · exact f.2.2 _ _ (fun q => absurd q.1 (by decide))
theorem sM_findOne {M : Mm} {W d : Nat} {K : Mm → Prop} (j : JW M W) (hd : d < 8) (h : ∀ N, OF d M N → gl N 7131 d = clv M W (nI d) → gl N 7003 d = eyv M W (nI d) 64 → gl N 7067 d = enw M W (nI d) 64 → K N) : CV mM_findOne [.ref 6027, .int (nI d)] M K := by
  have jj := j
  obtain ⟨hm, hW, hW2, hw⟩ := j
  refine call_of rfl (Nat.le_of_ble_eq_true rfl) rfl (vM_findOne_0 ?_)
  have key := lp W (P := fun i => X mM_findOne 8 [(0, .ref 6027), (1, .int (nI d)), (2, .long (fyn M (nI d) i).1), (4, .long (fyn M (nI d) i).2), (6, .int (nI i))] [] M (mC mM_findOne, mS mM_findOne) (QV K)) (fun i hi ih => ?_) ?_
  · exact key
  · obtain ⟨⟨b, hb, eb⟩, hc⟩ := hw i hi
    have hi2 : i < 25 := by omega
    have nW : ¬ gi M 6027 0 ≤ nI i := by rw [hW]; exact nge rfl (by omega) hi
    refine vM_findOne_8 rfl (mr29 hm) (mr27 hm) (mr28 hm) ⟨fun q => absurd q nW, fun _ => sM_of (k := 1) hm hi2 rfl (by decide) (vM_findOne_24 rfl ⟨fun p => ?_, fun p => sM_counts hm hi2 eb hb (vM_findOne_34 rfl (mr25 hm) (mr26 hm) ⟨fun _ => vin hi2 (by decide), fun p2 => ?_, fun p2 => ⟨vin hi2 (by decide), ?_⟩⟩)⟩)⟩
    · have e : fyn M (nI d) (i + 1) = fyn M (nI d) i := by rw [fyn, if_neg (fun n => p n.1)]
      rw [e] at ih
      rw [nI_s]; exact ih
    · have e : fyn M (nI d) (i + 1) = fyn M (nI d) i := by rw [fyn, if_neg (fun n => n.2 p2)]
      rw [e] at ih
      rw [nI_s]; exact ih
    · have e : fyn M (nI d) (i + 1) = ((fyn M (nI d) i).1 ||| gl M 6874 i, (fyn M (nI d) i).2 ||| gl M 6938 i) := by rw [fyn, if_pos ⟨p, p2⟩]
      rw [e] at ih
      rw [nI_s, ncl (by omega)]; exact ih
  · refine vM_findOne_8 rfl (mr29 hm) (mr27 hm) (mr28 hm) ⟨fun _ => ⟨vin hd (by decide), vin hd (by decide), vin hd (by decide), ?_⟩, fun q => absurd (by rw [hW]; exact nself rfl) q⟩
    rw [ncl (by omega)]
    have k2 := lp 64 (P := fun c => ∀ N, OF d M N → gl N 7131 d = clv M W (nI d) → gl N 7003 d = eyv M W (nI d) c → gl N 7067 d = enw M W (nI d) c → X mM_findOne 106 [(0, .ref 6027), (1, .int (nI d)), (6, .int (nI c))] [] N (mC mM_findOne, mS mM_findOne) (QV K)) (fun c hc ih N f h1 h2 h3 => ?_) (fun N f h1 h2 h3 => ?_)
    · refine k2 _ (of_sl (of_sl (of_sl (of_rf d M) (Or.inl rfl)) (Or.inr (Or.inl rfl))) (Or.inr (Or.inr rfl))) ?_ ?_ ?_
      · rw [gl_sl, if_neg (by simp), gl_sl, if_neg (by simp), gl_sl, if_pos ⟨rfl, rfl⟩]; rfl
      · rw [gl_sl, if_neg (by simp), gl_sl, if_pos ⟨rfl, rfl⟩]; rfl
      · rw [gl_sl, if_pos ⟨rfl, rfl⟩]; rfl
    · have s := of_sm (W := W) f
      have hmN := mr_w hm f.2.1
      refine vM_findOne_106 rfl (mr29 hmN) ⟨fun _ => vin hd (by decide), fun q => absurd q (nge rfl (by decide) hc), fun q => ?_, fun q => sM_ofTwo (jw_sm s jj) (vM_findOne_136 rfl (mr27 hmN) (mr28 hmN) ⟨vin hd (by decide), vin hd (by decide), vin hd (by decide), vin hd (by decide), ?_⟩)⟩
      · have q2 := q.2
        rw [ncl (show d < 2 ^ 31 by omega), h1] at q2
        rw [nI_s]
        refine ih N f h1 ?_ ?_
        · rw [eyv, if_neg q2]; exact h2
        · rw [enw, if_neg q2]; exact h3
      · have q2 := q.2
        rw [ncl (show d < 2 ^ 31 by omega), h1] at q2
        rw [nI_s, ncl (show d < 2 ^ 31 by omega), o2_sm s jj]
        refine ih _ (of_sl (of_sl f (Or.inr (Or.inl rfl))) (Or.inr (Or.inr rfl))) ?_ ?_ ?_
        · rw [gl_sl, if_neg (by simp), gl_sl, if_neg (by simp)]; exact h1
        · rw [gl_sl, if_neg (by simp), gl_sl, if_pos ⟨rfl, rfl⟩, h2, eyv, if_pos q2]
        · rw [gl_sl, if_pos ⟨rfl, rfl⟩, gl_sl, if_neg (by simp), h3, enw, if_pos q2]
    · have hmN := mr_w hm f.2.1
      exact vM_findOne_106 rfl (mr29 hmN) ⟨fun q => absurd (nself rfl) q, fun _ => h N f h1 h2 h3, fun q => absurd (nself rfl) q.1, fun q => absurd (nself rfl) q.1⟩
/-- the doctors' rows alone change -/
def EF (M N : Mm) : Prop := gi N = gi M ∧ gr N = gr M ∧ ∀ a j, ¬ (a = 7131 ∨ a = 7003 ∨ a = 7067) → gl N a j = gl M a j
theorem ef_rf (M : Mm) : EF M M := ⟨rfl, rfl, fun _ _ _ => rfl⟩
theorem ef_of {d : Nat} {M N O : Mm} (e : EF M N) (f : OF d N O) : EF M O := ⟨f.1.trans e.1, f.2.1.trans e.2.1, fun a j q => (f.2.2 a j (fun p => q p.1)).trans (e.2.2 a j q)⟩
theorem ef_sm {W : Nat} {M N : Mm} (f : EF M N) : SM W M N :=
  ⟨f.2.1, fun _ _ => by rw [f.1], by rw [f.1], by rw [f.1], by rw [f.1], by rw [f.1], by rw [f.1], fun k _ => f.2.2 _ _ (by decide), fun k _ => f.2.2 _ _ (by decide)⟩
/-- the doctors' rows are what the words make of them -/
def EV (M : Mm) (W : Nat) (N : Mm) (d : Nat) : Prop := gl N 7131 d = clv M W (nI d) ∧ gl N 7003 d = eyv M W (nI d) 64 ∧ gl N 7067 d = enw M W (nI d) 64
theorem sM_findEach {M : Mm} {W : Nat} {K : Mm → Prop} (j : JW M W) (h : ∀ N, EF M N → (∀ d, d < 8 → EV M W N d) → K N) : CV mM_findEach [.ref 6027] M K := by
  refine call_of rfl (Nat.le_of_ble_eq_true rfl) rfl (vM_findEach_0 ?_)
  have key := lp 8 (P := fun d => ∀ N, EF M N → (∀ e, e < d → EV M W N e) → X mM_findEach 2 [(0, .ref 6027), (1, .int (nI d))] [] N (mC mM_findEach, mS mM_findEach) (QV K)) (fun d hd ih N f hv => ?_) (fun N f hv => ?_)
  · exact key M (ef_rf M) (fun e he => absurd he (Nat.not_lt_zero e))
  · have s := ef_sm (W := W) f
    refine vM_findEach_2 rfl ⟨fun q => absurd q (nge rfl (by decide) hd), fun _ => sM_findOne (jw_sm s j) hd (fun O f2 h1 h2 h3 => vM_findEach_13 ?_)⟩
    rw [nI_s]
    refine ih O (ef_of f f2) (fun e he => ?_)
    by_cases q : e = d
    · subst q
      exact ⟨h1.trans (clv_sm s _), h2.trans (eyv_sm s j _ _), h3.trans (enw_sm s j _ _)⟩
    · obtain ⟨a, b, c⟩ := hv e (by omega)
      exact ⟨(f2.2.2 _ _ (fun p => q p.2)).trans a, (f2.2.2 _ _ (fun p => q p.2)).trans b, (f2.2.2 _ _ (fun p => q p.2)).trans c⟩
  · exact vM_findEach_2 rfl ⟨fun _ => h N f hv, fun q => absurd (nself rfl) q⟩
/-- how many of the first e doctors' rows have the bit c -/
def sb (G : Nat → Nat → Int64) (a c : Nat) : Nat → Int32
  | 0 => 0
  | e + 1 => sb G a c e + (((G a e) >>> ((nI c).toInt64 &&& 63)) &&& 1).toInt32
def hdv (M : Mm) (c : Nat) : Int32 := if gi M 6543 4 = -4 then -4 else td (gl M 7003 (gi M 6543 4).toNatClampNeg) (gl M 7067 (gi M 6543 4).toNatClampNeg) (nI c)
def byf (l y n hd si : Int32) : Int32 := if l = -4 then (if y = n then (if hd = -4 then (if si = -4 then 0 else 4) else 3) else 2) else 1
def hef (l y n hd si : Int32) : Int32 := if byf l y n hd si = 1 then l else if byf l y n hd si = 2 then (if y ≤ n then 0 else 1) else if byf l y n hd si = 3 then hd else si
def byv (M : Mm) (W c : Nat) : Int32 := byf (laV M W (nI c)) (sb (gl M) 7003 c 8) (sb (gl M) 7067 c 8) (hdv M c) (gi M 6543 5)
def hev (M : Mm) (W c : Nat) : Int32 := hef (laV M W (nI c)) (sb (gl M) 7003 c 8) (sb (gl M) 7067 c 8) (hdv M c) (gi M 6543 5)
def FR (M N : Mm) : Prop := (∀ a, a ≠ 7310 → a ≠ 7374 → a ≠ 7246 → a ≠ 7182 → gi N a = gi M a) ∧ gl N = gl M ∧ gr N = gr M
def HF (M : Mm) (W : Nat) (N : Mm) (c : Nat) : Prop := gi N 7310 c = sb (gl M) 7003 c 8 ∧ gi N 7374 c = sb (gl M) 7067 c 8 ∧ gi N 7246 c = byv M W c ∧ gi N 7182 c = hev M W c
theorem fr_si {M N : Mm} {a j : Nat} {v : Int32} (f : FR M N) (h : a = 7310 ∨ a = 7374 ∨ a = 7246 ∨ a = 7182) : FR M (si N a j v) := by
  refine ⟨fun b h1 h2 h3 h4 => ?_, f.2.1, f.2.2⟩
  rw [← f.1 b h1 h2 h3 h4]
  funext k
  rw [giR]
  rcases h with rfl | rfl | rfl | rfl
  · exact h1
  · exact h2
  · exact h3
  · exact h4
theorem fr_sm {W : Nat} {M N : Mm} (f : FR M N) : SM W M N := by
  have k : ∀ a, a ≠ 7310 → a ≠ 7374 → a ≠ 7246 → a ≠ 7182 → gi N a = gi M a := f.1
  have k6 := k 6027 (by decide) (by decide) (by decide) (by decide)
  exact ⟨f.2.2, fun _ _ => by rw [k 6101 (by decide) (by decide) (by decide) (by decide)], k _ (by decide) (by decide) (by decide) (by decide), k _ (by decide) (by decide) (by decide) (by decide), by rw [k6], by rw [k6], by rw [k6], fun _ _ => by rw [f.2.1], fun _ _ => by rw [f.2.1]⟩
theorem hf_si {M N : Mm} {W c e a : Nat} {v : Int32} (h : HF M W N e) (hne : e ≠ c) : HF M W (si N a c v) e := by
  unfold HF at h ⊢
  have k : ∀ b, gi (si N a c v) b e = gi N b e := fun b => by rw [gi_si, if_neg (fun q => hne q.2)]
  rw [k, k, k, k]; exact h
/-- the head is nobody, or a doctor -/
def HD (M : Mm) : Prop := gi M 6543 4 = -4 ∨ ∃ e, e < 8 ∧ gi M 6543 4 = nI e
theorem sM_findHeld {M : Mm} {W : Nat} {K : Mm → Prop} (j : JW M W) (hh : HD M) (h : ∀ N, FR M N → (∀ c, c < 64 → HF M W N c) → K N) : CV mM_findHeld [.ref 6027] M K := by
  refine call_of rfl (Nat.le_of_ble_eq_true rfl) rfl (vM_findHeld_0 ?_)
  have key := lp 64 (P := fun c => ∀ N, FR M N → (∀ e, e < c → HF M W N e) → X mM_findHeld 2 [(0, .ref 6027), (1, .int (nI c))] [] N (mC mM_findHeld, mS mM_findHeld) (QV K)) (fun c hc ih N f hf => ?_) (fun N f hf => ?_)
  · exact key M ⟨fun _ _ _ _ _ => rfl, rfl, rfl⟩ (fun e he => absurd he (Nat.not_lt_zero e))
  · have hm := mr_w j.1 f.2.2
    refine vM_findHeld_2 rfl (mr32 hm) (mr33 hm) ⟨fun q => absurd q (nge rfl (by decide) hc), fun _ => ⟨vin hc (by decide), vin hc (by decide), ?_⟩⟩
    rw [ncl (by omega)]
    have k2 := lp 8 (P := fun d => ∀ N, FR M N → (∀ e, e < c → HF M W N e) → gi N 7310 c = sb (gl M) 7003 c d → gi N 7374 c = sb (gl M) 7067 c d → X mM_findHeld 24 [(0, .ref 6027), (1, .int (nI c)), (2, .int (nI d))] [] N (mC mM_findHeld, mS mM_findHeld) (QV K)) (fun d hd ih2 N f hf h1 h2 => ?_) (fun N f hf h1 h2 => ?_)
    · refine k2 _ (fr_si (fr_si f (by decide)) (by decide)) (fun e he => hf_si (hf_si (hf e he) (by omega)) (by omega)) ?_ ?_
      · rw [gi_si, if_neg (by simp), gi_si, if_pos ⟨rfl, rfl⟩]; rfl
      · rw [gi_si, if_pos ⟨rfl, rfl⟩]; rfl
    · have hm := mr_w j.1 f.2.2
      refine vM_findHeld_24 rfl (mr32 hm) (mr27 hm) (mr33 hm) (mr28 hm) ⟨fun _ => vin hc (by decide), fun _ => vin hd (by decide), fun q => absurd q (nge rfl (by decide) hd), fun _ => ⟨vin hc (by decide), vin hc (by decide), vin hd (by decide), vin hc (by decide), ?_⟩⟩
      rw [ncl (show c < 2 ^ 31 by omega), ncl (show d < 2 ^ 31 by omega), nI_s]
      refine ih2 _ (fr_si (fr_si f (by decide)) (by decide)) (fun e he => hf_si (hf_si (hf e he) (by omega)) (by omega)) ?_ ?_
      · rw [gi_si, if_neg (by simp), gi_si, if_pos ⟨rfl, rfl⟩, h1, f.2.1]; rfl
      · rw [gi_si, if_pos ⟨rfl, rfl⟩, gi_si, if_neg (by simp), h2]
        rw [show ∀ v, gl (si N 7310 c v) = gl N from fun _ => rfl, f.2.1]; rfl
    · have s := fr_sm (W := W) f
      have hm := mr_w j.1 f.2.2
      have e43 : gi N 6543 = gi M 6543 := s.2.2.1
      have fin : ∀ w, w = hdv M c → X mM_findHeld 124 [(0, .ref 6027), (1, .int (nI c)), (2, .int (laV M W (nI c)))] [.int w] N (mC mM_findHeld, mS mM_findHeld) (QV K) := by
        rintro w rfl
        refine vM_findHeld_124 rfl (mr31 hm) (mr32 hm) (mr33 hm) (mr18 hm) (mr30 hm) ⟨fun _ => vin hc (by decide), fun _ => vin hc (by decide), vin hc (by decide), vin hc (by decide), fun _ => vin hc (by decide), fun _ => vin hc (by decide), fun _ => vin hc (by decide), fun _ => vin hc (by decide), vin hc (by decide), ?_⟩
        have g1 : ∀ v, gi (si N 7246 c v) 7246 c = v := fun v => by rw [gi_si, if_pos ⟨rfl, rfl⟩]
        have g2 : ∀ v, gi (si N 7246 c v) 7310 c = sb (gl M) 7003 c 8 := fun v => by rw [giR _ _ _ _ _ _ (by decide), h1]
        have g3 : ∀ v, gi (si N 7246 c v) 7374 c = sb (gl M) 7067 c 8 := fun v => by rw [giR _ _ _ _ _ _ (by decide), h2]
        have g4 : ∀ v, gi (si N 7246 c v) 6543 5 = gi M 6543 5 := fun v => by rw [giR _ _ _ _ _ _ (by decide), e43]
        have g5 : gi N 6543 5 = gi M 6543 5 := by rw [e43]
        rw [ncl (show c < 2 ^ 31 by omega), nI_s]
        simp only [g1, g2, g3, g4, g5, h1, h2]
        refine ih _ (fr_si (fr_si f (by decide)) (by decide)) (fun e he => ?_)
        by_cases q : e = c
        · subst q
          unfold HF
          refine ⟨?_, ?_, ?_, ?_⟩
          · rw [gi_si, if_neg (by simp), gi_si, if_neg (by simp), h1]
          · rw [gi_si, if_neg (by simp), gi_si, if_neg (by simp), h2]
          · rw [gi_si, if_neg (by simp), gi_si, if_pos ⟨rfl, rfl⟩]; rfl
          · rw [gi_si, if_pos ⟨rfl, rfl⟩]; rfl
        · exact hf_si (hf_si (hf e (by omega)) q) q
      refine vM_findHeld_24 rfl (mr32 hm) (mr27 hm) (mr33 hm) (mr28 hm) ⟨fun q => absurd (nself rfl) q, fun q => absurd (nself rfl) q, fun _ => sM_lawOf (jw_sm s j) ?_, fun q => absurd (nself rfl) q⟩
      rw [laV_sm s]
      refine vM_findHeld_81 rfl (mr18 hm) (mr27 hm) (mr28 hm) ⟨fun q => ?_, fun q => ?_, fun q => sM_told (fin _ ?_), fun q => fin _ ?_⟩
      · rw [e43] at q ⊢
        rcases hh with hh | ⟨e, he, hh⟩
        · exact absurd hh q
        · rw [hh]; exact vin he (by decide)
      · rw [e43] at q ⊢
        rcases hh with hh | ⟨e, he, hh⟩
        · exact absurd hh q
        · rw [hh]; exact vin he (by decide)
      · rw [e43] at q ⊢
        rw [hdv, if_neg q, f.2.1]
      · rw [e43] at q
        rw [hdv, if_pos q]
  · have hm := mr_w j.1 f.2.2
    exact vM_findHeld_2 rfl (mr32 hm) (mr33 hm) ⟨fun _ => h N f hf, fun q => absurd (nself rfl) q⟩
/-- what findAll changes -/
def AF (M N : Mm) : Prop := (∀ a, a ≠ 7310 → a ≠ 7374 → a ≠ 7246 → a ≠ 7182 → gi N a = gi M a) ∧ gr N = gr M ∧ ∀ a j, ¬ (a = 7131 ∨ a = 7003 ∨ a = 7067) → gl N a j = gl M a j
theorem af_rf (M : Mm) : AF M M := ⟨fun _ _ _ _ _ => rfl, rfl, fun _ _ _ => rfl⟩
theorem af_tr {M N O : Mm} (a : AF M N) (b : AF N O) : AF M O := ⟨fun x h1 h2 h3 h4 => (b.1 x h1 h2 h3 h4).trans (a.1 x h1 h2 h3 h4), b.2.1.trans a.2.1, fun x k q => (b.2.2 x k q).trans (a.2.2 x k q)⟩
theorem af_ef {M N : Mm} (e : EF M N) : AF M N := ⟨fun a _ _ _ _ => by rw [e.1], e.2.1, e.2.2⟩
theorem af_fr {M N : Mm} (e : FR M N) : AF M N := ⟨e.1, e.2.2, fun _ _ _ => by rw [e.2.1]⟩
theorem af_of {d : Nat} {M N : Mm} (f : OF d M N) : AF M N := ⟨fun a _ _ _ _ => by rw [f.1], f.2.1, fun a j q => f.2.2 a j (fun p => q p.1)⟩
theorem hd_sm {W : Nat} {M N : Mm} (s : SM W M N) (h : HD M) : HD N := by unfold HD; rw [s.2.2.1]; exact h
/-- all is found: O is the state between findEach and findHeld -/
theorem sM_findAll {M : Mm} {W : Nat} {K : Mm → Prop} (j : JW M W) (hh : HD M) (h : ∀ O N, EF M O → (∀ d, d < 8 → EV M W O d) → FR O N → (∀ c, c < 64 → HF O W N c) → K N) : CV mM_findAll [.ref 6027] M K :=
  call_of rfl (Nat.le_of_ble_eq_true rfl) rfl (vM_findAll_0 rfl (sM_findEach j (fun O e v => vM_findAll_4 rfl (sM_findHeld (jw_sm (ef_sm e) j) (hd_sm (ef_sm (W := W) e) hh) (fun N f hf => vM_findAll_8 (h O N e v f hf))))))
end MG11
section MG12
/-! ===== the reference at any state: the queries ===== -/
theorem yC {i : Nat} (h : i < 64) : isC (nI i) = true := decide_eq_true ⟨n0 i (by omega), nge rfl (by decide) h⟩
theorem yD {i : Nat} (h : i < 8) : isD (nI i) = true := decide_eq_true ⟨n0 i (by omega), nge rfl (by decide) h⟩
theorem yS {i : Nat} (h : i < 4) : isS (nI i) = true := decide_eq_true ⟨n0 i (by omega), nge rfl (by decide) h⟩
theorem yL {c : Int32} (q1 : ¬ c < 0) (q2 : ¬ 2 < c) : isL c = true := decide_eq_true ⟨q1, q2⟩
theorem yE {c : Int32} (q : c = 0 ∨ c = 1) : isE c = true := decide_eq_true q
/-- the state when the doctors are found -/
def EO (M : Mm) (W : Nat) : Mm := (M.1, gi M, (fun a k => if a = 7003 ∧ k < 8 then eyv M W (nI k) 64 else if a = 7067 ∧ k < 8 then enw M W (nI k) 64 else gl M a k), gr M)
theorem gl_eo (M : Mm) (W a k : Nat) : gl (EO M W) a k = if a = 7003 ∧ k < 8 then eyv M W (nI k) 64 else if a = 7067 ∧ k < 8 then enw M W (nI k) 64 else gl M a k := rfl
theorem eo_sm (M : Mm) (W : Nat) : SM W M (EO M W) := by
  refine ⟨rfl, fun _ _ => rfl, rfl, rfl, rfl, rfl, rfl, fun k _ => ?_, fun k _ => ?_⟩
  · rw [gl_eo, if_neg (by simp), if_neg (by simp)]
  · rw [gl_eo, if_neg (by simp), if_neg (by simp)]
theorem sb_cg {G H : Nat → Nat → Int64} {a c : Nat} : ∀ n, (∀ e, e < n → G a e = H a e) → sb G a c n = sb H a c n
  | 0, _ => rfl
  | n + 1, h => by rw [sb, sb, sb_cg n (fun e he => h e (by omega)), h n (by omega)]
theorem hf_eo {M O N : Mm} {W c : Nat} (hh : HD M) (e : EF M O) (v : ∀ d, d < 8 → EV M W O d) (h : HF O W N c) : HF (EO M W) W N c := by
  have g3 : ∀ k, k < 8 → gl O 7003 k = gl (EO M W) 7003 k := fun k hk => by rw [gl_eo, if_pos ⟨rfl, hk⟩]; exact (v k hk).2.1
  have g6 : ∀ k, k < 8 → gl O 7067 k = gl (EO M W) 7067 k := fun k hk => by rw [gl_eo, if_neg (by simp), if_pos ⟨rfl, hk⟩]; exact (v k hk).2.2
  have s3 : sb (gl O) 7003 c 8 = sb (gl (EO M W)) 7003 c 8 := sb_cg 8 g3
  have s6 : sb (gl O) 7067 c 8 = sb (gl (EO M W)) 7067 c 8 := sb_cg 8 g6
  have i43 : gi O 6543 = gi (EO M W) 6543 := by rw [e.1]; rfl
  have l : laV O W (nI c) = laV (EO M W) W (nI c) := (laV_sm (ef_sm e) _).trans (laV_sm (eo_sm M W) _).symm
  have hd : hdv O c = hdv (EO M W) c := by
    unfold hdv
    rw [i43]
    by_cases q : gi (EO M W) 6543 4 = -4
    · rw [if_pos q, if_pos q]
    · rw [if_neg q, if_neg q]
      rcases hh with hh | ⟨k, hk, hh⟩
      · exact absurd hh q
      · rw [show gi (EO M W) 6543 4 = nI k from hh, ncl (by omega), g3 k hk, g6 k hk]
  obtain ⟨h1, h2, h3, h4⟩ := h
  refine ⟨h1.trans s3, h2.trans s6, h3.trans ?_, h4.trans ?_⟩
  · unfold byv; rw [l, s3, s6, hd, i43]
  · unfold hev; rw [l, s3, s6, hd, i43]
theorem tM_findAll {M : Mm} {W : Nat} {K : Mm → Prop} (j : JW M W) (hh : HD M) (h : ∀ N, AF M N → (∀ c, c < 64 → HF (EO M W) W N c) → (∀ d, d < 8 → EV M W N d) → K N) : CV mM_findAll [.ref 6027] M K :=
  sM_findAll j hh (fun O N e v f hf => h N (af_tr (af_ef e) (af_fr f)) (fun c hc => hf_eo hh e v (hf c hc)) (fun d hd => by unfold EV; rw [f.2.1]; exact v d hd))
theorem kh_row {M : Mm} {K : Mm → Prop} (hm : MR M) (h : K (rwm M 7438 64 (gi M 7182))) : CV mM_keepHeld [.ref 6027] M K := by
  refine call_of rfl (Nat.le_of_ble_eq_true rfl) rfl (vM_keepHeld_0 ?_)
  have key := lp 64 (P := fun c => X mM_keepHeld 2 [(0, .ref 6027), (1, .int (nI c))] [] (rwm M 7438 c (gi M 7182)) (mC mM_keepHeld, mS mM_keepHeld) (QV K)) (fun c hc ih => ?_) ?_
  · rw [rwm_0] at key; exact key
  · have hm2 := mr_w hm (gr_rwm M 7438 c (gi M 7182))
    refine vM_keepHeld_2 rfl (mr34 hm2) (mr30 hm2) ⟨fun _ => vin hc (by decide), fun q => absurd q (nge rfl (by decide) hc), fun _ => ⟨vin hc (by decide), ?_⟩⟩
    rw [ncl (by omega), nI_s, rwmR _ _ _ _ _ _ (by decide), rwm_s]; exact ih
  · have hm2 := mr_w hm (gr_rwm M 7438 64 (gi M 7182))
    exact vM_keepHeld_2 rfl (mr34 hm2) (mr30 hm2) ⟨fun q => absurd (nself rfl) q, fun _ => h, fun q => absurd (nself rfl) q⟩
/-- the number c at the j-th step of the way down -/
def dn (j : Nat) : Int32 := 63 - nI j
theorem dn1 : ∀ j, j < 64 → dn j = nI (63 - j) ∧ dn j + (-1) = dn (j + 1) := by decide +kernel
def cnt (H W : Nat → Int32) : Nat → Int32
  | 0 => 0
  | j + 1 => cnt H W j + (if H (63 - j) = W (63 - j) then 0 else 1)
def fst (H W : Nat → Int32) : Nat → Int32
  | 0 => -4
  | j + 1 => if H (63 - j) = W (63 - j) then fst H W j else nI (63 - j)
theorem sM_findChanged {M : Mm} {K : Mm → Prop} (hm : MR M) (h : ∀ N, (∀ a, a ≠ 6027 → gi N a = gi M a) → (∀ j, j ≠ 35 → j ≠ 36 → gi N 6027 j = gi M 6027 j) → gl N = gl M → gr N = gr M → gi N 6027 35 = cnt (gi M 7182) (gi M 7438) 64 → gi N 6027 36 = fst (gi M 7182) (gi M 7438) 64 → K N) : CV mM_findChanged [.ref 6027] M K := by
  refine call_of rfl (Nat.le_of_ble_eq_true rfl) rfl (vM_findChanged_0 rfl ?_)
  have key := lp 64 (P := fun i => ∀ N, (∀ a, a ≠ 6027 → gi N a = gi M a) → (∀ j, j ≠ 35 → j ≠ 36 → gi N 6027 j = gi M 6027 j) → gl N = gl M → gr N = gr M → gi N 6027 35 = cnt (gi M 7182) (gi M 7438) i → gi N 6027 36 = fst (gi M 7182) (gi M 7438) i → X mM_findChanged 14 [(0, .ref 6027), (1, .int (dn i))] [] N (mC mM_findChanged, mS mM_findChanged) (QV K)) (fun i hi ih N f1 f2 f3 f4 f5 f6 => ?_) (fun N f1 f2 f3 f4 f5 f6 => ?_)
  · refine key _ (fun a ha => ?_) (fun j h1 h2 => ?_) rfl rfl ?_ ?_
    · funext k; rw [giR _ _ _ _ _ _ ha, giR _ _ _ _ _ _ ha]
    · rw [gi_si, if_neg (fun q => h2 q.2), gi_si, if_neg (fun q => h1 q.2)]
    · rw [gi_si, if_neg (by decide), gi_si, if_pos ⟨rfl, rfl⟩]; rfl
    · rw [gi_si, if_pos ⟨rfl, rfl⟩]; rfl
  · obtain ⟨e1, e2⟩ := dn1 i hi
    have hm2 := mr_w hm f4
    have hn : ¬ dn i < 0 := by rw [e1]; exact n0 _ (by omega)
    have hin : vp_in (dn i) 64 := by rw [e1]; exact vin (by omega) (by decide)
    have hcl : (dn i).toNatClampNeg = 63 - i := by rw [e1]; exact ncl (by omega)
    have g1 : gi N 7182 = gi M 7182 := f1 _ (by decide)
    have g2 : gi N 7438 = gi M 7438 := f1 _ (by decide)
    have go : ∀ w, w = (if gi M 7182 (63 - i) = gi M 7438 (63 - i) then 0 else 1) → X mM_findChanged 43 [(0, .ref 6027), (1, .int (dn i))] [.int w, .int (gi N 6027 35), .ref 6027] N (mC mM_findChanged, mS mM_findChanged) (QV K) := by
      intro w hw
      refine vM_findChanged_43 rfl rfl (mr30 hm2) (mr34 hm2) ⟨hin, hin, ?_⟩
      rw [e2, hcl, giR _ _ _ _ _ _ (by decide), giR _ _ _ _ _ _ (by decide), g1, g2]
      refine ih _ (fun a ha => ?_) (fun j h1 h2 => ?_) f3 f4 ?_ ?_
      · funext k; rw [giR _ _ _ _ _ _ ha, giR _ _ _ _ _ _ ha, f1 a ha]
      · rw [gi_si, if_neg (fun q => h2 q.2), gi_si, if_neg (fun q => h1 q.2)]; exact f2 j h1 h2
      · rw [gi_si, if_neg (by decide), gi_si, if_pos ⟨rfl, rfl⟩, f5, hw]; rfl
      · rw [gi_si, if_pos ⟨rfl, rfl⟩, show gi (si N 6027 35 (gi N 6027 35 + w)) 6027 36 = gi N 6027 36 from by rw [gi_si, if_neg (by decide)], f6, e1]; rfl
    refine vM_findChanged_14 rfl (mr30 hm2) (mr34 hm2) ⟨fun _ => hin, fun _ => hin, fun q => absurd q hn, fun q => go 1 ?_, fun q => go 0 ?_⟩
    · rw [hcl, g1, g2] at q; rw [if_neg q.2]
    · rw [hcl, g1, g2] at q; rw [if_pos q.2]
  · have hm2 := mr_w hm f4
    have hn : dn 64 < 0 := by decide +kernel
    exact vM_findChanged_14 rfl (mr30 hm2) (mr34 hm2) ⟨fun q => absurd hn q, fun q => absurd hn q, fun _ => h N f1 f2 f3 f4 f5 f6, fun q => absurd hn q.1, fun q => absurd hn q.1⟩
section GM4
variable {M : Mm}
theorem inW {w : Int32} {K : Int32 → Mm → Prop} (h0 : (¬ w = 0 ∧ ¬ w = 1 ∧ ¬ w = 2) → K 0 M) (h1 : (w = 0 ∨ w = 1 ∨ w = 2) → K 1 M) : CI mM_in [.long w.toInt64, .long 0, .long 2] M K := by
  refine sM_in (l := 0) (m := 2) rfl rfl (fun q => h0 ⟨?_, ?_, ?_⟩) (fun q1 q2 => h1 ?_)
  · rintro rfl; exact absurd q (by decide)
  · rintro rfl; exact absurd q (by decide)
  · rintro rfl; exact absurd q (by decide)
  · obtain ⟨i, hi, rfl⟩ := rngL (c := 2) (n := 2) rfl (by decide) q1 q2
    match i, hi with
    | 0, _ => exact Or.inl rfl
    | 1, _ => exact Or.inr (Or.inl rfl)
    | 2, _ => exact Or.inr (Or.inr rfl)
theorem sM_areAsked {w : Int32} {K : Int32 → Mm → Prop} (h1 : isK w = false → K 0 M) (h2 : isK w = true → K 1 M) : CI mM_areAsked [.ref 6027, .int w] M K := by
  refine call_of rfl (Nat.le_of_ble_eq_true rfl) rfl (x_loc [1] rfl (vM_areAsked_0 (sM_in (l := 0) (m := 2) rfl rfl (fun q => vM_areAsked_9 ⟨fun q => absurd rfl q, fun _ => sM_in (l := 10) (m := 14) rfl rfl (fun p => vM_areAsked_23 ⟨fun _ => h1 (decide_eq_false ?_), fun q => absurd rfl q⟩) (fun p1 p2 => vM_areAsked_23 ⟨fun q => absurd q (by decide), fun _ => h2 (decide_eq_true (Or.inr ⟨p1, p2⟩))⟩)⟩) (fun q1 q2 => vM_areAsked_9 ⟨fun _ => h2 (decide_eq_true (Or.inl ⟨q1, Int32.not_lt.mp q2⟩)), fun q => absurd q (by decide)⟩))))
  rintro (r | r)
  · exact q.elim r.1 (fun q => absurd r.2 (Int32.not_le.mpr q))
  · exact p.elim r.1 r.2
def mEach (M : Mm) (W : Nat) (d c : Int32) : Int32 := if (isD d && isC c) = true then td (eyv M W d 64) (enw M W d 64) c else -1
theorem tM_each {W : Nat} {d c : Int32} {K : Int32 → Mm → Prop} (j : JW M W) (h : ∀ N, AF M N → K (mEach M W d c) N) : CI mM_each [.ref 6027, .int d, .int c] M K := by
  refine call_of rfl (Nat.le_of_ble_eq_true rfl) rfl (vM_each_0 (sM_isDoctor (fun q => vM_each_4 ⟨fun _ => ?_, fun q => absurd rfl q⟩) (fun i hi e => vM_each_4 ⟨fun q => absurd q (by decide), fun _ => sM_isCase (fun q => vM_each_11 rfl ⟨fun q => absurd rfl q, fun _ => ?_⟩) (fun k hk e2 => vM_each_11 rfl ⟨fun _ => sM_findEach j (fun N f hv => ?_), fun q => absurd q (by decide)⟩)⟩)))
  · have hh := h M (af_rf M); rwa [mEach, q, Bool.false_and, if_neg (by decide)] at hh
  · have hh := h M (af_rf M); rwa [mEach, q, Bool.and_false, if_neg (by decide)] at hh
  · subst e e2
    have hh := h N (af_ef f)
    rw [mEach, yD hi, yC hk, if_pos (by decide)] at hh
    have hm := mr_w j.1 f.2.1
    refine vM_each_20 rfl (mr27 hm) (mr28 hm) ⟨vin hi (by decide), vin hi (by decide), ?_⟩
    rw [ncl (by omega), (hv i hi).2.1, (hv i hi).2.2]
    exact sM_told (vM_each_36 hh)
def mClash (M : Mm) (W : Nat) (d w : Int32) : Int32 := if (isD d && isE w) = true then (if w = 0 then mo (clv M W d) 64 else ffo (clv M W d) 64) else -1
theorem tM_clash {W : Nat} {d w : Int32} {K : Int32 → Mm → Prop} (j : JW M W) (h : ∀ N, AF M N → K (mClash M W d w) N) : CI mM_clash [.ref 6027, .int d, .int w] M K := by
  refine call_of rfl (Nat.le_of_ble_eq_true rfl) rfl (vM_clash_0 (sM_isDoctor (fun q => vM_clash_4 ⟨fun _ => ?_, fun q => absurd rfl q⟩) (fun i hi e => vM_clash_4 ⟨fun q => absurd q (by decide), fun _ => sM_inE (fun q => vM_clash_14 rfl ⟨fun q => absurd rfl q, fun _ => ?_⟩) (fun q => vM_clash_14 rfl ⟨fun _ => sM_findEach j (fun N f hv => ?_), fun q => absurd q (by decide)⟩)⟩)))
  · have hh := h M (af_rf M); rwa [mClash, q, Bool.false_and, if_neg (by decide)] at hh
  · have hh := h M (af_rf M); rwa [mClash, q, Bool.and_false, if_neg (by decide)] at hh
  · subst e
    have hh := h N (af_ef f)
    rw [mClash, yD hi, yE q, if_pos (by decide)] at hh
    have hm := mr_w j.1 f.2.1
    refine vM_clash_23 rfl (mr29 hm) ⟨fun _ => vin hi (by decide), fun _ => vin hi (by decide), fun p => ?_, fun p => ?_⟩
    · rw [ncl (by omega), (hv i hi).1]; refine sM_firstOf (vM_clash_48 ?_); rwa [if_neg p] at hh
    · rw [ncl (by omega), (hv i hi).1]; refine sM_manyOf (vM_clash_36 ?_); rwa [if_pos p] at hh
def mSides (M : Mm) (W : Nat) (d e w : Int32) : Int32 := if (isD d && (isD e && decide (¬ d = e ∧ (w = 0 ∨ w = 1 ∨ w = 2)))) = true then
  (if w = 0 then mo (((eyv M W d 64 &&& eyv M W e 64) ||| (enw M W d 64 &&& enw M W e 64)) ||| ((eyv M W d 64 &&& enw M W e 64) ||| (enw M W d 64 &&& eyv M W e 64))) 64 else if w = 1 then mo ((eyv M W d 64 &&& eyv M W e 64) ||| (enw M W d 64 &&& enw M W e 64)) 64 else ffo ((eyv M W d 64 &&& enw M W e 64) ||| (enw M W d 64 &&& eyv M W e 64)) 64) else -1
theorem tM_sides {W : Nat} {d e w : Int32} {K : Int32 → Mm → Prop} (j : JW M W) (h : ∀ N, AF M N → K (mSides M W d e w) N) : CI mM_sides [.ref 6027, .int d, .int e, .int w] M K := by
  refine call_of rfl (Nat.le_of_ble_eq_true rfl) rfl (vM_sides_0 (sM_isDoctor (fun q => vM_sides_4 ⟨fun _ => ?_, fun q => absurd rfl q⟩) (fun i hi e1 => vM_sides_4 ⟨fun q => absurd q (by decide), fun _ => sM_isDoctor (fun q => vM_sides_11 ⟨fun _ => ?_, fun q => absurd rfl q.1⟩) (fun k hk e2 => vM_sides_11 ⟨fun q => ?_, fun q => inW (fun p => vM_sides_28 rfl ⟨fun q => absurd rfl q, fun _ => ?_⟩) (fun p => vM_sides_28 rfl ⟨fun _ => sM_findEach j (fun N f hv => ?_), fun q => absurd q (by decide)⟩)⟩)⟩)))
  · have hh := h M (af_rf M); rwa [mSides, q, Bool.false_and, if_neg (by decide)] at hh
  · have hh := h M (af_rf M); rwa [mSides, q, Bool.false_and, Bool.and_false, if_neg (by decide)] at hh
  · have hh := h M (af_rf M)
    have q1 : d = e := by
      rcases q with q | q
      · exact absurd q (by decide)
      · exact q.2
    rwa [mSides, show decide (¬ d = e ∧ (w = 0 ∨ w = 1 ∨ w = 2)) = false from decide_eq_false (fun r => r.1 q1), Bool.and_false, Bool.and_false, if_neg (by decide)] at hh
  · have hh := h M (af_rf M)
    rwa [mSides, show decide (¬ d = e ∧ (w = 0 ∨ w = 1 ∨ w = 2)) = false from decide_eq_false (fun r => r.2.elim p.1 (fun r => r.elim p.2.1 p.2.2)), Bool.and_false, Bool.and_false, if_neg (by decide)] at hh
  · subst e1 e2
    have hh := h N (af_ef f)
    have hm := mr_w j.1 f.2.1
    rw [mSides, yD hi, yD hk, show decide (¬ nI i = nI k ∧ (w = 0 ∨ w = 1 ∨ w = 2)) = true from decide_eq_true ⟨q.2, p⟩, if_pos (by decide)] at hh
    refine vM_sides_37 rfl (mr27 hm) (mr28 hm) ⟨vin hi (by decide), vin hk (by decide), vin hi (by decide), vin hk (by decide), vin hi (by decide), vin hk (by decide), vin hi (by decide), vin hk (by decide), ?_⟩
    rw [ncl (show i < 2 ^ 31 by omega), ncl (show k < 2 ^ 31 by omega), (hv i hi).2.1, (hv i hi).2.2, (hv k hk).2.1, (hv k hk).2.2]
    refine ⟨fun p => sM_firstOf (vM_sides_128 ?_), fun p => sM_manyOf (vM_sides_120 ?_), fun p => sM_manyOf (vM_sides_107 ?_)⟩
    · rwa [if_neg p.1, if_neg p.2] at hh
    · rwa [if_neg p.1, if_pos p.2] at hh
    · rwa [if_pos p] at hh
def mHeld (M : Mm) (W : Nat) (c w : Int32) : Int32 := if (isC c && decide (¬ w < 0 ∧ ¬ 3 < w)) = true then
  (if w = 0 then hev (EO M W) W c.toNatClampNeg else if w = 1 then byv (EO M W) W c.toNatClampNeg else if w = 2 then sb (gl (EO M W)) 7003 c.toNatClampNeg 8 else sb (gl (EO M W)) 7067 c.toNatClampNeg 8) else -1
theorem tM_held {W : Nat} {c w : Int32} {K : Int32 → Mm → Prop} (j : JW M W) (hd : HD M) (h : ∀ N, AF M N → K (mHeld M W c w) N) : CI mM_held [.ref 6027, .int c, .int w] M K := by
  refine call_of rfl (Nat.le_of_ble_eq_true rfl) rfl (vM_held_0 (sM_isCase (fun q => vM_held_4 ⟨fun _ => ?_, fun q => absurd rfl q⟩) (fun i hi e => vM_held_4 ⟨fun q => absurd q (by decide), fun _ => sM_in (l := 0) (m := 3) rfl rfl (fun q => vM_held_16 rfl ⟨fun q => absurd rfl q, fun _ => ?_⟩) (fun q1 q2 => vM_held_16 rfl ⟨fun _ => tM_findAll j hd (fun N f hf hv => ?_), fun q => absurd q (by decide)⟩)⟩)))
  · have hh := h M (af_rf M); rwa [mHeld, q, Bool.false_and, if_neg (by decide)] at hh
  · have hh := h M (af_rf M)
    rwa [mHeld, show decide (¬ w < 0 ∧ ¬ 3 < w) = false from decide_eq_false (fun r => q.elim r.1 r.2), Bool.and_false, if_neg (by decide)] at hh
  · subst e
    have hh := h N f
    rw [mHeld, yC hi, show decide (¬ w < 0 ∧ ¬ 3 < w) = true from decide_eq_true ⟨q1, q2⟩, if_pos (by decide), ncl (by omega)] at hh
    have hm := mr_w j.1 f.2.1
    obtain ⟨a1, a2, a3, a4⟩ := hf i hi
    refine vM_held_25 rfl (mr33 hm) (mr32 hm) (mr31 hm) (mr30 hm) ⟨fun _ => vin hi (by decide), fun _ => vin hi (by decide), fun _ => vin hi (by decide), fun _ => vin hi (by decide), ?_⟩
    rw [ncl (by omega), a1, a2, a3, a4]
    exact hh
end GM4
end MG12
section MG13
/-! ===== the reference at any state: more queries ===== -/
def csb (H B : Nat → Int32) (w : Int32) (c : Nat) : Bool := if w = 0 then decide (H c = 1) else if w = 1 then decide (H c = 0) else if w = 2 then decide (H c = -4) else decide (B c = w - 10)
def csv (H B : Nat → Int32) (w : Int32) : Nat → Int64
  | 0 => 0
  | c + 1 => csv H B w c ||| (if csb H B w c = true then ((1 : Int64) <<< ((nI c).toInt64 &&& 63)) else 0)
section GM5
variable {M : Mm}
def mCases (M : Mm) (W : Nat) (w : Int32) : Int64 := if isK w = true then csv (hev (EO M W) W) (byv (EO M W) W) w 64 else 0
theorem tM_cases {W : Nat} {w : Int32} {K : Int64 → Mm → Prop} (j : JW M W) (hd : HD M) (h : ∀ N, AF M N → K (mCases M W w) N) : CJ mM_cases [.ref 6027, .int w] M K := by
  refine call_of rfl (Nat.le_of_ble_eq_true rfl) rfl (vM_cases_0 rfl (sM_areAsked (fun q => vM_cases_5 rfl ⟨fun q => absurd rfl q, fun _ => ?_⟩) (fun q => vM_cases_5 rfl ⟨fun _ => tM_findAll j hd (fun N f hf hv => vM_cases_14 ?_), fun q => absurd q (by decide)⟩)))
  · have hh := h M (af_rf M); rwa [mCases, q, if_neg (by decide)] at hh
  · have h2 := h N f
    rw [mCases, q, if_pos rfl] at h2
    have hm := mr_w j.1 f.2.1
    have key := lp 64 (P := fun c => X mM_cases 19 [(0, .ref 6027), (1, .int w), (2, .long (csv (hev (EO M W) W) (byv (EO M W) W) w c)), (4, .int (nI c))] [] N (mC mM_cases, mS mM_cases) (QJ K)) (fun c hc ih => ?_) ?_
    · exact key
    · obtain ⟨a1, a2, a3, a4⟩ := hf c hc
      have nn : (nI c).toNatClampNeg = c := ncl (by omega)
      have go : ∀ x : Int32, x = (if csb (hev (EO M W) W) (byv (EO M W) W) w c = true then 1 else 0) → X mM_cases 116 [(0, .ref 6027), (1, .int w), (2, .long (csv (hev (EO M W) W) (byv (EO M W) W) w c)), (4, .int (nI c))] [.int x] N (mC mM_cases, mS mM_cases) (QJ K) := by
        intro x hx
        refine vM_cases_116 ?_
        rw [csv] at ih
        rw [nI_s]
        by_cases l : csb (hev (EO M W) W) (byv (EO M W) W) w c = true
        · rw [if_pos l] at hx ih
          subst hx
          rw [if_neg (by decide)]; exact ih
        · rw [if_neg l] at hx ih
          subst hx
          rw [if_pos rfl]; exact ih
      refine vM_cases_19 rfl (mr31 hm) (mr30 hm) ⟨fun _ => vin hc (by decide), fun _ => vin hc (by decide), fun _ => vin hc (by decide), fun _ => vin hc (by decide), fun q => absurd q (nge rfl (by decide) hc), fun q => go 0 ?_, fun q => go 1 ?_⟩ <;> rw [nn, a3, a4] at q
      · rcases q with q | q | q | q
        · rw [csb, if_neg q.2.1, if_neg q.2.2.1, if_neg q.2.2.2.1, decide_eq_false q.2.2.2.2, if_neg (by decide)]
        · rw [csb, if_neg q.2.1, if_neg q.2.2.1, if_pos q.2.2.2.1, decide_eq_false q.2.2.2.2, if_neg (by decide)]
        · rw [csb, if_neg q.2.1, if_pos q.2.2.1, decide_eq_false q.2.2.2, if_neg (by decide)]
        · rw [csb, if_pos q.2.1, decide_eq_false q.2.2, if_neg (by decide)]
      · rcases q with q | q | q | q
        · rw [csb, if_neg q.2.1, if_neg q.2.2.1, if_neg q.2.2.2.1, decide_eq_true q.2.2.2.2, if_pos rfl]
        · rw [csb, if_neg q.2.1, if_neg q.2.2.1, if_pos q.2.2.2.1, decide_eq_true q.2.2.2.2, if_pos rfl]
        · rw [csb, if_neg q.2.1, if_pos q.2.2.1, decide_eq_true q.2.2.2, if_pos rfl]
        · rw [csb, if_pos q.2.1, decide_eq_true q.2.2, if_pos rfl]
    · refine vM_cases_19 rfl (mr31 hm) (mr30 hm) ⟨fun q => absurd (nself rfl) q.1, fun q => absurd (nself rfl) q.1, fun q => absurd (nself rfl) q.1, fun q => absurd (nself rfl) q.1, fun _ => h2, fun q => ?_, fun q => ?_⟩
      · rcases q with q | q | q | q <;> exact absurd (nself rfl) q.1
      · rcases q with q | q | q | q <;> exact absurd (nself rfl) q.1
def mMany (M : Mm) (W : Nat) (w : Int32) : Int32 := if isK w = true then mo (mCases M W w) 64 else -1
theorem tM_many {W : Nat} {w : Int32} {K : Int32 → Mm → Prop} (j : JW M W) (hd : HD M) (h : ∀ N, AF M N → K (mMany M W w) N) : CI mM_many [.ref 6027, .int w] M K := by
  refine call_of rfl (Nat.le_of_ble_eq_true rfl) rfl (vM_many_0 rfl (sM_areAsked (fun q => vM_many_5 rfl ⟨fun _ => ?_, fun q => absurd rfl q⟩) (fun q => vM_many_5 rfl ⟨fun q => absurd q (by decide), fun _ => tM_cases j hd (fun N f => vM_many_13 (sM_manyOf (vM_many_16 ?_)))⟩)))
  · have hh := h M (af_rf M); rwa [mMany, q, if_neg (by decide)] at hh
  · have hh := h N f; rwa [mMany, q, if_pos rfl] at hh
def mReckon (M : Mm) (W : Nat) (c b yy n a : Int32) : Int32 := if isC c = true then (if b = byv (EO M W) W c.toNatClampNeg then (if yy = sb (gl (EO M W)) 7003 c.toNatClampNeg 8 then (if n = sb (gl (EO M W)) 7067 c.toNatClampNeg 8 then (if a = hev (EO M W) W c.toNatClampNeg then 0 else 4) else 3) else 2) else 1) else -1
theorem tM_reckon {W : Nat} {c b yy n a : Int32} {K : Int32 → Mm → Prop} (j : JW M W) (hd : HD M) (h : ∀ N, AF M N → K (mReckon M W c b yy n a) N) : CI mM_reckon [.ref 6027, .int c, .int b, .int yy, .int n, .int a] M K := by
  refine call_of rfl (Nat.le_of_ble_eq_true rfl) rfl (vM_reckon_0 (sM_isCase (fun q => vM_reckon_4 rfl ⟨fun q => absurd rfl q, fun _ => ?_⟩) (fun i hi e => vM_reckon_4 rfl ⟨fun _ => tM_findAll j hd (fun N f hf hv => ?_), fun q => absurd q (by decide)⟩)))
  · have hh := h M (af_rf M); rwa [mReckon, q, if_neg (by decide)] at hh
  · subst e
    have h2 := h N f
    rw [mReckon, yC hi, if_pos rfl, ncl (by omega)] at h2
    have hm := mr_w j.1 f.2.1
    obtain ⟨a1, a2, a3, a4⟩ := hf i hi
    refine vM_reckon_13 rfl (mr31 hm) (mr32 hm) (mr33 hm) (mr30 hm) ⟨vin hi (by decide), fun _ => vin hi (by decide), fun _ => vin hi (by decide), fun _ => vin hi (by decide), ?_⟩
    rw [ncl (by omega), a1, a2, a3, a4]; exact h2
/-- the widest so far, its number -/
def wdv (Y N : Nat → Int32) (c : Nat) : Int32 := ((100 * (if N c ≤ Y c then N c else Y c)) + Y c) + N c
def wds (Y N : Nat → Int32) : Nat → Int32 × Int32
  | 0 => (-4, 0)
  | c + 1 => (if wdv Y N c ≤ (wds Y N c).2 then (wds Y N c).1 else nI c, if wdv Y N c ≤ (wds Y N c).2 then (wds Y N c).2 else wdv Y N c)
def ysE (M : Mm) (W c : Nat) : Int32 := sb (gl (EO M W)) 7003 c 8
def nsE (M : Mm) (W c : Nat) : Int32 := sb (gl (EO M W)) 7067 c 8
def mWidest (M : Mm) (W : Nat) (w : Int32) : Int32 := if isE w = true then (if (wds (ysE M W) (nsE M W) 64).1 = -4 then -4 else if w = 0 then (wds (ysE M W) (nsE M W) 64).1 else (wds (ysE M W) (nsE M W) 64).2 / 100) else -1
theorem tM_widest {W : Nat} {w : Int32} {K : Int32 → Mm → Prop} (j : JW M W) (hd : HD M) (h : ∀ N, AF M N → K (mWidest M W w) N) : CI mM_widest [.ref 6027, .int w] M K := by
  refine call_of rfl (Nat.le_of_ble_eq_true rfl) rfl (vM_widest_0 (sM_inE (fun q => vM_widest_7 rfl ⟨fun q => absurd rfl q, fun _ => ?_⟩) (fun q => vM_widest_7 rfl ⟨fun _ => tM_findAll j hd (fun N f hf hv => vM_widest_16 ?_), fun q => absurd q (by decide)⟩)))
  · have hh := h M (af_rf M); rwa [mWidest, q, if_neg (by decide)] at hh
  · have h2 := h N f
    rw [mWidest, yE q, if_pos rfl] at h2
    have hm := mr_w j.1 f.2.1
    have key := lp 64 (P := fun c => X mM_widest 24 [(0, .ref 6027), (1, .int w), (2, .int (wds (ysE M W) (nsE M W) c).1), (3, .int (wds (ysE M W) (nsE M W) c).2), (4, .int (nI c))] [] N (mC mM_widest, mS mM_widest) (QI K)) (fun c hc ih => ?_) ?_
    · exact key
    · obtain ⟨a1, a2, a3, a4⟩ := hf c hc
      have b1 : gi N 7310 c = ysE M W c := a1
      have b2 : gi N 7374 c = nsE M W c := a2
      have nn : (nI c).toNatClampNeg = c := ncl (by omega)
      have go : ∀ x, x = (if nsE M W c ≤ ysE M W c then nsE M W c else ysE M W c) → X mM_widest 65 [(0, .ref 6027), (1, .int w), (2, .int (wds (ysE M W) (nsE M W) c).1), (3, .int (wds (ysE M W) (nsE M W) c).2), (4, .int (nI c))] [.int x] N (mC mM_widest, mS mM_widest) (QI K) := by
        rintro x rfl
        refine vM_widest_65 rfl (mr32 hm) (mr33 hm) ⟨vin hc (by decide), vin hc (by decide), ?_⟩
        rw [nn, b1, b2, nI_s]; exact ih
      have nq := nge (c := 64) (i := c) (n := 64) rfl (by decide) hc
      refine vM_widest_24 rfl (mr32 hm) (mr33 hm) ⟨fun _ => vin hc (by decide), fun _ => vin hc (by decide), fun _ => vin hc (by decide), fun _ => vin hc (by decide), fun q => absurd q.1 nq, fun q => absurd q.1 nq, fun q => absurd q.1 nq, fun q => ?_, fun q => ?_⟩ <;> rw [nn, b1, b2] at q
      · rw [nn, b2]; exact go _ (by rw [if_pos q.2])
      · rw [nn, b1]; exact go _ (by rw [if_neg q.2])
    · refine vM_widest_24 rfl (mr32 hm) (mr33 hm) ⟨fun q => absurd (nself rfl) q, fun q => absurd (nself rfl) q, fun q => absurd (nself rfl) q.1, fun q => absurd (nself rfl) q.1, fun q => ?_, fun q => ?_, fun q => ?_, fun q => absurd (nself rfl) q.1, fun q => absurd (nself rfl) q.1⟩
      · rwa [if_neg q.2.1, if_neg q.2.2] at h2
      · rwa [if_neg q.2.1, if_pos q.2.2] at h2
      · rwa [if_pos q.2] at h2
/-- the nearest so far -/
def nrs (H : Nat → Int32) (c : Nat) (a : Int32) : Nat → Int32
  | 0 => -4
  | o + 1 => if H o = a ∧ (nrs H c a o = -4 ∨ ¬ co (nrs H c a o ^^^ nI c) 32 ≤ co (nI o ^^^ nI c) 32) then nI o else nrs H c a o
def mNear (M : Mm) (W : Nat) (c a w : Int32) : Int32 := if (isC c && (isE a && isE w)) = true then (if nrs (hev (EO M W) W) c.toNatClampNeg a 64 = -4 then -4 else if w = 0 then nrs (hev (EO M W) W) c.toNatClampNeg a 64 else co (nrs (hev (EO M W) W) c.toNatClampNeg a 64 ^^^ c) 32) else -1
theorem tM_near {W : Nat} {c a w : Int32} {K : Int32 → Mm → Prop} (j : JW M W) (hd : HD M) (h : ∀ N, AF M N → K (mNear M W c a w) N) : CI mM_near [.ref 6027, .int c, .int a, .int w] M K := by
  refine call_of rfl (Nat.le_of_ble_eq_true rfl) rfl (vM_near_0 (sM_isCase (fun q => vM_near_4 ⟨fun _ => ?_, fun q => absurd rfl q⟩) (fun i hi e => vM_near_4 ⟨fun q => absurd q (by decide), fun _ => sM_inE (fun q => vM_near_14 ⟨fun _ => ?_, fun q => absurd rfl q⟩) (fun qa => vM_near_14 ⟨fun q => absurd q (by decide), fun _ => sM_inE (fun q => vM_near_24 rfl ⟨fun q => absurd rfl q, fun _ => ?_⟩) (fun qw => vM_near_24 rfl ⟨fun _ => tM_findAll j hd (fun N f hf hv => vM_near_33 ?_), fun q => absurd q (by decide)⟩)⟩)⟩)))
  · have hh := h M (af_rf M); rwa [mNear, q, Bool.false_and, if_neg (by decide)] at hh
  · have hh := h M (af_rf M); rwa [mNear, q, Bool.false_and, Bool.and_false, if_neg (by decide)] at hh
  · have hh := h M (af_rf M); rwa [mNear, q, Bool.and_false, Bool.and_false, if_neg (by decide)] at hh
  · subst e
    have h2 := h N f
    rw [mNear, yC hi, yE qa, yE qw, if_pos (by decide), ncl (by omega)] at h2
    have hm := mr_w j.1 f.2.1
    have key := lp 64 (P := fun o => X mM_near 40 [(0, .ref 6027), (1, .int (nI i)), (2, .int a), (3, .int w), (4, .int (nrs (hev (EO M W) W) i a o)), (5, .int (nI o))] [] N (mC mM_near, mS mM_near) (QI K)) (fun o hc ih => ?_) ?_
    · exact key
    · obtain ⟨a1, a2, a3, a4⟩ := hf o hc
      have nn : (nI o).toNatClampNeg = o := ncl (by omega)
      have nq := nge (c := 64) (i := o) (n := 64) rfl (by decide) hc
      rw [nrs] at ih
      have no : ¬ (hev (EO M W) W o = a ∧ (nrs (hev (EO M W) W) i a o = -4 ∨ ¬ co (nrs (hev (EO M W) W) i a o ^^^ nI i) 32 ≤ co (nI o ^^^ nI i) 32)) → X mM_near 86 [(0, .ref 6027), (1, .int (nI i)), (2, .int a), (3, .int w), (4, .int (nrs (hev (EO M W) W) i a o)), (5, .int (nI o))] [] N (mC mM_near, mS mM_near) (QI K) := fun p => vM_near_86 (vM_near_87 (by rw [if_pos rfl, nI_s]; rw [if_neg p] at ih; exact ih))
      have yes : (hev (EO M W) W o = a ∧ (nrs (hev (EO M W) W) i a o = -4 ∨ ¬ co (nrs (hev (EO M W) W) i a o ^^^ nI i) 32 ≤ co (nI o ^^^ nI i) 32)) → X mM_near 82 [(0, .ref 6027), (1, .int (nI i)), (2, .int a), (3, .int w), (4, .int (nrs (hev (EO M W) W) i a o)), (5, .int (nI o))] [] N (mC mM_near, mS mM_near) (QI K) := fun p => vM_near_82 (vM_near_87 (by rw [if_neg (by decide), nI_s]; rw [if_pos p] at ih; exact ih))
      refine vM_near_40 rfl (mr30 hm) ⟨fun _ => vin hc (by decide), fun q => absurd q.1 nq, fun q => absurd q.1 nq, fun q => absurd q.1 nq, fun q => no ?_, fun q => yes ?_, fun q => sM_countOf (vM_near_72 (sM_countOf (vM_near_79 ⟨fun p => no ?_, fun p => yes ?_⟩)))⟩ <;> rw [nn, a4] at q
      · exact fun r => q.2 r.1
      · exact ⟨q.2.1, Or.inl q.2.2⟩
      · exact fun r => r.2.elim q.2.2 (fun r => r p)
      · exact ⟨q.2.1, Or.inr p⟩
    · refine vM_near_40 rfl (mr30 hm) ⟨fun q => absurd (nself rfl) q, fun q => sM_countOf (vM_near_137 ?_), fun q => ?_, fun q => ?_, fun q => absurd (nself rfl) q.1, fun q => absurd (nself rfl) q.1, fun q => absurd (nself rfl) q.1⟩
      · rwa [if_neg q.2.1, if_neg q.2.2] at h2
      · rwa [if_neg q.2.1, if_pos q.2.2] at h2
      · rwa [if_pos q.2] at h2
/-- what is asked of the words alone -/
theorem tM_word {W : Nat} {v w : Int32} {K : Int32 → Mm → Prop} (j : JW M W) (h : ∀ r, K r M) : CI mM_word [.ref 6027, .int v, .int w] M K := by
  refine call_of rfl (Nat.le_of_ble_eq_true rfl) rfl (vM_word_0 rfl (sM_isWord j.2.1 j.2.2.1 (fun q => vM_word_5 ⟨fun _ => h _, fun q => absurd rfl q⟩) (fun i hi e => vM_word_5 ⟨fun q => absurd q (by decide), fun _ => sM_in (l := 0) (m := 8) rfl rfl (fun q => vM_word_17 rfl ⟨fun q => absurd rfl q.1, fun q => absurd rfl q.1, fun _ => h _⟩) (fun q1 q2 => vM_word_17 rfl ⟨fun q => ?_, fun q => ?_, fun q => absurd q (by decide)⟩)⟩)))
  · subst e
    obtain ⟨k, hk, rfl⟩ := rngL (c := 8) (n := 8) rfl (by decide) q1 q2
    exact sM_of j.1 (by have := j.2.2.1; omega) rfl (by omega) (vM_word_42 (h _))
  · subst e
    exact sM_weightOf j.1 (by have := j.2.2.1; omega) j.2.2.1 (j.2.2.2 i hi).2 (vM_word_33 (h _))
def mSays (M : Mm) (W : Nat) (v c : Int32) : Int32 := if (decide (¬ v < 0 ∧ ¬ nI W ≤ v) && isC c) = true then td (gl M 6874 v.toNatClampNeg) (gl M 6938 v.toNatClampNeg) c else -1
theorem yW {W i : Nat} (hW : W ≤ 25) (hi : i < W) : decide (¬ nI i < 0 ∧ ¬ nI W ≤ nI i) = true := decide_eq_true ⟨n0 i (by omega), nge rfl (by omega) hi⟩
theorem nW {W : Nat} {v : Int32} (q : v < 0 ∨ nI W ≤ v) : decide (¬ v < 0 ∧ ¬ nI W ≤ v) = false := decide_eq_false (fun r => q.elim r.1 r.2)
theorem tM_says {W : Nat} {v c : Int32} {K : Int32 → Mm → Prop} (j : JW M W) (h : K (mSays M W v c) M) : CI mM_says [.ref 6027, .int v, .int c] M K := by
  have hW := j.2.2.1
  refine call_of rfl (Nat.le_of_ble_eq_true rfl) rfl (vM_says_0 rfl (sM_isWord j.2.1 j.2.2.1 (fun q => vM_says_5 ⟨fun _ => ?_, fun q => absurd rfl q⟩) (fun i hi e => vM_says_5 ⟨fun q => absurd q (by decide), fun _ => sM_isCase (fun q => vM_says_12 rfl (mr25 j.1) (mr26 j.1) ⟨fun q => absurd rfl q, fun q => absurd rfl q, fun _ => ?_, fun q => absurd rfl q⟩) (fun k hk e2 => vM_says_12 rfl (mr25 j.1) (mr26 j.1) ⟨fun _ => ?_, fun _ => ?_, fun q => absurd q (by decide), fun _ => sM_told (vM_says_31 ?_)⟩)⟩)))
  · rwa [mSays, nW q, Bool.false_and, if_neg (by decide)] at h
  · rwa [mSays, q, Bool.and_false, if_neg (by decide)] at h
  · rw [e]; exact vin (by omega) (by decide)
  · rw [e]; exact vin (by omega) (by decide)
  · subst e e2
    rwa [mSays, yW hW hi, yC hk, if_pos (by decide)] at h
def cnw (M : Mm) : Nat → Int32
  | 0 => 0
  | i + 1 => cnw M i ||| (if cw M i = 0 then 0 else ((1 : Int32) <<< (nI i &&& 31)))
def mWords (M : Mm) (W : Nat) (w : Int32) : Int32 := if w = 0 then gi M 6027 23 else if w = 1 then gi M 6027 24 else if w = 2 then cnw M W else -1
theorem tM_words {W : Nat} {w : Int32} {K : Int32 → Mm → Prop} (j : JW M W) (h : K (mWords M W w) M) : CI mM_words [.ref 6027, .int w] M K := by
  obtain ⟨hm, hW, hW2, hw⟩ := j
  refine call_of rfl (Nat.le_of_ble_eq_true rfl) rfl (vM_words_0 (inW (fun q => vM_words_9 ⟨fun q => absurd rfl q, fun _ => ?_⟩) (fun q => vM_words_9 ⟨fun _ => ?_, fun q => absurd q (by decide)⟩)))
  · rwa [mWords, if_neg q.1, if_neg q.2.1, if_neg q.2.2] at h
  · have key := lp W (P := fun i => X mM_words 18 [(0, .ref 6027), (1, .int w), (2, .int (cnw M i)), (3, .int (nI i))] [] M (mC mM_words, mS mM_words) (QI K)) (fun i hi ih => ?_) ?_
    · exact key
    · obtain ⟨⟨b, hb, eb⟩, hc⟩ := hw i hi
      have nW : ¬ gi M 6027 0 ≤ nI i := by rw [hW]; exact nge rfl (by omega) hi
      refine vM_words_18 rfl ⟨fun q => absurd q.1 nW, fun q => absurd q.1 nW, fun q => absurd q.1 nW, fun _ => sM_counts hm (by omega) eb hb (vM_words_32 ?_)⟩
      rw [nI_s]; exact ih
    · refine vM_words_18 rfl ⟨fun p => ?_, fun p => ?_, fun p => ?_, fun p => absurd (by rw [hW]; exact nself rfl) p⟩
      · rwa [mWords, if_neg p.2.1, if_neg p.2.2, if_pos ((q.resolve_left p.2.1).resolve_left p.2.2)] at h
      · rwa [mWords, if_neg p.2.1, if_pos p.2.2] at h
      · rwa [mWords, if_pos p.2] at h
end GM5
end MG13
section MG14
/-! ===== the reference at any state: words found ===== -/
/-- what a query may change -/
def QF (W : Nat) (M N : Mm) : Prop := gr N = gr M ∧ (∀ a, ¬ (a = 7310 ∨ a = 7374 ∨ a = 7246 ∨ a = 7182 ∨ a = 7438 ∨ a = 7502 ∨ a = 7582 ∨ a = 6101 ∨ a = 6027) → gi N a = gi M a) ∧ (∀ k, k < 10 * W → gi N 6101 k = gi M 6101 k) ∧ (∀ k, ¬ (k = 35 ∨ k = 36 ∨ k = 39) → gi N 6027 k = gi M 6027 k) ∧ ∀ a k, ¬ (a = 7131 ∨ a = 7003 ∨ a = 7067) → ¬ ((a = 6874 ∨ a = 6938) ∧ k = W) → gl N a k = gl M a k
section QFS
variable {M N O : Mm} {W : Nat}
theorem qf_rf (W : Nat) (M : Mm) : QF W M M := ⟨rfl, fun _ _ => rfl, fun _ _ => rfl, fun _ _ => rfl, fun _ _ _ _ => rfl⟩
theorem qf_tr (f : QF W M N) (g : QF W N O) : QF W M O := ⟨g.1.trans f.1, fun a h => (g.2.1 a h).trans (f.2.1 a h), fun k h => (g.2.2.1 k h).trans (f.2.2.1 k h), fun k h => (g.2.2.2.1 k h).trans (f.2.2.2.1 k h), fun a k h i => (g.2.2.2.2 a k h i).trans (f.2.2.2.2 a k h i)⟩
theorem qf_sm (f : QF W M N) : SM W M N := ⟨f.1, f.2.2.1, f.2.1 _ (by decide), f.2.1 _ (by decide), f.2.2.2.1 _ (by decide), f.2.2.2.1 _ (by decide), f.2.2.2.1 _ (by decide), fun k hk => f.2.2.2.2 _ _ (by decide) (fun q => by omega), fun k hk => f.2.2.2.2 _ _ (by decide) (fun q => by omega)⟩
theorem qf_af (f : AF M N) : QF W M N := by
  have k : ∀ a, a ≠ 7310 → a ≠ 7374 → a ≠ 7246 → a ≠ 7182 → gi N a = gi M a := f.1
  refine ⟨f.2.1, fun a h => k a (fun e => h (by omega)) (fun e => h (by omega)) (fun e => h (by omega)) (fun e => h (by omega)), fun i _ => ?_, fun i _ => ?_, fun a i h _ => f.2.2 a i h⟩
  · rw [k 6101 (by decide) (by decide) (by decide) (by decide)]
  · rw [k 6027 (by decide) (by decide) (by decide) (by decide)]
theorem qf_row {n : Nat} {g : Nat → Int32} : QF W M (rwm M 7438 n g) := by
  refine ⟨rfl, fun a h => ?_, fun k _ => ?_, fun k _ => ?_, fun _ _ _ _ => rfl⟩
  · funext k; exact rwmR _ _ _ _ _ _ (fun e => h (by omega))
  · exact rwmR _ _ _ _ _ _ (by decide)
  · exact rwmR _ _ _ _ _ _ (by decide)
theorem qf_sl {a k : Nat} {v : Int64} (h : a = 7131 ∨ a = 7003 ∨ a = 7067) : QF W M (sl M a k v) :=
  ⟨rfl, fun _ _ => rfl, fun _ _ => rfl, fun _ _ => rfl, fun b i n _ => by rw [gl_sl, if_neg (fun e => n (by rw [e.1]; exact h))]⟩
theorem qf_ch (h1 : ∀ a, a ≠ 6027 → gi N a = gi M a) (h2 : ∀ j, j ≠ 35 → j ≠ 36 → gi N 6027 j = gi M 6027 j) (h3 : gl N = gl M) (h4 : gr N = gr M) : QF W M N :=
  ⟨h4, fun a h => h1 a (fun e => h (by omega)), fun k _ => by rw [h1 6101 (by decide)], fun k h => h2 k (fun e => h (by omega)) (fun e => h (by omega)), fun _ _ _ _ => by rw [h3]⟩
end QFS
def cwi (m n : Int32) : Nat → Int64
  | 0 => 0
  | c + 1 => cwi m n c ||| (if (nI c &&& m) = m ∧ (nI c &&& n) = 0 then ((1 : Int64) <<< ((nI c).toInt64 &&& 63)) else 0)
theorem sM_casesWith {M : Mm} {m n : Int32} {K : Int64 → Mm → Prop} (h : K (cwi m n 64) M) : CJ mM_casesWith [.ref 6027, .int m, .int n] M K := by
  refine call_of rfl (Nat.le_of_ble_eq_true rfl) rfl (x_loc [1, 2] rfl (vM_casesWith_0 ?_))
  have key := lp 64 (P := fun c => X mM_casesWith 5 [(1, .int m), (2, .int n), (3, .long (cwi m n c)), (5, .int (nI c))] [] M (mC mM_casesWith, mS mM_casesWith) (QJ K)) (fun c hc ih => ?_) ?_
  · exact key
  · have nq := nge (c := 64) (i := c) (n := 64) rfl (by decide) hc
    rw [cwi] at ih
    refine vM_casesWith_5 ⟨fun q => absurd q nq, fun q => vM_casesWith_36 ?_, fun q => vM_casesWith_36 ?_⟩
    · have q1 : ¬ ((nI c &&& m) = m ∧ (nI c &&& n) = 0) := by
        rcases q with q | q
        · exact fun p => q.2 p.1
        · exact fun p => q.2.2 p.2
      rw [if_neg q1] at ih
      rw [nI_s]; exact ih
    · rw [if_pos q.2] at ih
      rw [nI_s]; exact ih
  · refine vM_casesWith_5 ⟨fun _ => h, fun q => ?_, fun q => absurd (nself rfl) q.1⟩
    rcases q with q | q <;> exact absurd (nself rfl) q.1
/-- what a word follows -/
def fos (M : Mm) (w : Nat) : Nat → Int32
  | 0 => 0
  | v + 1 => fos M w v ||| (if wd M v 1 = wd M w 1 ∧ ¬ wd M v 0 = 3 then ((1 : Int32) <<< (nI v &&& 31)) else 0)
def fow (M : Mm) (w : Nat) : Int32 := if wd M w 0 = 4 then fos M w w else if wd M w 6 = -4 then 0 else (1 : Int32) <<< (wd M w 6 &&& 31)
theorem sM_followed {M : Mm} {w : Nat} {K : Int32 → Mm → Prop} (hm : MR M) (hw : w < 25) (h : K (fow M w) M) : CI mM_followed [.ref 6027, .int (nI w)] M K := by
  refine call_of rfl (Nat.le_of_ble_eq_true rfl) rfl (vM_followed_0 rfl (sM_of (k := 0) hm hw rfl (by decide) (vM_followed_6 rfl ⟨fun q => ?_, fun q => sM_of (k := 6) hm hw rfl (by decide) (vM_followed_17 rfl ⟨fun p => sM_of (k := 6) hm hw rfl (by decide) (vM_followed_34 ?_), fun p => ?_⟩)⟩)))
  · rw [fow, if_pos q] at h
    have key := lp w (P := fun v => X mM_followed 40 [(0, .ref 6027), (1, .int (nI w)), (2, .int (fos M w v)), (3, .int (nI v))] [] M (mC mM_followed, mS mM_followed) (QI K)) (fun v hv ih => ?_) ?_
    · exact key
    · have hv2 : v < 25 := by omega
      rw [fos] at ih
      refine vM_followed_40 rfl ⟨fun p => absurd p (nge rfl (by omega) hv), fun _ => sM_of (k := 1) hm hv2 rfl (by decide) (vM_followed_52 rfl (sM_of (k := 1) hm hw rfl (by decide) (vM_followed_58 rfl ⟨fun p => vM_followed_77 (vM_followed_78 ?_), fun p => sM_of (k := 0) hm hv2 rfl (by decide) (vM_followed_67 ⟨fun p2 => vM_followed_77 (vM_followed_78 ?_), fun p2 => vM_followed_78 ?_⟩)⟩)))⟩
      · rw [if_neg (fun n => p n.1)] at ih; rw [nI_s]; exact ih
      · rw [if_neg (fun n => n.2 p2)] at ih; rw [nI_s]; exact ih
      · rw [if_pos ⟨p, p2⟩] at ih; rw [nI_s]; exact ih
    · exact vM_followed_40 rfl ⟨fun _ => h, fun p => absurd (Int32.le_refl _) p⟩
  · rwa [fow, if_neg q, if_neg p] at h
  · rwa [fow, if_neg q, if_pos p] at h
/-- yes and no of what a like follows -/
def swb (x : Int64) (m : Int32) : Int32 := if ((x >>> (m.toInt64 &&& 63)) &&& 1) = 1 then 1 else 0
def swl (M : Mm) (w : Nat) : Nat → Int32 × Int32
  | 0 => (0, 0)
  | v + 1 => if ((fow M w >>> (nI v &&& 31)) &&& 1) = 1 then (if (swl M w v).1 = 0 then swb (gl M 6874 v) (wd M w 3) else 1, if (swl M w v).2 = 0 then swb (gl M 6938 v) (wd M w 3) else 1) else swl M w v
def swv (M : Mm) (w : Nat) : Int64 × Int64 := if wd M w 0 = 0 ∨ wd M w 0 = 5 then (if wd M w 5 = 1 then cwi (wd M w 3) (wd M w 4) 64 else 0, if wd M w 5 = 1 then 0 else cwi (wd M w 3) (wd M w 4) 64) else
  if wd M w 0 = 4 then (if ¬ (swl M w w).1 = 0 ∧ (swl M w w).2 = 0 then cwi (wd M w 3) 0 64 else 0, if ¬ (swl M w w).2 = 0 ∧ (swl M w w).1 = 0 then cwi (wd M w 3) 0 64 else 0) else
  (if wd M w 0 = 2 then gl M 6938 (wd M w 6).toNatClampNeg else gl M 6874 (wd M w 6).toNatClampNeg, if wd M w 0 = 2 then gl M 6874 (wd M w 6).toNatClampNeg else gl M 6938 (wd M w 6).toNatClampNeg)
theorem sM_sayWord {M : Mm} {w : Nat} {K : Mm → Prop} (hm : MR M) (hw : w < 25) (hf : ¬ wd M w 0 = 0 → ¬ wd M w 0 = 4 → ¬ wd M w 0 = 5 → ∃ f, f < 25 ∧ f ≠ w ∧ wd M w 6 = nI f) (h : K (sl (sl M 6874 w (swv M w).1) 6938 w (swv M w).2)) : CV mM_sayWord [.ref 6027, .int (nI w)] M K := by
  have nn : (nI w).toNatClampNeg = w := ncl (by omega)
  refine call_of rfl (Nat.le_of_ble_eq_true rfl) rfl (vM_sayWord_0 rfl (sM_of (k := 0) hm hw rfl (by decide) (vM_sayWord_6 rfl ⟨fun q => ?_, fun q => ?_, fun q => ?_⟩)))
  · have q' : wd M w 0 = 0 ∨ wd M w 0 = 5 := q.imp id (fun q => q.2)
    rw [swv, if_pos q'] at h
    refine sM_of (k := 3) hm hw rfl (by decide) (vM_sayWord_23 rfl (sM_of (k := 4) hm hw rfl (by decide) (vM_sayWord_29 rfl (sM_casesWith (vM_sayWord_32 rfl (mr25 hm) (sM_of (k := 5) hm hw rfl (by decide) (vM_sayWord_44 rfl rfl (mr26 hm) ⟨vin hw (by decide), ?_⟩)))))))
    rw [nn]
    refine sM_of (k := 5) (mr_w hm rfl) hw rfl (by decide) (vM_sayWord_65 rfl ⟨vin hw (by decide), ?_⟩)
    rw [nn]; exact h
  · obtain ⟨f, hf1, hf2, e⟩ := hf q.1 q.2.2 q.2.1
    rw [swv, if_neg (fun n => n.elim q.1 q.2.1), if_neg q.2.2, e, ncl (by omega)] at h
    refine sM_of (k := 6) hm hw rfl (by decide) ?_
    rw [e]
    refine vM_sayWord_246 rfl (mr25 hm) (mr26 hm) ⟨fun _ => vin hf1 (by decide), fun _ => vin hf1 (by decide), vin hw (by decide), fun _ => vin hf1 (by decide), fun _ => vin hf1 (by decide), vin hw (by decide), ?_⟩
    have g1 : ∀ x, gl (sl M 6874 w x) 6874 f = gl M 6874 f := fun x => by rw [gl_sl, if_neg (fun n => hf2 n.2)]
    have g2 : ∀ x, gl (sl M 6874 w x) 6938 f = gl M 6938 f := fun x => by rw [gl_sl, if_neg (fun n => absurd n.1 (by decide))]
    rw [nn, ncl (show f < 2 ^ 31 by omega), g1, g2]
    exact h
  · rw [swv, if_neg (fun n => n.elim q.1 q.2.1), if_pos q.2.2] at h
    have key := lp w (P := fun v => X mM_sayWord 91 [(0, .ref 6027), (1, .int (nI w)), (3, .int (swl M w v).1), (4, .int (swl M w v).2), (5, .int (nI v))] [] M (mC mM_sayWord, mS mM_sayWord) (QV K)) (fun v hv ih => ?_) ?_
    · exact key
    · have hv2 : v < 25 := by omega
      have nv : (nI v).toNatClampNeg = v := ncl (by omega)
      rw [swl] at ih
      have b141 : ((fow M w >>> (nI v &&& 31)) &&& 1) = 1 → ∀ x, x = (if (swl M w v).1 = 0 then swb (gl M 6874 v) (wd M w 3) else 1) → X mM_sayWord 141 [(0, .ref 6027), (1, .int (nI w)), (4, .int (swl M w v).2), (5, .int (nI v))] [.int x] M (mC mM_sayWord, mS mM_sayWord) (QV K) := by
        rintro p x rfl
        rw [if_pos p] at ih
        have b173 : ∀ y, y = (if (swl M w v).2 = 0 then swb (gl M 6938 v) (wd M w 3) else 1) → X mM_sayWord 173 [(0, .ref 6027), (1, .int (nI w)), (3, .int (if (swl M w v).1 = 0 then swb (gl M 6874 v) (wd M w 3) else 1)), (5, .int (nI v))] [.int y] M (mC mM_sayWord, mS mM_sayWord) (QV K) := by
          rintro y rfl
          refine vM_sayWord_173 ?_
          rw [nI_s]; exact ih
        refine vM_sayWord_141 rfl (mr26 hm) ⟨fun _ => vin hv2 (by decide), fun r => vM_sayWord_168 (b173 1 (by rw [if_neg r])), fun r => sM_of (k := 3) hm hw rfl (by decide) (vM_sayWord_160 ⟨fun t => b173 0 ?_, fun t => vM_sayWord_168 (b173 1 ?_)⟩)⟩
        · rw [nv] at t; rw [if_pos r, swb, if_neg t]
        · rw [nv] at t; rw [if_pos r, swb, if_pos t]
      refine vM_sayWord_91 rfl ⟨fun p => absurd p (nge rfl (by omega) hv), fun _ => sM_followed hm hw (vM_sayWord_102 rfl (mr25 hm) ⟨fun _ => vin hv2 (by decide), fun p => ?_, fun p => vM_sayWord_136 (b141 p.1 1 (by rw [if_neg p.2])), fun p => sM_of (k := 3) hm hw rfl (by decide) (vM_sayWord_128 ⟨fun t => b141 p.1 0 ?_, fun t => vM_sayWord_136 (b141 p.1 1 ?_)⟩)⟩)⟩
      · rw [if_neg p] at ih; rw [nI_s]; exact ih
      · rw [nv] at t; rw [if_pos p.2, swb, if_neg t]
      · rw [nv] at t; rw [if_pos p.2, swb, if_pos t]
    · refine vM_sayWord_91 rfl ⟨fun _ => sM_of (k := 3) hm hw rfl (by decide) (vM_sayWord_188 rfl (sM_casesWith (vM_sayWord_192 rfl (mr25 hm) ⟨fun p => ?_, fun p => ?_⟩))), fun p => absurd (Int32.le_refl _) p⟩
      all_goals refine vM_sayWord_214 rfl rfl (mr26 hm) ⟨vin hw (by decide), fun r => vM_sayWord_235 rfl ⟨vin hw (by decide), ?_⟩, fun r => vM_sayWord_235 rfl ⟨vin hw (by decide), ?_⟩⟩
      all_goals rw [nn]
      · have p' : ¬ (¬ (swl M w w).1 = 0 ∧ (swl M w w).2 = 0) := fun n => p.elim n.1 (fun p => p.2 n.2)
        have r' : ¬ (¬ (swl M w w).2 = 0 ∧ (swl M w w).1 = 0) := fun n => r.elim n.1 (fun r => r.2 n.2)
        rw [if_neg p', if_neg r'] at h; exact h
      · have p' : ¬ (¬ (swl M w w).1 = 0 ∧ (swl M w w).2 = 0) := fun n => p.elim n.1 (fun p => p.2 n.2)
        rw [if_neg p', if_pos r] at h; exact h
      · have r' : ¬ (¬ (swl M w w).2 = 0 ∧ (swl M w w).1 = 0) := fun n => r.elim n.1 (fun r => r.2 n.2)
        rw [if_pos p, if_neg r'] at h; exact h
      · exact absurd p.2 r.1
end MG14
section MG15
/-! ===== the reference at any state: turnsBy, turns, turn, hangs ===== -/
theorem chn_wd {M N : Mm} {B : Nat} (h : ∀ v, v < B → wd N v 6 = wd M v 6) : ∀ n v, v < B → chn M B n v → chn N B n v
  | 0, v, hv, q => by rw [chn, h v hv]; exact q
  | n + 1, v, hv, q => by
    rw [chn, h v hv]
    exact q.imp id (fun ⟨f, hf, e, q⟩ => ⟨f, hf, e, chn_wd h n f hf q⟩)
theorem jw_g {M N : Mm} {W : Nat} (h1 : gi N = gi M) (h2 : gr N = gr M) (j : JW M W) : JW N W := by
  have e : ∀ w k, wd N w k = wd M w k := fun w k => by unfold wd; rw [h1]
  refine ⟨mr_w j.1 h2, by rw [h1]; exact j.2.1, j.2.2.1, fun w hw => ?_⟩
  obtain ⟨⟨b, hb, eb⟩, c⟩ := j.2.2.2 w hw
  refine ⟨⟨b, hb, (e _ _).trans eb⟩, fun u => chn_wd (fun v _ => e v 6) _ _ hw (c ?_)⟩
  unfold uns at u ⊢
  rwa [h1] at u
def TB (M : Mm) (W : Nat) (d a m : Int32) : Mm := si (si (si (si (si (si (si (si M 6101 (10 * W) 0) 6101 (10 * W + 1) d) 6101 (10 * W + 2) 0) 6101 (10 * W + 3) m) 6101 (10 * W + 4) 0) 6101 (10 * W + 5) a) 6101 (10 * W + 6) (-4)) 6101 (10 * W + 7) (-4)
theorem tb_o {M : Mm} {W b k : Nat} {d a m : Int32} (h : b ≠ 6101) : gi (TB M W d a m) b k = gi M b k := by
  unfold TB
  rw [giR _ _ _ _ _ _ h, giR _ _ _ _ _ _ h, giR _ _ _ _ _ _ h, giR _ _ _ _ _ _ h, giR _ _ _ _ _ _ h, giR _ _ _ _ _ _ h, giR _ _ _ _ _ _ h, giR _ _ _ _ _ _ h]
theorem tb_l {M : Mm} {W k : Nat} {d a m : Int32} (h : k < 10 * W) : gi (TB M W d a m) 6101 k = gi M 6101 k := by
  unfold TB
  rw [gi_si, if_neg (fun q => by omega), gi_si, if_neg (fun q => by omega), gi_si, if_neg (fun q => by omega), gi_si, if_neg (fun q => by omega), gi_si, if_neg (fun q => by omega), gi_si, if_neg (fun q => by omega), gi_si, if_neg (fun q => by omega), gi_si, if_neg (fun q => by omega)]
theorem tb_0 {M : Mm} {W : Nat} {d a m : Int32} : wd (TB M W d a m) W 0 = 0 := by
  unfold wd TB
  rw [gi_si, if_neg (fun q => by omega), gi_si, if_neg (fun q => by omega), gi_si, if_neg (fun q => by omega), gi_si, if_neg (fun q => by omega), gi_si, if_neg (fun q => by omega), gi_si, if_neg (fun q => by omega), gi_si, if_neg (fun q => by omega), gi_si, if_pos ⟨rfl, rfl⟩]
theorem tb_2 {M : Mm} {W : Nat} {d a m : Int32} : wd (TB M W d a m) W 2 = 0 := by
  unfold wd TB
  rw [gi_si, if_neg (fun q => by omega), gi_si, if_neg (fun q => by omega), gi_si, if_neg (fun q => by omega), gi_si, if_neg (fun q => by omega), gi_si, if_neg (fun q => by omega), gi_si, if_pos ⟨rfl, rfl⟩]
theorem tb_6 {M : Mm} {W : Nat} {d a m : Int32} : wd (TB M W d a m) W 6 = -4 := by
  unfold wd TB
  rw [gi_si, if_neg (fun q => by omega), gi_si, if_pos ⟨rfl, rfl⟩]
/-- no bit behind the words -/
def UM (M : Mm) (W : Nat) : Prop := gi M 6027 24 &&& (((1 : Int32) <<< (nI W &&& 31)) - 1) = gi M 6027 24
theorem um_qf {M N : Mm} {W : Nat} (f : QF W M N) (h : UM M W) : UM N W := by unfold UM; rw [f.2.2.2.1 24 (by decide)]; exact h
theorem sM_turnsBy {M : Mm} {W d : Nat} {a m : Int32} {K : Int32 → Mm → Prop} (j : JW M W) (hW : W ≤ 24) (hh : HD M) (hu : UM M W) (hd : d < 8) (h : ∀ r N, QF W M N → K r N) : CI mM_turnsBy [.ref 6027, .int (nI d), .int a, .int m] M K := by
  obtain ⟨hm, hW0, hW2, hw⟩ := id j
  refine call_of rfl (Nat.le_of_ble_eq_true rfl) rfl (vM_turnsBy_0 rfl (mr1 hm) ?_)
  have i0 : (10 : Int32) * nI W = nI (10 * W) := by
    have := nI_ix W 0
    rwa [show (nI 0 : Int32) = 0 from rfl, Int32.add_zero, Nat.add_zero] at this
  have i : ∀ k, nI (10 * W) + nI k = nI (10 * W + k) := fun k => by
    show Int32.ofNat _ + Int32.ofNat _ = Int32.ofNat _
    rw [Int32.ofNat_add]
  have i1 : nI (10 * W) + 1 = nI (10 * W + 1) := i 1
  have i2 : nI (10 * W) + 2 = nI (10 * W + 2) := i 2
  have i3 : nI (10 * W) + 3 = nI (10 * W + 3) := i 3
  have i4 : nI (10 * W) + 4 = nI (10 * W + 4) := i 4
  have i5 : nI (10 * W) + 5 = nI (10 * W + 5) := i 5
  have i6 : nI (10 * W) + 6 = nI (10 * W + 6) := i 6
  have i7 : nI (10 * W) + 7 = nI (10 * W + 7) := i 7
  rw [hW0, i0, i1, i2, i3, i4, i5, i6, i7]
  refine ⟨vin (by omega) (by decide), vin (by omega) (by decide), vin (by omega) (by decide), vin (by omega) (by decide), vin (by omega) (by decide), vin (by omega) (by decide), vin (by omega) (by decide), vin (by omega) (by decide), ?_⟩
  rw [ncl (show 10 * W < 2 ^ 31 by omega), ncl (show 10 * W + 1 < 2 ^ 31 by omega), ncl (show 10 * W + 2 < 2 ^ 31 by omega), ncl (show 10 * W + 3 < 2 ^ 31 by omega), ncl (show 10 * W + 4 < 2 ^ 31 by omega), ncl (show 10 * W + 5 < 2 ^ 31 by omega), ncl (show 10 * W + 6 < 2 ^ 31 by omega), ncl (show 10 * W + 7 < 2 ^ 31 by omega)]
  change CV mM_sayWord [.ref 6027, .int (nI W)] (si (si (TB M W (nI d) a m) 6027 0 (gi (TB M W (nI d) a m) 6027 0 + 1)) 6027 24 (gi (si (TB M W (nI d) a m) 6027 0 (gi (TB M W (nI d) a m) 6027 0 + 1)) 6027 24 &&& (((1 : Int32) <<< (nI W &&& 31)) - 1))) _
  have t1 : ∀ b k, b ≠ 6101 → gi (TB M W (nI d) a m) b k = gi M b k := fun b k q => tb_o q
  have t2 : ∀ k, k < 10 * W → gi (TB M W (nI d) a m) 6101 k = gi M 6101 k := fun k q => tb_l q
  have t3 : wd (TB M W (nI d) a m) W 0 = 0 := tb_0
  have t4 : wd (TB M W (nI d) a m) W 2 = 0 := tb_2
  have t5 : wd (TB M W (nI d) a m) W 6 = -4 := tb_6
  have t6 : gr (TB M W (nI d) a m) = gr M := rfl
  have t7 : gl (TB M W (nI d) a m) = gl M := rfl
  generalize TB M W (nI d) a m = T at t1 t2 t3 t4 t5 t6 t7 ⊢
  rw [t1 6027 0 (by decide), hW0, nI_s, gi_si, if_neg (by decide), t1 6027 24 (by decide), show gi M 6027 24 &&& (((1 : Int32) <<< (nI W &&& 31)) - 1) = gi M 6027 24 from hu]
  have p1 : ∀ b k, b ≠ 6101 → b ≠ 6027 → gi (si (si T 6027 0 (nI (W + 1))) 6027 24 (gi M 6027 24)) b k = gi M b k := fun b k q r => by rw [giR _ _ _ _ _ _ r, giR _ _ _ _ _ _ r]; exact t1 b k q
  have p2 : ∀ k, gi (si (si T 6027 0 (nI (W + 1))) 6027 24 (gi M 6027 24)) 6101 k = gi T 6101 k := fun k => by rw [giR _ _ _ _ _ _ (by decide), giR _ _ _ _ _ _ (by decide)]
  have p3 : gi (si (si T 6027 0 (nI (W + 1))) 6027 24 (gi M 6027 24)) 6027 0 = nI (W + 1) := by rw [gi_si, if_neg (by decide), gi_si, if_pos ⟨rfl, rfl⟩]
  have p4 : ∀ k, k ≠ 0 → gi (si (si T 6027 0 (nI (W + 1))) 6027 24 (gi M 6027 24)) 6027 k = gi M 6027 k := fun k q => by
    rw [gi_si]
    by_cases e : k = 24
    · rw [if_pos ⟨rfl, e⟩, e]
    · rw [if_neg (fun r => e r.2), gi_si, if_neg (fun r => q r.2)]; exact t1 _ _ (by decide)
  have p5 : gr (si (si T 6027 0 (nI (W + 1))) 6027 24 (gi M 6027 24)) = gr M := t6
  have p6 : gl (si (si T 6027 0 (nI (W + 1))) 6027 24 (gi M 6027 24)) = gl M := t7
  generalize si (si T 6027 0 (nI (W + 1))) 6027 24 (gi M 6027 24) = P at p1 p2 p3 p4 p5 p6 ⊢
  have w1 : ∀ v k, v < W → k < 10 → wd P v k = wd M v k := fun v k hv hk => (p2 _).trans (t2 _ (by omega))
  have w2 : ∀ k, wd P W k = wd T W k := fun k => p2 _
  have jP : JW P (W + 1) := by
    refine ⟨mr_w hm p5, p3, by omega, fun w hw1 => ?_⟩
    by_cases e : w = W
    · subst e
      exact ⟨⟨0, by decide, (w2 2).trans t4⟩, fun _ => Or.inl ((w2 6).trans t5)⟩
    · obtain ⟨⟨b, hb, eb⟩, c⟩ := hw w (by omega)
      refine ⟨⟨b, hb, (w1 w 2 (by omega) (by decide)).trans eb⟩, fun u => chn_up (Nat.le_succ W) _ _ (chn_wd (fun v hv => w1 v 6 hv (by decide)) _ _ (by omega) (c ?_))⟩
      unfold uns at u ⊢
      rwa [p4 24 (by decide)] at u
  have hP : HD P := by unfold HD; rw [p1 6543 4 (by decide) (by decide)]; exact hh
  refine sM_sayWord jP.1 (by omega) (fun q => absurd ((w2 0).trans t3) q) ?_
  generalize (swv P W).1 = y
  generalize (swv P W).2 = n
  have jS : JW (sl (sl P 6874 W y) 6938 W n) (W + 1) := jw_g rfl rfl jP
  have s1 : gi (sl (sl P 6874 W y) 6938 W n) = gi P := rfl
  have s2 : gr (sl (sl P 6874 W y) 6938 W n) = gr M := p5
  have s3 : ∀ b k, ¬ ((b = 6874 ∨ b = 6938) ∧ k = W) → gl (sl (sl P 6874 W y) 6938 W n) b k = gl M b k := fun b k q => by
    rw [gl_sl, if_neg (fun r => q ⟨Or.inr r.1, r.2⟩), gl_sl, if_neg (fun r => q ⟨Or.inl r.1, r.2⟩), p6]
  have hS : HD (sl (sl P 6874 W y) 6938 W n) := hP
  generalize sl (sl P 6874 W y) 6938 W n = S at jS s1 s2 s3 hS ⊢
  refine vM_turnsBy_143 rfl (sM_findOne jS hd (fun N1 f1 _ _ _ => vM_turnsBy_148 rfl (sM_findHeld (jw_sm (of_sm f1) jS) (hd_sm (of_sm (W := W + 1) f1) hS) (fun N2 f2 _ => vM_turnsBy_152 rfl (sM_findChanged (mr_w hm ((f2.2.2.trans f1.2.1).trans s2)) (fun N3 c1 c2 c3 c4 _ _ => vM_turnsBy_166 rfl (h _ N3 ?_)))))))
  have k2 : ∀ b, b ≠ 7310 → b ≠ 7374 → b ≠ 7246 → b ≠ 7182 → gi N2 b = gi P b := fun b q1 q2 q3 q4 => by rw [f2.1 b q1 q2 q3 q4, f1.1, s1]
  have e6 := k2 6027 (by decide) (by decide) (by decide) (by decide)
  refine ⟨((c4.trans f2.2.2).trans f1.2.1).trans s2, fun b q => ?_, fun k hk => ?_, fun k q => ?_, fun b k q r => ?_⟩
  · rw [c1 b (fun e => q (by omega))]
    funext k
    rw [giR _ _ _ _ _ _ (fun e => q (by omega)), k2 b (fun e => q (by omega)) (fun e => q (by omega)) (fun e => q (by omega)) (fun e => q (by omega))]
    exact p1 b k (fun e => q (by omega)) (fun e => q (by omega))
  · rw [c1 6101 (by decide), giR _ _ _ _ _ _ (by decide), k2 6101 (by decide) (by decide) (by decide) (by decide), p2, t2 k hk]
  · rw [c2 k (fun e => q (by omega)) (fun e => q (by omega)), gi_si]
    by_cases e : k = 0
    · subst e
      rw [if_pos ⟨rfl, rfl⟩, e6, p3, hW0, ← nI_s]
      exact Int32.add_sub_cancel _ _
    · rw [if_neg (fun r => e r.2), e6, p4 k e]
  · rw [c3]
    show gl N2 b k = _
    rw [f2.2.1, f1.2.2 b k (fun e => q e.1), s3 b k r]
section GM7
variable {M : Mm} {W : Nat}
theorem tM_turns {d a m : Int32} {K : Int32 → Mm → Prop} (j : JW M W) (hW : W ≤ 24) (hh : HD M) (hu : UM M W) (h : ∀ r N, QF W M N → K r N) : CI mM_turns [.ref 6027, .int d, .int a, .int m] M K := by
  refine call_of rfl (Nat.le_of_ble_eq_true rfl) rfl (vM_turns_0 (sM_isDoctor (fun q => vM_turns_4 ⟨fun _ => h _ _ (qf_rf W M), fun q => absurd rfl q⟩) (fun i hi e => vM_turns_4 ⟨fun q => absurd q (by decide), fun _ => sM_inE (fun q => vM_turns_14 ⟨fun _ => h _ _ (qf_rf W M), fun q => absurd rfl q⟩) (fun qa => vM_turns_14 ⟨fun q => absurd q (by decide), fun _ => sM_isCase (fun q => vM_turns_21 rfl (mr18 j.1) ⟨fun q => absurd rfl q.1, fun q => absurd rfl q.1, fun _ => h _ _ (qf_rf W M)⟩) (fun k hk e2 => vM_turns_21 rfl (mr18 j.1) ⟨fun _ => tM_findAll j hh (fun N f _ _ => ?_), fun _ => h _ _ (qf_rf W M), fun q => absurd q (by decide)⟩)⟩)⟩)))
  subst e
  have f1 : QF W M N := qf_af f
  refine vM_turns_46 rfl (kh_row (mr_w j.1 f1.1) ?_)
  have f2 := qf_tr f1 (qf_row (M := N) (n := 64) (g := gi N 7182))
  generalize rwm N 7438 64 (gi N 7182) = O at f2 ⊢
  exact vM_turns_50 rfl (sM_turnsBy (jw_sm (qf_sm f2) j) hW (hd_sm (qf_sm f2) hh) (um_qf f2 hu) hi (fun r P f3 => vM_turns_57 (h r P (qf_tr f2 f3))))
theorem tM_hangs {d w : Int32} {K : Int32 → Mm → Prop} (j : JW M W) (hh : HD M) (h : ∀ r N, QF W M N → K r N) : CI mM_hangs [.ref 6027, .int d, .int w] M K := by
  refine call_of rfl (Nat.le_of_ble_eq_true rfl) rfl (vM_hangs_0 (sM_isDoctor (fun q => vM_hangs_4 ⟨fun _ => h _ _ (qf_rf W M), fun q => absurd rfl q⟩) (fun i hi e => vM_hangs_4 ⟨fun q => absurd q (by decide), fun _ => sM_inE (fun q => vM_hangs_14 rfl ⟨fun q => absurd rfl q, fun _ => h _ _ (qf_rf W M)⟩) (fun q => vM_hangs_14 rfl ⟨fun _ => tM_findAll j hh (fun N f _ _ => ?_), fun q => absurd q (by decide)⟩)⟩)))
  subst e
  have f1 : QF W M N := qf_af f
  refine vM_hangs_23 rfl (kh_row (mr_w j.1 f1.1) ?_)
  have f2 := qf_tr f1 (qf_row (M := N) (n := 64) (g := gi N 7182))
  generalize rwm N 7438 64 (gi N 7182) = O at f2 ⊢
  have hm := mr_w j.1 f2.1
  refine vM_hangs_27 rfl (mr27 hm) (mr28 hm) ⟨vin hi (by decide), vin hi (by decide), ?_⟩
  rw [ncl (by omega)]
  have f3 : QF W M (sl (sl O 7003 i 0) 7067 i 0) := qf_tr (qf_tr f2 (qf_sl (Or.inr (Or.inl rfl)))) (qf_sl (Or.inr (Or.inr rfl)))
  generalize sl (sl O 7003 i 0) 7067 i 0 = P at f3 ⊢
  refine sM_findHeld (jw_sm (qf_sm f3) j) (hd_sm (qf_sm f3) hh) (fun N2 g _ => vM_hangs_45 rfl ?_)
  have f4 := qf_tr f3 (qf_af (af_fr g))
  exact sM_findChanged (mr_w j.1 f4.1) (fun N3 c1 c2 c3 c4 _ _ => vM_hangs_49 rfl (h _ _ (qf_tr f4 (qf_ch c1 c2 c3 c4))))
end GM7
end MG15
section MG16
/-! ===== the reference at any state: argue, game, meets, steps, count ===== -/
section GM8
variable {M N : Mm} {W : Nat}
theorem qf_sc {a k : Nat} {v : Int32} (h : a = 7438 ∨ a = 7502 ∨ a = 7582) : QF W M (si M a k v) := by
  refine ⟨rfl, fun b q => ?_, fun i _ => ?_, fun i _ => ?_, fun _ _ _ _ => rfl⟩
  · funext i; exact giR _ _ _ _ _ _ (fun e => q (by omega))
  · exact giR _ _ _ _ _ _ (by omega)
  · exact giR _ _ _ _ _ _ (by omega)
theorem qf_39 {v : Int32} : QF W M (si M 6027 39 v) := by
  refine ⟨rfl, fun b q => ?_, fun i _ => ?_, fun i q => ?_, fun _ _ _ _ => rfl⟩
  · funext i; exact giR _ _ _ _ _ _ (fun e => q (by omega))
  · exact giR _ _ _ _ _ _ (by decide)
  · rw [gi_si, if_neg (fun e => q (by omega))]
theorem jw_9 {b : Int32} (j : JW M W) : JW (si M 6027 9 b) W := by
  have e : ∀ v k, wd (si M 6027 9 b) v k = wd M v k := fun v k => giR _ _ _ _ _ _ (by decide)
  refine ⟨j.1, j.2.1, j.2.2.1, fun w hw => ?_⟩
  obtain ⟨⟨c, hc, ec⟩, ch⟩ := j.2.2.2 w hw
  exact ⟨⟨c, hc, (e _ _).trans ec⟩, fun u => chn_wd (fun v _ => e v 6) _ _ hw (ch u)⟩
theorem hd_9 {b : Int32} (h : HD M) : HD (si M 6027 9 b) := h
theorem qf_9 {b : Int32} (f : QF W (si M 6027 9 b) N) : QF W M (si N 6027 9 (gi M 6027 9)) := by
  refine ⟨f.1, fun a q => ?_, fun k hk => ?_, fun k q => ?_, f.2.2.2.2⟩
  · funext k
    rw [giR _ _ _ _ _ _ (fun e => q (by omega)), f.2.1 a q, giR _ _ _ _ _ _ (fun e => q (by omega))]
  · rw [giR _ _ _ _ _ _ (by decide), f.2.2.1 k hk, giR _ _ _ _ _ _ (by decide)]
  · rw [gi_si]
    by_cases e : k = 9
    · rw [if_pos ⟨rfl, e⟩, e]
    · rw [if_neg (fun r => e r.2), f.2.2.2.1 k q, gi_si, if_neg (fun r => e r.2)]
theorem qf_s9 {b c : Int32} (f : QF W (si M 6027 9 b) N) : QF W (si M 6027 9 c) (si N 6027 9 c) := by
  refine ⟨f.1, fun a q => ?_, fun k hk => ?_, fun k q => ?_, f.2.2.2.2⟩
  · funext k
    rw [giR _ _ _ _ _ _ (fun e => q (by omega)), f.2.1 a q, giR _ _ _ _ _ _ (fun e => q (by omega)), giR _ _ _ _ _ _ (fun e => q (by omega))]
  · rw [giR _ _ _ _ _ _ (by decide), f.2.2.1 k hk, giR _ _ _ _ _ _ (by decide), giR _ _ _ _ _ _ (by decide)]
  · rw [gi_si, gi_si]
    by_cases e : k = 9
    · rw [if_pos ⟨rfl, e⟩, if_pos ⟨rfl, e⟩]
    · rw [if_neg (fun r => e r.2), if_neg (fun r => e r.2), f.2.2.2.1 k q, gi_si, if_neg (fun r => e r.2)]
theorem qf_i9 (W : Nat) (M : Mm) : QF W (si M 6027 9 (gi M 6027 9)) M := by rw [si_same _ _ _ _ rfl]; exact qf_rf W M
theorem tM_argue {c a w : Int32} {K : Int32 → Mm → Prop} (j : JW M W) (hh : HD M) (h : ∀ r N, QF W M N → K r N) : CI mM_argue [.ref 6027, .int c, .int a, .int w] M K := by
  refine call_of rfl (Nat.le_of_ble_eq_true rfl) rfl (vM_argue_0 (sM_isCase (fun q => vM_argue_4 ⟨fun _ => h _ _ (qf_rf W M), fun q => absurd rfl q⟩) (fun i hi e => vM_argue_4 ⟨fun q => absurd q (by decide), fun _ => sM_inE (fun q => vM_argue_14 ⟨fun _ => h _ _ (qf_rf W M), fun q => absurd rfl q⟩) (fun qa => vM_argue_14 ⟨fun q => absurd q (by decide), fun _ => sM_inE (fun q => vM_argue_24 rfl ⟨fun q => absurd rfl q, fun _ => h _ _ (qf_rf W M)⟩) (fun qw => vM_argue_24 rfl ⟨fun _ => ?_, fun q => absurd q (by decide)⟩)⟩)⟩)))
  subst e
  have key := lp 256 (P := fun s => ∀ N b x, QF W (si M 6027 9 b) N → X mM_argue 42 [(0, .ref 6027), (1, .int (nI i)), (2, .int a), (3, .int w), (4, .int (gi M 6027 9)), (5, .int x), (6, .int (nI s))] [] N (mC mM_argue, mS mM_argue) (QI K)) (fun s hs ih N b x f => ?_) (fun N b x f => ?_)
  · exact key M _ _ (qf_i9 W M)
  · have b70 : X mM_argue 70 [(0, .ref 6027), (1, .int (nI i)), (2, .int a), (3, .int w), (4, .int (gi M 6027 9)), (5, .int x), (6, .int (nI s))] [] N (mC mM_argue, mS mM_argue) (QI K) := by
      have f1 := qf_s9 (c := nI s) f
      refine vM_argue_70 rfl (tM_findAll (jw_sm (qf_sm f1) (jw_9 j)) (hd_sm (qf_sm f1) (hd_9 hh)) (fun N2 g _ _ => ?_))
      have f2 := qf_tr f1 (qf_af g)
      refine vM_argue_80 rfl (mr30 (mr_w j.1 f2.1)) ⟨vin hi (by decide), ?_⟩
      rw [nI_s]
      exact ih N2 _ _ f2
    refine vM_argue_42 rfl ⟨fun q => absurd q (nge rfl (by decide) hs), fun _ => b70, fun _ => sM_countOf (vM_argue_62 (sM_countOf (vM_argue_67 ⟨fun _ => ?_, fun _ => b70⟩)))⟩
    rw [nI_s]; exact ih N _ _ f
  · exact vM_argue_42 rfl ⟨fun _ => ⟨fun _ => h _ _ (qf_9 f), fun _ => sM_countOf (vM_argue_132 (h _ _ (qf_9 f))), fun _ => h _ _ (qf_9 f)⟩, fun q => absurd (nself rfl) q.1, fun q => absurd (nself rfl) q.1⟩
def bti (s b w : Nat) : Int32 := (4 * (nI s ||| ((1 : Int32) <<< (nI b &&& 31)))) + (2 * (1 - nI w))
theorem bti_in : ∀ s, s < 64 → ∀ b, b < 6 → ∀ w, w < 2 → ¬ (bti s b w < 0 ∨ 256 ≤ (bti s b w).toNatClampNeg) := by decide +kernel
theorem sM_bestTurn {s w : Nat} {v : Int32} {K : Int32 → Mm → Prop} (hm : MR M) (hs : s < 64) (hw : w < 2) (h : ∀ r N, QF W M N → K r N) : CI mM_bestTurn [.ref 6027, .int (nI s), .int (nI w), .int v] M K := by
  refine call_of rfl (Nat.le_of_ble_eq_true rfl) rfl (vM_bestTurn_0 rfl ?_)
  have key := lp 6 (P := fun b => ∀ N x4 x5, QF W M N → X mM_bestTurn 25 [(0, .ref 6027), (1, .int (nI s)), (2, .int (nI w)), (4, .int x4), (5, .int x5), (6, .int (nI b))] [] N (mC mM_bestTurn, mS mM_bestTurn) (QI K)) (fun b hb ih N x4 x5 f => ?_) (fun N x4 x5 f => ?_)
  · exact key _ _ _ qf_39
  · have hi := bti_in s hs b hb w hw
    have nq := nge (c := 6) (i := b) (n := 6) rfl (by decide) hb
    have fin : ∀ x7 y, X mM_bestTurn 101 [(0, .ref 6027), (1, .int (nI s)), (2, .int (nI w)), (4, .int x4), (5, .int x5), (6, .int (nI b)), (7, .int x7)] [.int y] N (mC mM_bestTurn, mS mM_bestTurn) (QI K) := by
      intro x7 y
      refine vM_bestTurn_101 rfl ⟨fun _ => vM_bestTurn_136 ?_, fun _ => vM_bestTurn_136 ?_⟩
      · rw [nI_s]; exact ih _ _ _ (qf_tr f qf_39)
      · rw [nI_s]; exact ih _ _ _ (qf_tr f qf_39)
    refine vM_bestTurn_25 rfl (mr38 (mr_w hm f.1)) ⟨fun _ => hi, fun q => absurd q.1 nq, fun q => absurd q.1 nq, fun _ => ?_, fun _ => ⟨fun _ => fin _ 1, fun _ => fin _ 0⟩⟩
    rw [nI_s]; exact ih N _ _ f
  · refine vM_bestTurn_25 rfl (mr38 (mr_w hm f.1)) ⟨fun q => absurd (nself rfl) q.1, fun _ => h _ _ f, fun _ => h _ _ f, fun q => absurd (nself rfl) q.1, fun q => absurd (nself rfl) q.1⟩
def bi1 (s w : Nat) : Int32 := ((4 * nI s) + (2 * nI w)) + 1
def bi2 (s w : Nat) : Int32 := ((4 * nI s) + (2 * (1 - nI w))) + 1
def bi3 (s w : Nat) : Int32 := (4 * nI s) + (2 * nI w)
theorem bi_in : ∀ s, s < 64 → ∀ w, w < 2 → ¬ (bi1 s w < 0 ∨ 256 ≤ (bi1 s w).toNatClampNeg) ∧ ¬ (bi2 s w < 0 ∨ 256 ≤ (bi2 s w).toNatClampNeg) ∧ ¬ (bi3 s w < 0 ∨ 256 ≤ (bi3 s w).toNatClampNeg) := by decide +kernel
theorem sM_findGame {c : Nat} {K : Mm → Prop} (j : JW M W) (hh : HD M) (hc : c < 64) (h : ∀ N, QF W M N → K N) : CV mM_findGame [.ref 6027, .int (nI c)] M K := by
  refine call_of rfl (Nat.le_of_ble_eq_true rfl) rfl (vM_findGame_0 rfl ?_)
  have key := lp 64 (P := fun s => ∀ N b, QF W (si M 6027 9 b) N → X mM_findGame 7 [(0, .ref 6027), (1, .int (nI c)), (2, .int (gi M 6027 9)), (3, .int (nI s))] [] N (mC mM_findGame, mS mM_findGame) (QV K)) (fun s hs ih N b f => ?_) (fun N b f => ?_)
  · exact key M _ (qf_i9 W M)
  · have f1 := qf_s9 (c := nI s) f
    refine vM_findGame_7 rfl ⟨fun q => absurd q (nge rfl (by decide) hs), fun _ => tM_findAll (jw_sm (qf_sm f1) (jw_9 j)) (hd_sm (qf_sm f1) (hd_9 hh)) (fun N2 g _ _ => ?_)⟩
    have f2 := qf_tr f1 (qf_af g)
    have hm := mr_w j.1 f2.1
    refine vM_findGame_22 rfl (mr37 hm) (mr30 hm) ⟨vin hc (by decide), fun _ => vin hc (by decide), vin hs (by decide), ?_⟩
    rw [nI_s]
    exact ih _ _ (qf_tr f2 (qf_sc (Or.inr (Or.inl rfl))))
  · refine vM_findGame_7 rfl ⟨fun _ => ?_, fun q => absurd (nself rfl) q⟩
    have f0 := qf_9 f
    generalize si N 6027 9 (gi M 6027 9) = O at f0 ⊢
    have k2 := lp 64 (P := fun i => ∀ N, QF W M N → X mM_findGame 70 [(0, .ref 6027), (3, .int (dn i))] [] N (mC mM_findGame, mS mM_findGame) (QV K)) (fun i hi ih N f => ?_) (fun N f => ?_)
    · exact k2 O f0
    · obtain ⟨e1, e2⟩ := dn1 i hi
      rw [e1] at e2 ⊢
      have hs : 63 - i < 64 := by omega
      generalize 63 - i = s at e2 hs ⊢
      refine vM_findGame_70 ⟨fun q => absurd q (n0 s (by omega)), fun _ => ?_⟩
      have k3 := lp 2 (P := fun w => ∀ N, QF W M N → X mM_findGame 136 [(0, .ref 6027), (3, .int (nI s)), (4, .int (nI w))] [] N (mC mM_findGame, mS mM_findGame) (QV K)) (fun w hw ih3 N f => ?_) (fun N f => ?_)
      · have k4 := lp 2 (P := fun w => ∀ N, QF W M N → X mM_findGame 77 [(0, .ref 6027), (3, .int (nI s)), (4, .int (nI w))] [] N (mC mM_findGame, mS mM_findGame) (QV K)) (fun w hw ih4 N f => ?_) (fun N f => ?_)
        · exact k4 N f
        · have hm := mr_w j.1 f.1
          obtain ⟨b1, b2, b3⟩ := bi_in s hs w hw
          have go : ∀ O x, QF W M O → X mM_findGame 126 [(0, .ref 6027), (3, .int (nI s)), (4, .int (nI w))] [.int x, .int (((4 * nI s) + (2 * nI w)) + 1), .ref 7582] O (mC mM_findGame, mS mM_findGame) (QV K) := fun O x g => vM_findGame_126 rfl ⟨b1, by rw [nI_s]; exact ih4 _ (qf_tr g (qf_sc (Or.inr (Or.inr rfl))))⟩
          exact vM_findGame_77 rfl (mr38 hm) (mr37 hm) ⟨fun _ => vin hs (by decide), fun q => absurd q (nge rfl (by decide) hw), fun _ => sM_bestTurn (W := W) hm hs hw (fun r O g => go O r (qf_tr f g)), fun _ => go N _ f⟩
        · have hm := mr_w j.1 f.1
          exact vM_findGame_77 rfl (mr38 hm) (mr37 hm) ⟨fun q => absurd (nself rfl) q.1, fun _ => k3 N f, fun q => absurd (nself rfl) q.1, fun q => absurd (nself rfl) q.1⟩
      · have hm := mr_w j.1 f.1
        obtain ⟨b1, b2, b3⟩ := bi_in s hs w hw
        have go : ∀ O x, QF W M O → X mM_findGame 194 [(0, .ref 6027), (3, .int (nI s)), (4, .int (nI w))] [.int x, .int ((4 * nI s) + (2 * nI w)), .ref 7582] O (mC mM_findGame, mS mM_findGame) (QV K) := fun O x g => vM_findGame_194 rfl ⟨b3, by rw [nI_s]; exact ih3 _ (qf_tr g (qf_sc (Or.inr (Or.inr rfl))))⟩
        exact vM_findGame_136 rfl (mr38 hm) (mr37 hm) ⟨fun _ => b2, fun q => absurd q (nge rfl (by decide) hw), fun _ => sM_bestTurn (W := W) hm hs hw (fun r O g => go O r (qf_tr f g)), fun _ => go N _ f⟩
      · have hm := mr_w j.1 f.1
        refine vM_findGame_136 rfl (mr38 hm) (mr37 hm) ⟨fun q => absurd (nself rfl) q.1, fun _ => ?_, fun q => absurd (nself rfl) q.1, fun q => absurd (nself rfl) q.1⟩
        rw [e2]; exact ih N f
    · exact vM_findGame_70 ⟨fun _ => h N f, fun q => absurd (by decide +kernel) q⟩
theorem tM_game {c b w : Int32} {K : Int32 → Mm → Prop} (j : JW M W) (hh : HD M) (h : ∀ r N, QF W M N → K r N) : CI mM_game [.ref 6027, .int c, .int b, .int w] M K := by
  refine call_of rfl (Nat.le_of_ble_eq_true rfl) rfl (vM_game_0 (sM_isCase (fun q => vM_game_4 ⟨fun _ => h _ _ (qf_rf W M), fun q => absurd rfl q⟩) (fun i hi e => vM_game_4 ⟨fun q => absurd q (by decide), fun _ => sM_inE (fun q => vM_game_14 ⟨fun _ => h _ _ (qf_rf W M), fun q => absurd rfl q⟩) (fun qa => vM_game_14 ⟨fun q => absurd q (by decide), fun _ => sM_inE (fun q => vM_game_24 rfl ⟨fun q => absurd rfl q, fun _ => h _ _ (qf_rf W M)⟩) (fun qw => vM_game_24 rfl ⟨fun _ => ?_, fun q => absurd q (by decide)⟩)⟩)⟩)))
  subst e
  refine sM_findGame j hh hi (fun N f => ?_)
  have hm := mr_w j.1 f.1
  obtain ⟨k, hk, rfl⟩ : ∃ k, k < 2 ∧ b = nI k := by
    rcases qa with rfl | rfl
    · exact ⟨0, by decide, rfl⟩
    · exact ⟨1, by decide, rfl⟩
  have ix : ∀ k, k < 2 → ¬ ((2 * (1 - nI k)) + 1 < 0 ∨ 256 ≤ ((2 * (1 - nI k)) + 1).toNatClampNeg) := by decide +kernel
  exact vM_game_34 rfl (mr38 hm) ⟨ix k hk, sM_bestTurn (s := 0) (W := W) hm (by decide) hk (fun r O g => vM_game_52 rfl (h _ _ (qf_tr f g)))⟩
theorem tM_steps {v : Int32} {K : Int32 → Mm → Prop} (j : JW M W) (h : ∀ r, K r M) : CI mM_steps [.ref 6027, .int v] M K := by
  refine call_of rfl (Nat.le_of_ble_eq_true rfl) rfl (vM_steps_0 rfl (sM_isWord j.2.1 j.2.2.1 (fun q => vM_steps_5 rfl ⟨fun q => absurd rfl q, fun _ => h _⟩) (fun i hi e => vM_steps_5 rfl ⟨fun _ => ?_, fun q => absurd q (by decide)⟩)))
  subst e
  have hW := j.2.2.1
  refine sM_isUnsound (vM_steps_15 ⟨fun q => ?_, fun _ => h _⟩)
  have u : ¬ uns M i := fun u => by rw [if_pos u] at q; exact absurd q (by decide)
  have key : ∀ n v x, v < W → chn M W n v → X mM_steps 25 [(0, .ref 6027), (2, .int x), (3, .int (nI v))] [] M (mC mM_steps, mS mM_steps) (QI K) := by
    intro n
    induction n with
    | zero =>
      intro v x hv hc
      exact vM_steps_25 rfl (sM_of (k := 6) j.1 (by omega) rfl (by decide) (vM_steps_32 rfl ⟨fun _ => h _, fun q => absurd hc q⟩))
    | succ n ih =>
      intro v x hv hc
      refine vM_steps_25 rfl (sM_of (k := 6) j.1 (by omega) rfl (by decide) (vM_steps_32 rfl ⟨fun _ => h _, fun q => sM_of (k := 6) j.1 (by omega) rfl (by decide) (vM_steps_47 ?_)⟩))
      rcases hc with hc | ⟨f, hf, e, hc⟩
      · exact absurd hc q
      · rw [e]; exact ih f _ hf hc
  exact key 25 i 0 hi ((j.2.2.2 i hi).2 u)
theorem tM_meets {c w : Int32} {K : Int32 → Mm → Prop} (j : JW M W) (h : ∀ r, K r M) : CI mM_meets [.ref 6027, .int c, .int w] M K := by
  obtain ⟨hm, hW, hW2, hw⟩ := j
  refine call_of rfl (Nat.le_of_ble_eq_true rfl) rfl (vM_meets_0 (sM_isCase (fun q => vM_meets_4 ⟨fun _ => h _, fun q => absurd rfl q⟩) (fun i hi e => vM_meets_4 ⟨fun q => absurd q (by decide), fun _ => inW (fun q => vM_meets_16 ⟨fun q => absurd rfl q, fun _ => h _⟩) (fun q => vM_meets_16 ⟨fun _ => ?_, fun q => absurd q (by decide)⟩)⟩)))
  have key := lp W (P := fun k => ∀ x, X mM_meets 26 [(0, .ref 6027), (1, .int c), (2, .int w), (3, .int x), (4, .int (nI k))] [] M (mC mM_meets, mS mM_meets) (QI K)) (fun k hk ih x => ?_) (fun x => ?_)
  · exact key 0
  · obtain ⟨⟨b, hb, eb⟩, hc⟩ := hw k hk
    have nW : ¬ gi M 6027 0 ≤ nI k := by rw [hW]; exact nge rfl (by omega) hk
    have b99 : ∀ y, X mM_meets 99 [(0, .ref 6027), (1, .int c), (2, .int w), (3, .int x), (4, .int (nI k))] [.int y] M (mC mM_meets, mS mM_meets) (QI K) := fun y => vM_meets_99 (by rw [nI_s]; exact ih _)
    exact vM_meets_26 rfl (mr25 hm) (mr26 hm) ⟨fun _ => vin (by omega) (by decide), fun _ => vin (by omega) (by decide), fun p => absurd p nW, fun _ => sM_told (vM_meets_53 rfl ⟨fun _ => vM_meets_98 (b99 0), fun _ => vM_meets_94 (b99 1), fun _ => sM_counts hm (by omega) eb hb (vM_meets_91 ⟨fun _ => vM_meets_98 (b99 0), fun _ => vM_meets_94 (b99 1)⟩), fun _ => b99 0, fun _ => b99 1⟩)⟩
  · have yW : gi M 6027 0 ≤ nI W := by rw [hW]; exact nself rfl
    exact vM_meets_26 rfl (mr25 hm) (mr26 hm) ⟨fun p => absurd yW p, fun p => absurd yW p, fun _ => h _, fun p => absurd yW p⟩
end GM8
end MG16
section MG17
/-! ===== the reference at any state: rules, brief, count, sheets, tape ===== -/
section GM9
variable {M N O : Mm} {W : Nat}
/-- rules and others so far swapped -/
def SP (i : Nat) (M N : Mm) : Prop := gr N = gr M ∧ gl N = gl M ∧ (∀ a, a ≠ 6543 → a ≠ 6607 → gi N a = gi M a) ∧ (∀ k, gi N 6543 k = if k < i then gi M 6607 k else gi M 6543 k) ∧ ∀ k, gi N 6607 k = if k < i then gi M 6543 k else gi M 6607 k
theorem sp_s {i : Nat} (s : SP i M N) : SP (i + 1) M (si (si N 6607 i (gi N 6543 i)) 6543 i (gi N 6607 i)) := by
  obtain ⟨s1, s2, s3, s4, s5⟩ := s
  refine ⟨s1, s2, fun a h1 h2 => ?_, fun k => ?_, fun k => ?_⟩
  · rw [← s3 a h1 h2]; funext k; rw [giR _ _ _ _ _ _ h1, giR _ _ _ _ _ _ h2]
  · rw [gi_si]
    by_cases e : k = i
    · rw [if_pos ⟨rfl, e⟩, s5, e, if_neg (Nat.lt_irrefl i), if_pos (Nat.lt_succ_self i)]
    · rw [if_neg (fun q => e q.2), giR _ _ _ _ _ _ (by decide), s4]
      by_cases l : k < i
      · rw [if_pos l, if_pos (by omega)]
      · rw [if_neg l, if_neg (by omega)]
  · rw [giR _ _ _ _ _ _ (by decide), gi_si]
    by_cases e : k = i
    · rw [if_pos ⟨rfl, e⟩, s4, e, if_neg (Nat.lt_irrefl i), if_pos (Nat.lt_succ_self i)]
    · rw [if_neg (fun q => e q.2), s5]
      by_cases l : k < i
      · rw [if_pos l, if_pos (by omega)]
      · rw [if_neg l, if_neg (by omega)]
theorem sM_swap {K : Int32 → Mm → Prop} (hm : MR M) (h : ∀ N, SP 7 M N → K 1 N) : CI mM_swap [.ref 6027] M K := by
  refine call_of rfl (Nat.le_of_ble_eq_true rfl) rfl (vM_swap_0 ?_)
  have key := lp 7 (P := fun i => ∀ N, SP i M N → X mM_swap 2 [(0, .ref 6027), (1, .int (nI i))] [] N (mC mM_swap, mS mM_swap) (QI K)) (fun i hi ih N s => ?_) (fun N s => ?_)
  · exact key M ⟨rfl, rfl, fun _ _ _ => rfl, fun k => by rw [if_neg (Nat.not_lt_zero k)], fun k => by rw [if_neg (Nat.not_lt_zero k)]⟩
  · have hmN := mr_w hm s.1
    refine vM_swap_2 rfl (mr19 hmN) (mr18 hmN) ⟨fun _ => vin hi (by decide), fun q => absurd q (nge rfl (by decide) hi), fun _ => ⟨vin hi (by decide), vin hi (by decide), vin hi (by decide), ?_⟩⟩
    rw [ncl (by omega), nI_s]; exact ih _ (sp_s s)
  · have hmN := mr_w hm s.1
    exact vM_swap_2 rfl (mr19 hmN) (mr18 hmN) ⟨fun q => absurd (nself rfl) q, fun _ => h N s, fun q => absurd (nself rfl) q⟩
/-- the others become the rules -/
def KP (i : Nat) (M N : Mm) : Prop := gr N = gr M ∧ gl N = gl M ∧ (∀ a, a ≠ 6607 → gi N a = gi M a) ∧ ∀ k, gi N 6607 k = if k < i then gi M 6543 k else gi M 6607 k
theorem tM_keep {K : Int32 → Mm → Prop} (hm : MR M) (h : ∀ N, KP 7 M N → K 1 N) : CI mM_keep [.ref 6027] M K := by
  refine call_of rfl (Nat.le_of_ble_eq_true rfl) rfl (vM_keep_0 ?_)
  have key := lp 7 (P := fun i => ∀ N, KP i M N → X mM_keep 2 [(0, .ref 6027), (1, .int (nI i))] [] N (mC mM_keep, mS mM_keep) (QI K)) (fun i hi ih N s => ?_) (fun N s => ?_)
  · exact key M ⟨rfl, rfl, fun _ _ => rfl, fun k => by rw [if_neg (Nat.not_lt_zero k)]⟩
  · have hmN := mr_w hm s.1
    refine vM_keep_2 rfl (mr19 hmN) (mr18 hmN) ⟨fun _ => vin hi (by decide), fun q => absurd q (nge rfl (by decide) hi), fun _ => ⟨vin hi (by decide), ?_⟩⟩
    rw [ncl (by omega), nI_s]
    refine ih _ ⟨s.1, s.2.1, fun a ha => ?_, fun k => ?_⟩
    · rw [← s.2.2.1 a ha]; funext k; rw [giR _ _ _ _ _ _ ha]
    · rw [gi_si]
      by_cases e : k = i
      · rw [if_pos ⟨rfl, e⟩, s.2.2.1 6543 (by decide), e, if_pos (Nat.lt_succ_self i)]
      · rw [if_neg (fun q => e q.2), s.2.2.2]
        by_cases l : k < i
        · rw [if_pos l, if_pos (by omega)]
        · rw [if_neg l, if_neg (by omega)]
  · have hmN := mr_w hm s.1
    exact vM_keep_2 rfl (mr19 hmN) (mr18 hmN) ⟨fun q => absurd (nself rfl) q, fun _ => h N s, fun q => absurd (nself rfl) q⟩
/-- the head of the others -/
def HO (M : Mm) : Prop := gi M 6607 4 = -4 ∨ ∃ e, e < 8 ∧ gi M 6607 4 = nI e
theorem jw_sp {i : Nat} (s : SP i M N) (j : JW M W) : JW N W := by
  have e1 := s.2.2.1 6101 (by decide) (by decide)
  have e2 := s.2.2.1 6027 (by decide) (by decide)
  have e : ∀ v k, wd N v k = wd M v k := fun v k => by unfold wd; rw [e1]
  refine ⟨mr_w j.1 s.1, by rw [e2]; exact j.2.1, j.2.2.1, fun w hw => ?_⟩
  obtain ⟨⟨c, hc, ec⟩, ch⟩ := j.2.2.2 w hw
  refine ⟨⟨c, hc, (e _ _).trans ec⟩, fun u => chn_wd (fun v _ => e v 6) _ _ hw (ch ?_)⟩
  unfold uns at u ⊢
  rwa [e2] at u
theorem qf_sp (f : SP 7 M N) (g : AF N O) {P : Mm} (k : SP 7 O P) : QF W M P := by
  have kk : ∀ a, a ≠ 7310 → a ≠ 7374 → a ≠ 7246 → a ≠ 7182 → gi O a = gi N a := g.1
  refine ⟨(k.1.trans g.2.1).trans f.1, fun a q => ?_, fun i _ => ?_, fun i _ => ?_, fun a i q _ => ?_⟩
  · by_cases e1 : a = 6543
    · subst e1
      funext i
      rw [k.2.2.2.1, kk 6607 (by decide) (by decide) (by decide) (by decide), kk 6543 (by decide) (by decide) (by decide) (by decide), f.2.2.2.2, f.2.2.2.1]
      by_cases l : i < 7
      · rw [if_pos l, if_pos l]
      · rw [if_neg l, if_neg l]
    · by_cases e2 : a = 6607
      · subst e2
        funext i
        rw [k.2.2.2.2, kk 6607 (by decide) (by decide) (by decide) (by decide), kk 6543 (by decide) (by decide) (by decide) (by decide), f.2.2.2.2, f.2.2.2.1]
        by_cases l : i < 7
        · rw [if_pos l, if_pos l]
        · rw [if_neg l, if_neg l]
      · rw [k.2.2.1 a e1 e2, kk a (fun e => q (by omega)) (fun e => q (by omega)) (fun e => q (by omega)) (fun e => q (by omega)), f.2.2.1 a e1 e2]
  · rw [k.2.2.1 6101 (by decide) (by decide), kk 6101 (by decide) (by decide) (by decide) (by decide), f.2.2.1 6101 (by decide) (by decide)]
  · rw [k.2.2.1 6027 (by decide) (by decide), kk 6027 (by decide) (by decide) (by decide) (by decide), f.2.2.1 6027 (by decide) (by decide)]
  · rw [k.2.1, g.2.2 a i q, f.2.1]
theorem tM_differ {w : Int32} {K : Int32 → Mm → Prop} (j : JW M W) (hh : HD M) (ho : HO M) (h : ∀ r N, QF W M N → K r N) : CI mM_differ [.ref 6027, .int w] M K := by
  refine call_of rfl (Nat.le_of_ble_eq_true rfl) rfl (vM_differ_0 (sM_inE (fun q => vM_differ_7 rfl ⟨fun q => absurd rfl q, fun _ => h _ _ (qf_rf W M)⟩) (fun q => vM_differ_7 rfl ⟨fun _ => tM_findAll j hh (fun N f _ _ => ?_), fun q => absurd q (by decide)⟩)))
  have f1 : QF W M N := qf_af f
  refine vM_differ_16 rfl (kh_row (mr_w j.1 f1.1) ?_)
  have f2 := qf_tr f1 (qf_row (M := N) (n := 64) (g := gi N 7182))
  generalize rwm N 7438 64 (gi N 7182) = O at f2 ⊢
  refine vM_differ_20 rfl (sM_swap (mr_w j.1 f2.1) (fun P s => vM_differ_24 rfl ?_))
  have hP : HD P := by
    have : gi P 6543 4 = gi M 6607 4 := by rw [s.2.2.2.1, if_pos (by decide), f2.2.1 6607 (by decide)]
    unfold HD; rw [this]; exact ho
  refine tM_findAll (jw_sp s (jw_sm (qf_sm f2) j)) hP (fun R g _ _ => vM_differ_29 rfl ?_)
  refine sM_swap (mr_w j.1 ((g.2.1.trans s.1).trans f2.1)) (fun S t => vM_differ_33 rfl ?_)
  have f3 : QF W M S := qf_tr f2 (qf_sp s g t)
  exact sM_findChanged (mr_w j.1 f3.1) (fun N3 c1 c2 c3 c4 _ _ => vM_differ_38 rfl (h _ _ (qf_tr f3 (qf_ch c1 c2 c3 c4))))
theorem tM_brief {w : Int32} {K : Int32 → Mm → Prop} (j : JW M W) (hh : HD M) (h : ∀ r N, QF W M N → K r N) : CI mM_brief [.ref 6027, .int w] M K := by
  refine call_of rfl (Nat.le_of_ble_eq_true rfl) rfl (vM_brief_0 (sM_inE (fun q => vM_brief_7 rfl ⟨fun q => absurd rfl q, fun _ => h _ _ (qf_rf W M)⟩) (fun q => vM_brief_7 rfl ⟨fun _ => tM_findAll j hh (fun N f _ _ => vM_brief_16 ?_), fun q => absurd q (by decide)⟩)))
  have hm := mr_w j.1 f.2.1
  have f1 : QF W M N := qf_af f
  have key := lp 63 (P := fun s => ∀ x, X mM_brief 21 [(0, .ref 6027), (1, .int w), (2, .int x), (3, .int (nI s))] [] N (mC mM_brief, mS mM_brief) (QI K)) (fun s hs ih x => ?_) (fun x => ?_)
  · exact key 63
  · have loop : ∀ y, X mM_brief 64 [(0, .ref 6027), (1, .int w), (2, .int x), (3, .int (nI s)), (4, .int y), (5, .int 0)] [] N (mC mM_brief, mS mM_brief) (QI K) := by
      have k2 := lp 64 (P := fun c => ∀ y, X mM_brief 64 [(0, .ref 6027), (1, .int w), (2, .int x), (3, .int (nI s)), (4, .int y), (5, .int (nI c))] [] N (mC mM_brief, mS mM_brief) (QI K)) (fun c hc ih2 y => ?_) (fun y => ?_)
      · exact k2
      · refine vM_brief_64 ⟨fun _ => by rw [nI_s]; exact ih _, fun _ => ?_⟩
        have k3 := lp c (P := fun e => ∀ y, X mM_brief 79 [(0, .ref 6027), (1, .int w), (2, .int x), (3, .int (nI s)), (4, .int y), (5, .int (nI c)), (6, .int (nI e))] [] N (mC mM_brief, mS mM_brief) (QI K)) (fun e he ih3 y => ?_) (fun y => ?_)
        · exact k3 y
        · have go : ∀ z, X mM_brief 152 [(0, .ref 6027), (1, .int w), (2, .int x), (3, .int (nI s)), (5, .int (nI c)), (6, .int (nI e))] [.int z] N (mC mM_brief, mS mM_brief) (QI K) := fun z => vM_brief_152 (by rw [nI_s]; exact ih3 z)
          have he2 : e < 64 := by omega
          exact vM_brief_79 rfl (mr30 hm) ⟨fun _ => vin hc (by decide), fun _ => vin he2 (by decide), fun _ => vin hc (by decide), fun _ => vin he2 (by decide), fun q => absurd q (nge rfl (by omega) he), fun _ => go y, fun _ => go 0, fun _ => go 1⟩
        · refine vM_brief_79 rfl (mr30 hm) ⟨fun q => absurd (nself rfl) q.1, fun q => absurd (nself rfl) q.1, fun q => absurd (nself rfl) q.1, fun q => absurd (nself rfl) q.1, fun _ => ?_, fun q => ?_, fun q => absurd (nself rfl) q.1, fun q => absurd (nself rfl) q.1⟩
          · rw [nI_s]; exact ih2 y
          · rcases q with q | q | q | q <;> exact absurd (nself rfl) q.1
      · exact vM_brief_64 ⟨fun _ => by rw [nI_s]; exact ih _, fun q => absurd (nself rfl) q.1⟩
    have nq := nge (c := 63) (i := s) (n := 63) rfl (by decide) hs
    exact vM_brief_21 ⟨fun q => absurd q.1 nq, fun q => absurd q.1 nq, fun _ => sM_countOf (vM_brief_31 (sM_countOf (vM_brief_35 ⟨fun _ => vM_brief_54 (vM_brief_59 (loop 1)), fun _ => sM_countOf (vM_brief_42 (sM_countOf (vM_brief_46 ⟨fun _ => vM_brief_59 (loop 0), fun _ => vM_brief_54 (vM_brief_59 (loop 1))⟩)))⟩)))⟩
  · exact vM_brief_21 ⟨fun _ => h _ _ f1, fun _ => sM_countOf (vM_brief_191 (h _ _ f1)), fun q => absurd (nself rfl) q⟩
theorem tM_count {w : Int32} {K : Int32 → Mm → Prop} (j : JW M W) (h : ∀ r, K r M) : CI mM_count [.ref 6027, .int w] M K := by
  obtain ⟨hm, hW, hW2, hw⟩ := j
  refine call_of rfl (Nat.le_of_ble_eq_true rfl) rfl (vM_count_0 ?_)
  have key := lp W (P := fun i => ∀ x, X mM_count 4 [(0, .ref 6027), (1, .int w), (2, .int x), (3, .int (nI i))] [] M (mC mM_count, mS mM_count) (QI K)) (fun i hi ih x => ?_) (fun x => ?_)
  · exact key 0
  · have nW : ¬ gi M 6027 0 ≤ nI i := by rw [hW]; exact nge rfl (by omega) hi
    exact vM_count_4 rfl ⟨fun q => absurd q nW, fun _ => sM_of (k := 0) hm (by omega) rfl (by decide) (vM_count_19 (by rw [nI_s]; exact ih _))⟩
  · refine vM_count_4 rfl ⟨fun _ => sM_in (l := 10) (m := 17) rfl rfl (fun q => vM_count_47 rfl (mr2 hm) (mr40 hm) (mr41 hm) ⟨fun q => absurd rfl q, fun _ => ⟨fun _ => h _, fun _ => h _, fun _ => sM_countOf (vM_count_110 (h _)), fun _ => h _, fun _ => h _, fun _ => h _⟩, fun q => absurd rfl q⟩) (fun q1 q2 => vM_count_47 rfl (mr2 hm) (mr40 hm) (mr41 hm) ⟨fun _ => ?_, fun q => absurd q (by decide), fun _ => h _⟩), fun q => absurd (by rw [hW]; exact nself rfl) q⟩
    obtain ⟨i, hi, rfl⟩ := rngL (c := 17) (n := 17) rfl (by decide) (fun q => q1 (Int32.lt_trans q (by decide))) q2
    have h10 : 10 ≤ i := by
      have : ¬ nI i < nI 10 := q1
      rw [nlt (by decide) (by omega)] at this
      omega
    have ix : ∀ i, i < 18 → 10 ≤ i → ¬ (nI i - 10 < 0 ∨ 8 ≤ (nI i - 10).toNatClampNeg) := by decide +kernel
    exact ix i (by omega) h10
theorem tM_fault {K : Int32 → Mm → Prop} (h : K (gi M 6027 16) M) : CI mM_fault [.ref 6027] M K := call_of rfl (Nat.le_of_ble_eq_true rfl) rfl (vM_fault_0 rfl h)
def mBring (M : Mm) (b : Int32) : Int32 := if ¬ b < 0 ∧ ¬ 255 < b then gi M 6027 9 else -1
theorem tM_bring {b : Int32} {K : Int32 → Mm → Prop} (h : K (mBring M b) (if ¬ b < 0 ∧ ¬ 255 < b then si M 6027 9 b else M)) : CI mM_bring [.ref 6027, .int b] M K := by
  refine call_of rfl (Nat.le_of_ble_eq_true rfl) rfl (vM_bring_0 (sM_in (l := 0) (m := 255) rfl rfl (fun q => vM_bring_9 rfl ⟨fun q => absurd rfl q, fun _ => ?_⟩) (fun q1 q2 => vM_bring_9 rfl ⟨fun _ => ?_, fun q => absurd q (by decide)⟩)))
  · have n : ¬ (¬ b < 0 ∧ ¬ 255 < b) := fun p => q.elim p.1 p.2
    rwa [mBring, if_neg n, if_neg n] at h
  · rwa [mBring, if_pos ⟨q1, q2⟩, if_pos ⟨q1, q2⟩] at h
theorem tM_end {n : Int32} {K : Int32 → Mm → Prop} (h0 : (n < 0 ∨ gi M 6027 11 < n) → K (-1) M) (h1 : ¬ n < 0 → ¬ gi M 6027 11 < n → K (gi M 6027 11) (si M 6027 11 n)) : CI mM_end [.ref 6027, .int n] M K :=
  call_of rfl (Nat.le_of_ble_eq_true rfl) rfl (vM_end_0 rfl (sM_in (l := 0) (m := gi M 6027 11) rfl rfl (fun q => vM_end_11 rfl ⟨fun q => absurd rfl q, fun _ => h0 q⟩) (fun q1 q2 => vM_end_11 rfl ⟨fun _ => h1 q1 q2, fun q => absurd q (by decide)⟩)))
end GM9
end MG17
