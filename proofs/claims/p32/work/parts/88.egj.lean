section MG93
/-! ===== any rule, any books: the same on both sides; differ ===== -/
section EW5
variable {A B M N O : Mm} {L P R S U D W t : Nat} {G : Nat → Nat → Int32}
/-- what is held depends on the library, the rule and what counts -/
theorem hvs_eq (h : ∀ o, o < 2304 → gi B (L + o) = gi A (L + o)) (ws fw : Int32) : ∀ k, hvs B L ws fw k = hvs A L ws fw k
  | 0 => rfl
  | k + 1 => by rw [hvs, hvs, hvs_eq h ws fw k, h 590 (by decide)]
theorem stl_eq (h : ∀ o, o < 2304 → gi B (L + o) = gi A (L + o)) (hr : gi B R = gi A R) (y n fw : Int32) : stl B L R y n fw = stl A L R y n fw := by
  unfold stl; rw [hvs_eq h, hr]
theorem opn_eq (h : ∀ o, o < 2304 → gi B (L + o) = gi A (L + o)) (hr : gi B R = gi A R) (h2 : gi B 5192 2 = gi A 5192 2) (d c : Nat) : opn B L R d c = opn A L R d c := by
  unfold opn his; rw [stl_eq h hr, h 460 (by decide), h 205 (by decide), h 269 (by decide), h2]
theorem heC_eq (h : ∀ o, o < 2304 → gi B (L + o) = gi A (L + o)) (hr : gi B R = gi A R) (h2 : gi B 5192 2 = gi A 5192 2) (c : Nat) : heC B L R c = heC A L R c := by
  have l : lwI B L R c = lwI A L R c := by unfold lwI; rw [h 397 (by decide), h 333 (by decide), hr]
  rw [heC_h, heC_h, l, hr]
  exact hof_cg (fun d _ => opn_eq h hr h2 d c)
theorem ctg_eq {b : Int32} (h : ∀ o, o < 2304 → gi B (L + o) = gi A (L + o)) (hr : gi B R = gi A R) : ctg B L R b = ctg A L R b := by
  have m : ∀ k, mwd B L R k = mwd A L R k := by
    intro k
    induction k with
    | zero => rfl
    | succ k ih => rw [mwd, mwd, ih, hr, h 460 (by decide)]
  have c : ∀ k, cto B L R b k = cto A L R b k := by
    intro k
    induction k with
    | zero => exact m 8
    | succ k ih => rw [cto, cto, ih, hr, h 140 (by decide), h 524 (by decide)]
  have h0 : gi B L = gi A L := h 0 (by decide)
  unfold ctg
  rw [c 8, h0, hr]
theorem heC_bg {b : Int32} (hL : LA L) (hR : RA R) (f : CQ M O) (c : Nat) : heC (bgn O L R b) L R c = heC (bgn M L R b) L R c := by
  unfold LA at hL
  unfold RA at hR
  have h : ∀ o, o < 2304 → gi O (L + o) = gi M (L + o) := fun o ho => f.2.2 _ (by omega)
  have hr : gi O R = gi M R := f.2.2 _ (by omega)
  refine heC_eq (fun o ho => ?_) ?_ ?_ c
  · rw [gi_bgn _ _ _ _ (by omega), gi_bgn _ _ _ _ (by omega)]; exact h o ho
  · rw [gi_bgn _ _ _ _ (by omega), gi_bgn _ _ _ _ (by omega)]; exact hr
  · rw [gi_bgn2, gi_bgn2]; exact ctg_eq h hr
theorem csO_bl (A : Mm) (L R : Nat) (v : Int32) : ∀ k, k ≤ 64 → BL (csO A L R v k) (fun c => decide (csK A L R v c = v)) k
  | 0, _ => bl_0 _
  | k + 1, hk => by
    rw [csO]
    by_cases q : csK A L R v k = v
    · rw [if_pos q]; exact bl_y (csO_bl A L R v k (by omega)) (by omega) (decide_eq_true q)
    · rw [if_neg q]; exact bl_z (csO_bl A L R v k (by omega)) (decide_eq_false q)
theorem csO_y {c : Nat} (hc : c < 64) : lb (csO A L R 0 64) c = decide (heC A L R c = 1) := by
  rw [bl_e (csO_bl A L R 0 64 (Nat.le_refl _)) hc]
  show decide (csK A L R 0 c = 0) = _
  unfold csK
  rw [if_pos (by decide)]
  by_cases q : heC A L R c = 1
  · rw [if_pos q, decide_eq_true q]; rfl
  · rw [if_neg q, decide_eq_false q]
    by_cases z : heC A L R c = 0
    · rw [if_pos z]; rfl
    · rw [if_neg z]; rfl
theorem csO_n {c : Nat} (hc : c < 64) : lb (csO A L R 1 64) c = decide (heC A L R c = 0) := by
  rw [bl_e (csO_bl A L R 1 64 (Nat.le_refl _)) hc]
  show decide (csK A L R 1 c = 1) = _
  unfold csK
  rw [if_pos (by decide)]
  by_cases q : heC A L R c = 1
  · rw [if_pos q, q]; rfl
  · rw [if_neg q]
    by_cases z : heC A L R c = 0
    · rw [if_pos z, z]; rfl
    · rw [if_neg z, decide_eq_false z]; rfl
theorem rhe_3 (m : CMP A N L R W G) (hW : W ≤ 24) (hh : HD N) {c : Nat} (hc : c < 64) : rhe N W c = 1 ∨ rhe N W c = 0 ∨ rhe N W c = -4 := by
  rw [← hev_eo hh hc]; exact hev_3 m hW hh hc
end EW5
end MG93
section MG94
/-! ===== brief: the same on both sides ===== -/
theorem an_64 : ∀ a, a < 64 → ∀ b, b < 64 → (nI a &&& nI b) = nI (a &&& b) := by decide +kernel
theorem xo_64 : ∀ a, a < 64 → ∀ b, b < 64 → (nI a ^^^ nI b) = nI (a ^^^ b) := by decide +kernel
theorem co_63 : ∀ x, x < 64 → ¬ co (nI 63) 32 < co (nI x) 32 := by decide +kernel
theorem co_63' : ∀ x, x < 63 → ¬ co (nI x) 32 = co (nI 63) 32 := by decide +kernel
theorem xa_n {c e k : Nat} : (c ^^^ e) &&& k = 0 ↔ c &&& k = e &&& k := by
  constructor
  · intro h
    refine Nat.eq_of_testBit_eq (fun j => ?_)
    have : ((c ^^^ e) &&& k).testBit j = false := by rw [h, Nat.zero_testBit]
    rw [Nat.testBit_and, Nat.testBit_xor] at this
    rw [Nat.testBit_and, Nat.testBit_and]
    revert this
    cases c.testBit j <;> cases e.testBit j <;> cases k.testBit j <;> decide
  · intro h
    refine Nat.eq_of_testBit_eq (fun j => ?_)
    have : (c &&& k).testBit j = (e &&& k).testBit j := by rw [h]
    rw [Nat.testBit_and, Nat.testBit_and] at this
    rw [Nat.testBit_and, Nat.testBit_xor, Nat.zero_testBit]
    revert this
    cases c.testBit j <;> cases e.testBit j <;> cases k.testBit j <;> decide
theorem lu_b (y : Int64) {k : Nat} (hk : k < 64) : ((lushr y (nI k)) &&& 1) = 1 ↔ lb y k = true := by
  rw [l_a1, lbn, tL_ushr y hk, Nat.testBit_div_two_pow, Nat.zero_add, ← lbn]
/-- no yes and no no alike in the marks -/
def TA (y n : Int64) (m : Nat) : Prop := ∀ c, c < 64 → ∀ e, e < 64 → lb y c = true → lb n e = true → ¬ c &&& m = e &&& m
/-- the sets of marks met by the first k cases -/
def MK (u y : Int64) (m k : Nat) : Prop := ∀ j, j < 64 → (lb u j = true ↔ ∃ c, c < k ∧ lb y c = true ∧ c &&& m = j)
theorem mk_0 (y : Int64) (m : Nat) : MK 0 y m 0 := fun j _ => ⟨fun z => absurd ((l_0 j).symm.trans z) (by decide), fun ⟨c, z, _⟩ => absurd z (by omega)⟩
theorem mk_s {u y : Int64} {m k : Nat} (hm : m < 64) (hk : k < 64) (h : MK u y m k) : MK (u ||| (if ((lushr y (nI k)) &&& 1) = 1 then ((1 : Int64) <<< (((nI k &&& nI m)).toInt64 &&& 63)) else 0)) y m (k + 1) := fun j hj => by
  have lm : k &&& m < 64 := Nat.lt_of_le_of_lt Nat.and_le_left hk
  rw [an_64 k hk m hm, l_or, Bool.or_eq_true, h j hj]
  by_cases q : lb y k = true
  · rw [if_pos ((lu_b y hk).mpr q), l_one _ lm j hj, decide_eq_true_eq]
    constructor
    · rintro (⟨c, a, b⟩ | rfl)
      · exact ⟨c, by omega, b⟩
      · exact ⟨k, by omega, q, rfl⟩
    · rintro ⟨c, a, b, e⟩
      by_cases z : c = k
      · subst z; exact Or.inr e.symm
      · exact Or.inl ⟨c, by omega, b, e⟩
  · rw [if_neg (fun z => q ((lu_b y hk).mp z)), l_0]
    constructor
    · rintro (⟨c, a, b⟩ | z)
      · exact ⟨c, by omega, b⟩
      · exact absurd z (by decide)
    · rintro ⟨c, a, b, e⟩
      by_cases z : c = k
      · subst z; exact absurd b q
      · exact Or.inl ⟨c, by omega, b, e⟩
theorem mk_e {u v y n : Int64} {m : Nat} (hu : MK u y m 64) (hv : MK v n m 64) : (u &&& v) = 0 ↔ TA y n m := by
  constructor
  · intro h c hc e he a b x
    have lm : c &&& m < 64 := Nat.lt_of_le_of_lt Nat.and_le_left hc
    have p1 := (hu _ lm).mpr ⟨c, hc, a, rfl⟩
    have p2 := (hv _ lm).mpr ⟨e, he, b, x.symm⟩
    have := l_and u v (c &&& m)
    rw [h, l_0, p1, p2] at this
    exact absurd this (by decide)
  · intro h
    refine l_ext (fun j hj => ?_)
    rw [l_and, l_0]
    cases p1 : lb u j
    · rfl
    · cases p2 : lb v j
      · rfl
      · obtain ⟨c, hc, a, x⟩ := (hu j hj).mp p1
        obtain ⟨e, he, b, x'⟩ := (hv j hj).mp p2
        exact absurd (x.trans x'.symm) (h c hc e he a b)
theorem eC_tellsApart {M : Mm} {m : Nat} {y n : Int64} {K : Int32 → Mm → Prop} (hm : m < 64) (h0 : ¬ TA y n m → K 0 M) (h1 : TA y n m → K 1 M) : CI mC_tellsApart [.int (nI m), .long y, .long n] M K := by
  refine call_of rfl (Nat.le_of_ble_eq_true rfl) rfl (vC_tellsApart_0 ?_)
  refine lp 64 (P := fun k => ∀ u v, MK u y m k → MK v n m k → X mC_tellsApart 9 [(0, .int (nI m)), (1, .long y), (3, .long n), (5, .long u), (7, .long v), (9, .int (nI k))] [] M (mC mC_tellsApart, mS mC_tellsApart) (QI K)) (fun k hk ih u v hu hv => ?_) (fun u v hu hv => ?_) 0 0 (mk_0 y m) (mk_0 n m)
  · have nk := nge (c := 64) (i := k) (n := 64) rfl (by decide) hk
    refine vC_tellsApart_9 ⟨fun q => absurd q.1 nk, fun q => absurd q.1 nk, fun _ => ?_⟩
    rw [nI_s]; exact ih _ _ (mk_s hm hk hu) (mk_s hm hk hv)
  · exact vC_tellsApart_9 ⟨fun q => h0 (fun z => q.2 ((mk_e hu hv).mpr z)), fun q => h1 ((mk_e hu hv).mp q.2), fun q => absurd (nself rfl) q⟩
/-- the briefest of the first k sets of marks -/
def brs (T : Nat → Bool) : Nat → Nat
  | 0 => 63
  | k + 1 => if co (nI k) 32 < co (nI (brs T k)) 32 ∧ T k = true then k else brs T k
theorem brs_in (T : Nat → Bool) : ∀ k, brs T k = 63 ∨ brs T k < k
  | 0 => Or.inl rfl
  | k + 1 => by
    rw [brs]
    split
    · exact Or.inr (by omega)
    · rcases brs_in T k with h | h
      · exact Or.inl h
      · exact Or.inr (by omega)
theorem brs_63 (T : Nat → Bool) : brs T 64 = brs T 63 := by
  rw [show (64 : Nat) = 63 + 1 from rfl, brs, if_neg]
  rintro ⟨z, -⟩
  refine co_63 _ ?_ z
  rcases brs_in T 63 with h | h <;> omega
/-- cases alike in the marks have the same answer, the reference's way -/
def TR (H : Nat → Int32) (s : Nat) : Prop := ∀ c, c < 64 → ∀ e, e < c → ((nI c ^^^ nI e) &&& nI s) = 0 → ¬ H c = -4 → ¬ H e = -4 → H c = H e
theorem tr_ta {H : Nat → Int32} {y n : Int64} {s : Nat} (hs : s < 64) (h3 : ∀ c, c < 64 → H c = 1 ∨ H c = 0 ∨ H c = -4) (hy : ∀ c, c < 64 → lb y c = decide (H c = 1)) (hn : ∀ c, c < 64 → lb n c = decide (H c = 0)) : TA y n s ↔ TR H s := by
  have al : ∀ c, c < 64 → ∀ e, e < 64 → (((nI c ^^^ nI e) &&& nI s) = 0 ↔ c &&& s = e &&& s) := fun c hc e he => by
    have l1 : c ^^^ e < 64 := Nat.xor_lt_two_pow (n := 6) hc he
    have l2 : (c ^^^ e) &&& s < 64 := Nat.lt_of_le_of_lt Nat.and_le_left l1
    rw [xo_64 c hc e he, an_64 _ l1 s hs, show (0 : Int32) = nI 0 from rfl, ninj (by omega) (by decide)]
    exact xa_n
  constructor
  · intro h c hc e he x p q
    have he' : e < 64 := by omega
    rw [al c hc e he'] at x
    rcases h3 c hc with a | a | a
    · rcases h3 e he' with b | b | b
      · rw [a, b]
      · exact absurd x (h c hc e he' (by rw [hy c hc, a]; rfl) (by rw [hn e he', b]; rfl))
      · exact absurd b q
    · rcases h3 e he' with b | b | b
      · exact absurd x.symm (h e he' c hc (by rw [hy e he', b]; rfl) (by rw [hn c hc, a]; rfl))
      · rw [a, b]
      · exact absurd b q
    · exact absurd a p
  · intro h c hc e he a b x
    rw [hy c hc, decide_eq_true_eq] at a
    rw [hn e he, decide_eq_true_eq] at b
    have ne : ¬ c = e := fun z => by
      rw [z, b] at a; exact absurd a (by decide)
    by_cases l : e < c
    · have := h c hc e l ((al c hc e he).mpr x) (by rw [a]; decide) (by rw [b]; decide)
      rw [a, b] at this; exact absurd this (by decide)
    · have := h e he c (by omega) ((al e he c hc).mpr x.symm) (by rw [b]; decide) (by rw [a]; decide)
      rw [a, b] at this; exact absurd this (by decide)
section EW6
variable {M N : Mm} {L P R S U D W t : Nat} {G : Nat → Nat → Int32}
def mBrief (T : Nat → Bool) (w : Int32) : Int32 := if isE w = true then (if w = 0 then co (nI (brs T 63)) 32 else nI (brs T 63)) else -1
theorem uM_brief {w : Int32} {K : Int32 → Mm → Prop} {T : Nat → Bool} (j : JW M W) (hh : HD M) (hT : ∀ s, s < 63 → (T s = true ↔ TR (rhe M W) s)) (h : ∀ N, QF W M N → K (mBrief T w) N) : CI mM_brief [.ref 6027, .int w] M K := by
  refine call_of rfl (Nat.le_of_ble_eq_true rfl) rfl (vM_brief_0 (sM_inE (fun q => vM_brief_7 rfl ⟨fun q => absurd rfl q, fun _ => ?_⟩) (fun ew => vM_brief_7 rfl ⟨fun _ => tM_findAll j hh (fun N f hf _ => vM_brief_16 ?_), fun q => absurd q (by decide)⟩)))
  · have := h M (qf_rf W M)
    rw [mBrief, q, if_neg (by decide)] at this
    exact this
  have hm := mr_w j.1 f.2.1
  have f1 : QF W M N := qf_af f
  have H1 : ∀ c, c < 64 → gi N 7182 c = rhe M W c := fun c hc => by rw [(hf c hc).2.2.2, hev_eo hh hc]
  have fin := h N f1
  rw [mBrief, yE ew, if_pos (show true = true from rfl)] at fin
  have key := lp 63 (P := fun s => X mM_brief 21 [(0, .ref 6027), (1, .int w), (2, .int (nI (brs T s))), (3, .int (nI s))] [] N (mC mM_brief, mS mM_brief) (QI K)) (fun s hs ih => ?_) ?_
  · exact key
  · -- one set of marks
    have bx : brs T s = 63 ∨ brs T s < s := brs_in T s
    have loop : ∀ y, (y = 0 ∨ y = 1) → (y = 1 ↔ co (nI s) 32 < co (nI (brs T s)) 32) → X mM_brief 64 [(0, .ref 6027), (1, .int w), (2, .int (nI (brs T s))), (3, .int (nI s)), (4, .int y), (5, .int 0)] [] N (mC mM_brief, mS mM_brief) (QI K) := by
      have ende : ∀ y : Int32, (y = 0 ∨ y = 1) → (y = 1 ↔ co (nI s) 32 < co (nI (brs T s)) 32 ∧ TR (rhe M W) s) → X mM_brief 21 [(0, .ref 6027), (1, .int w), (2, .int (if y = 0 then nI (brs T s) else nI s)), (3, .int (nI s + 1))] [] N (mC mM_brief, mS mM_brief) (QI K) := by
        intro y hy hi
        rw [nI_s]
        have : (if y = 0 then nI (brs T s) else nI s) = nI (brs T (s + 1)) := by
          rw [brs]
          rcases hy with rfl | rfl
          · rw [if_pos rfl, if_neg]
            rintro ⟨a, b⟩
            have := hi.mpr ⟨a, (hT s hs).mp b⟩
            exact absurd this (by decide)
          · obtain ⟨a, b⟩ := hi.mp rfl
            rw [if_neg (by decide), if_pos ⟨a, (hT s hs).mpr b⟩]
        rw [this]; exact ih
      have k2 := lp 64 (P := fun c => ∀ y, (y = 0 ∨ y = 1) → (y = 1 ↔ co (nI s) 32 < co (nI (brs T s)) 32 ∧ ∀ c', c' < c → ∀ e, e < c' → ((nI c' ^^^ nI e) &&& nI s) = 0 → ¬ rhe M W c' = -4 → ¬ rhe M W e = -4 → rhe M W c' = rhe M W e) → X mM_brief 64 [(0, .ref 6027), (1, .int w), (2, .int (nI (brs T s))), (3, .int (nI s)), (4, .int y), (5, .int (nI c))] [] N (mC mM_brief, mS mM_brief) (QI K)) (fun c hc ih2 y hy hi => ?_) (fun y hy hi => ?_)
      · intro y hy hi
        exact k2 y hy (hi.trans ⟨fun z => ⟨z, fun c' hc' => absurd hc' (by omega)⟩, fun z => z.1⟩)
      · refine vM_brief_64 ⟨fun q => ?_, fun q => ?_⟩
        · have y0 : y = 0 := by
            rcases q with q | q
            · exact absurd q (nge rfl (by decide) hc)
            · exact q.2
          refine ende y hy ?_
          rw [y0] at hi ⊢
          refine ⟨fun z => absurd z (by decide), fun z => ?_⟩
          exact absurd (hi.mpr ⟨z.1, fun c' hc' => z.2 c' (by omega)⟩) (by decide)
        · have y1 : y = 1 := hy.resolve_left q.2
          have k3 := lp c (P := fun e => ∀ y, (y = 0 ∨ y = 1) → (y = 1 ↔ (co (nI s) 32 < co (nI (brs T s)) 32 ∧ ∀ c', c' < c → ∀ e, e < c' → ((nI c' ^^^ nI e) &&& nI s) = 0 → ¬ rhe M W c' = -4 → ¬ rhe M W e = -4 → rhe M W c' = rhe M W e) ∧ ∀ e', e' < e → ((nI c ^^^ nI e') &&& nI s) = 0 → ¬ rhe M W c = -4 → ¬ rhe M W e' = -4 → rhe M W c = rhe M W e') → X mM_brief 79 [(0, .ref 6027), (1, .int w), (2, .int (nI (brs T s))), (3, .int (nI s)), (4, .int y), (5, .int (nI c)), (6, .int (nI e))] [] N (mC mM_brief, mS mM_brief) (QI K)) (fun e he ih3 y hy hi => ?_) (fun y hy hi => ?_)
          · exact k3 y hy (hi.trans ⟨fun z => ⟨z, fun e' he' => absurd he' (by omega)⟩, fun z => z.1⟩)
          · have he2 : e < 64 := by omega
            have cc : (nI c).toNatClampNeg = c := ncl (by omega)
            have ce : (nI e).toNatClampNeg = e := ncl (by omega)
            have go : ∀ z, (z = 0 ∨ z = 1) → (z = 1 ↔ y = 1 ∧ (((nI c ^^^ nI e) &&& nI s) = 0 → ¬ rhe M W c = -4 → ¬ rhe M W e = -4 → rhe M W c = rhe M W e)) → X mM_brief 152 [(0, .ref 6027), (1, .int w), (2, .int (nI (brs T s))), (3, .int (nI s)), (5, .int (nI c)), (6, .int (nI e))] [.int z] N (mC mM_brief, mS mM_brief) (QI K) := fun z hz hzi => vM_brief_152 (by
              rw [nI_s]
              refine ih3 z hz (hzi.trans ?_)
              rw [hi]
              constructor
              · rintro ⟨⟨a, b⟩, x⟩
                refine ⟨a, fun e' he' => ?_⟩
                by_cases ee : e' = e
                · subst ee; exact x
                · exact b e' (by omega)
              · rintro ⟨a, b⟩
                exact ⟨⟨a, fun e' he' => b e' (by omega)⟩, b e (by omega)⟩)
            refine vM_brief_79 rfl (mr30 hm) ⟨fun _ => vin hc (by decide), fun _ => vin he2 (by decide), fun _ => vin hc (by decide), fun _ => vin he2 (by decide), fun q => absurd q (nge rfl (by omega) he), fun q => ?_, fun q => ?_, fun q => ?_⟩
            · rw [cc, ce, H1 c hc, H1 e he2] at q
              refine go y hy ⟨fun z => ⟨z, fun a b x => ?_⟩, fun z => z.1⟩
              exfalso
              rcases q with q | q | q | q
              · rw [z] at q; exact absurd q.2 (by decide)
              · exact q.2.2 a
              · exact b q.2.2.2
              · exact x q.2.2.2.2
            · rw [cc, ce, H1 c hc, H1 e he2] at q
              exact go 0 (Or.inl rfl) ⟨fun z => absurd z (by decide), fun z => absurd (z.2 q.2.2.1 q.2.2.2.1 q.2.2.2.2.1) q.2.2.2.2.2⟩
            · rw [cc, ce, H1 c hc, H1 e he2] at q
              exact go 1 (Or.inr rfl) ⟨fun _ => ⟨hy.resolve_left q.2.1, fun _ _ _ => q.2.2.2.2.2⟩, fun _ => rfl⟩
          · refine vM_brief_79 rfl (mr30 hm) ⟨fun q => absurd (nself rfl) q.1, fun q => absurd (nself rfl) q.1, fun q => absurd (nself rfl) q.1, fun q => absurd (nself rfl) q.1, fun _ => ?_, fun q => ?_, fun q => absurd (nself rfl) q.1, fun q => absurd (nself rfl) q.1⟩
            · rw [nI_s]
              refine ih2 y hy (hi.trans ?_)
              constructor
              · rintro ⟨⟨a, b⟩, x⟩
                refine ⟨a, fun c' hc' => ?_⟩
                by_cases ee : c' = c
                · subst ee; exact x
                · exact b c' (by omega)
              · rintro ⟨a, b⟩
                exact ⟨⟨a, fun c' hc' => b c' (by omega)⟩, b c (by omega)⟩
            · rcases q with q | q | q | q <;> exact absurd (nself rfl) q.1
      · exact vM_brief_64 ⟨fun _ => ende y hy hi, fun q => absurd (nself rfl) q.1⟩
    have nk := nge (c := 63) (i := s) (n := 63) rfl (by decide) hs
    refine vM_brief_21 ⟨fun q => absurd q.1 nk, fun q => absurd q.1 nk, fun _ => sM_countOf (vM_brief_31 (sM_countOf (vM_brief_35 ⟨fun a => vM_brief_54 (vM_brief_59 (loop 1 (Or.inr rfl) ⟨fun _ => a, fun _ => rfl⟩)), fun a => sM_countOf (vM_brief_42 (sM_countOf (vM_brief_46 ⟨fun _ => vM_brief_59 (loop 0 (Or.inl rfl) ⟨fun z => absurd z (by decide), fun z => absurd z a⟩), fun b => ?_⟩)))⟩)))⟩
    exfalso
    rcases bx with z | z
    · rw [z] at b
      exact co_63' s hs b.1
    · exact b.2 ((nle (by omega) (by omega)).mpr (by omega))
  · exact vM_brief_21 ⟨fun q => by rw [if_neg q.2] at fin; exact fin, fun q => sM_countOf (vM_brief_191 (by rw [if_pos q.2] at fin; exact fin)), fun q => absurd (nself rfl) q⟩
theorem pz_brief {w : Int32} {Z : Int32 → Int32 → Mm → Prop} (i0 : INY M) (h : ∀ r s N, INY N → r = s → Z r s N) : CI mC_brief [.ref 10, .int w] M (fun r N => CI mM_brief [.ref 6027, .int w] N (fun s O => Z r s O)) := by
  obtain ⟨L, P, R, S, U, D, W, t, i, ez⟩ := i0
  have c := i.1.1
  have hW : W ≤ 24 := i.2.1.2.1
  obtain ⟨G, ey⟩ := ez.2
  have key : ∀ N r T, CQ M N → (∀ s, s < 63 → (T s = true ↔ TR (rhe N W) s)) → r = mBrief T w → CI mM_brief [.ref 6027, .int w] N (fun s O => Z r s O) := fun N r T f hT e => uM_brief (iv_cq f i).2.1.1 (iv_cq f i).2.1.2.2.1 hT (fun O g => h _ _ O ⟨L, P, R, S, U, D, W, t, iv_qf g (iv_cq f i), ez_qf g (ez_cq f ez)⟩ e)
  have dT : ∀ N : Mm, ∃ T : Nat → Bool, ∀ s, (T s = true ↔ TR (rhe N W) s) := fun N => ⟨fun s => @decide (TR (rhe N W) s) (Classical.propDecidable _), fun s => @decide_eq_true_iff _ (Classical.propDecidable _)⟩
  refine call_of rfl (Nat.le_of_ble_eq_true rfl) rfl (vC_brief_0 (sC_isEither (fun q1 q2 => vC_brief_4 rfl ⟨fun q => absurd rfl q, fun _ => ?_⟩) (fun ew => vC_brief_4 rfl ⟨fun _ => eC_casesNow c (fun N fN => vC_brief_14 rfl (eC_casesNow (cx_cq fN c) (fun O fO => vC_brief_20 ?_))), fun q => absurd q (by decide)⟩)))
  · obtain ⟨T, hT⟩ := dT M
    exact key M _ T (cq_rf M) (fun s _ => hT s) (by rw [mBrief, nE q1 q2, if_neg (by decide)])
  have f := cq_tr fN fO
  obtain ⟨T, hT⟩ := dT O
  have m := cmp_of i ez.1 ey f
  have iO := iv_cq f i
  have n9 : gi N 10 9 = gi M 10 9 := by rw [fN.2.2 10 (by decide)]
  have hy : ∀ c, c < 64 → lb (csO (bgn M L R (gi M 10 9)) L R 0 64) c = decide (rhe O W c = 1) := fun c hc => by rw [csO_y hc, heC_e m hW hc]
  have hn : ∀ k, k < 64 → lb (csO (bgn N L R (gi N 10 9)) L R 1 64) k = decide (rhe O W k = 0) := fun k hk => by rw [csO_n hk, n9, heC_bg (cxL c) (cxR c) fN, heC_e m hW hk]
  have tt : ∀ s, s < 64 → (T s = true ↔ TA (csO (bgn M L R (gi M 10 9)) L R 0 64) (csO (bgn N L R (gi N 10 9)) L R 1 64) s) := fun s hs => (hT s).trans (tr_ta hs (fun c hc => rhe_3 m hW iO.2.1.2.2.1 hc) hy hn).symm
  generalize csO (bgn M L R (gi M 10 9)) L R 0 64 = y at tt ⊢
  generalize csO (bgn N L R (gi N 10 9)) L R 1 64 = n at tt ⊢
  refine lp 64 (P := fun k => X mC_brief 29 [(1, .int w), (2, .long y), (4, .long n), (6, .int (nI (brs T k))), (7, .int (nI k))] [] O (mC mC_brief, mS mC_brief) (QI (fun r N => CI mM_brief [.ref 6027, .int w] N (fun s O => Z r s O)))) (fun k hk ih => ?_) ?_
  · have nk := nge (c := 64) (i := k) (n := 64) rfl (by decide) hk
    have stay : ¬ (co (nI k) 32 < co (nI (brs T k)) 32 ∧ T k = true) → X mC_brief 29 [(1, .int w), (2, .long y), (4, .long n), (6, .int (nI (brs T k))), (7, .int (nI k + 1))] [] O (mC mC_brief, mS mC_brief) (QI (fun r N => CI mM_brief [.ref 6027, .int w] N (fun s O => Z r s O))) := fun z => by
      rw [brs, if_neg z] at ih
      rw [nI_s]; exact ih
    refine vC_brief_29 ⟨fun q => absurd q.1 nk, fun q => absurd q.1 nk, fun _ => sJi_bitCount (fun r1 e1 => vC_brief_41 (sJi_bitCount (fun r2 e2 => ?_)))⟩
    rw [e1, e2, bc_co, bc_co]
    refine vC_brief_46 ⟨fun a => stay (fun z => absurd a (Int32.not_le.mpr z.1)), fun a => eC_tellsApart hk (fun b => vC_brief_57 ⟨fun _ => stay (fun z => b ((tt k hk).mp z.2)), fun q => absurd rfl q⟩) (fun b => vC_brief_57 ⟨fun q => absurd q (by decide), fun _ => ?_⟩)⟩
    rw [brs, if_pos ⟨Int32.not_le.mp a, (tt k hk).mpr b⟩] at ih
    rw [nI_s]; exact ih
  · rw [brs_63]
    have fin : ∀ r, r = mBrief T w → CI mM_brief [.ref 6027, .int w] O (fun s O => Z r s O) := fun r e => key O r T f (fun s _ => hT s) e
    refine vC_brief_29 ⟨fun q => fin _ ?_, fun q => sJi_bitCount (fun r er => vC_brief_79 (fin _ ?_)), fun q => absurd (nself rfl) q⟩
    · rw [mBrief, yE ew, if_pos (show true = true from rfl), if_neg q.2]
    · rw [mBrief, yE ew, if_pos (show true = true from rfl), if_pos q.2, er, bc_co]
end EW6
end MG94
section MG95
/-! ===== a found word: what a doctor says then, on both sides ===== -/
def bet (W v : Nat) : Nat := if v < W then v else 24
section EX2
variable {A M N S : Mm} {L P R U D W t d m : Nat} {G : Nat → Nat → Int32} {a : Int32}
end EX2
end MG95
