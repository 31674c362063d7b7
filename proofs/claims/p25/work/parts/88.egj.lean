section MG94
/-! ===== argue: the same on both sides ===== -/
theorem co_9 : ∀ s, s < 256 → ¬ (9 : Int32) ≤ co (nI s) 32 := by decide +kernel
theorem n4_256 : ∀ s, s < 256 → ¬ nI s = -4 := by decide +kernel
theorem t_256 : ∀ s, s < 256 → tN (nI s) = s := by decide +kernel
theorem nI_tN (x : Int32) : nI (tN x) = x := by
  refine tN_inj ?_
  show (Int32.ofNat (tN x)).toBitVec.toNat = tN x
  rw [show (Int32.ofNat (tN x)).toBitVec = BitVec.ofNat 32 (tN x) from rfl, BitVec.toNat_ofNat]
  exact Nat.mod_eq_of_lt (tN_lt x)
theorem co_bcn (v : Int32) : ∀ k, k ≤ 32 → co v k = nI (bcn v k)
  | 0, _ => rfl
  | k + 1, hk => by
    rw [co, bcn, co_bcn v k (by omega)]
    by_cases q : bt v k = true
    · rw [if_pos q, (bit1 v (by omega)).mpr q]; exact nI_s _
    · rw [if_neg q, bit0' v (by omega) q, Int32.add_zero]; rfl
/-- a set less by the books that tell nothing -/
theorem sub_t {s : Nat} {t : Int32} (hs : s < 256) (h : ¬ (nI s &&& (t ^^^ (-1))) = 0) : ∃ s', s' < s ∧ nI s' = nI s &&& t ∧ co (nI s') 32 ≤ co (nI s) 32 := by
  have e := nI_tN (nI s &&& t)
  have l : tN (nI s &&& t) ≤ s := by
    rw [tN_and, t_256 s hs]; exact Nat.and_le_left
  have ne : ¬ tN (nI s &&& t) = s := fun z => by
    rw [z] at e
    refine h (b_ext (fun i hi => ?_))
    have b : bt (nI s &&& t) i = bt (nI s) i := by rw [← e]
    rw [b_and] at b
    rw [b_and, b_not t hi, b_0]
    revert b
    cases bt (nI s) i <;> cases bt t i <;> decide
  refine ⟨tN (nI s &&& t), by omega, e, ?_⟩
  rw [e, co_bcn _ 32 (Nat.le_refl _), co_bcn _ 32 (Nat.le_refl _)]
  have m := bcn_mono (x := nI s) (y := nI s &&& t) 32 (fun v _ z => by rw [b_and, Bool.and_eq_true] at z; exact z.1)
  have b1 := bcn_le (nI s &&& t) 32
  have b2 := bcn_le (nI s) 32
  exact (nle (by omega) (by omega)).mpr m
/-- the fewest of the first k sets by which an answer is held -/
def agb (H : Nat → Int32) (a : Int32) : Nat → Int32
  | 0 => -4
  | k + 1 => if (agb H a k = -4 ∨ co (nI k) 32 < co (agb H a k) 32) ∧ H k = a then nI k else agb H a k
theorem agb_cg {H H' : Nat → Int32} {a : Int32} : ∀ k, (∀ s, s < k → H s = H' s) → agb H a k = agb H' a k
  | 0, _ => rfl
  | k + 1, h => by rw [agb, agb, agb_cg k (fun s hs => h s (by omega)), h k (by omega)]
theorem agb_min {H : Nat → Int32} {a : Int32} : ∀ k, k ≤ 256 → ∀ s, s < k → H s = a → ¬ agb H a k = -4 ∧ co (agb H a k) 32 ≤ co (nI s) 32
  | 0, _, s, h, _ => absurd h (by omega)
  | k + 1, hk, s, hs, e => by
    have ih := agb_min (H := H) (a := a) k (by omega)
    rw [agb]
    by_cases q : (agb H a k = -4 ∨ co (nI k) 32 < co (agb H a k) 32) ∧ H k = a
    · rw [if_pos q]
      refine ⟨n4_256 k (by omega), ?_⟩
      by_cases z : s = k
      · rw [z]; exact Int32.le_refl _
      · obtain ⟨i1, i2⟩ := ih s (by omega) e
        rcases q.1 with y | y
        · exact absurd y i1
        · exact Int32.le_of_lt (Int32.lt_of_lt_of_le y i2)
    · rw [if_neg q]
      by_cases z : s = k
      · subst z
        refine ⟨fun y => q ⟨Or.inl y, e⟩, ?_⟩
        exact Int32.not_lt.mp (fun y => q ⟨Or.inr y, e⟩)
      · exact ih s (by omega) e
theorem agb_skip {H : Nat → Int32} {a : Int32} {s s' : Nat} (hs : s < 256) (h1 : s' < s) (h2 : H s' = H s) (h3 : co (nI s') 32 ≤ co (nI s) 32) : agb H a (s + 1) = agb H a s := by
  rw [agb, if_neg]
  rintro ⟨q, e⟩
  obtain ⟨i1, i2⟩ := agb_min (H := H) (a := a) s (by omega) s' h1 (h2.trans e)
  rcases q with y | y
  · exact i1 y
  · exact absurd (Int32.le_trans i2 h3) (Int32.not_le.mpr y)
def agy (b : Int32) : Int32 := if b = -4 then -1 else b
def agz (b : Int32) : Int32 := if b = -4 then 9 else co b 32
section EW9
variable {A M N : Mm} {L P R S U D W t : Nat} {G : Nat → Nat → Int32}
/-- what a telling book is -/
def tlc (M : Mm) (L R d : Nat) : Prop := ¬ gi M (L + 140) d < gi M R 1 ∧ ¬ (gi M (L + 524) d &&& ((mwd M L R 8 ||| gi M L 10) ^^^ (-1))) = 0
theorem eLi_tellingBooks {K : Int32 → Mm → Prop} (hl : LR M L) (hR : R % 64 = 3) (h : ∀ v, (∀ d, d < 8 → (bt v d = true ↔ tlc M L R d)) → K v M) : CI mLi_tellingBooks [.ref L, .ref R] M K := by
  refine call_of rfl (Nat.le_of_ble_eq_true rfl) rfl (vLi_tellingBooks_0 hl.1 (sLi_mainWords hl hR (vLi_tellingBooks_5 hl.1 ?_)))
  refine lp 8 (P := fun k => ∀ y, (∀ d, d < 32 → (bt y d = true ↔ d < k ∧ tlc M L R d)) → X mLi_tellingBooks 18 [(0, .ref L), (1, .ref R), (2, .int ((mwd M L R 8 ||| gi M L 10) ^^^ (-1))), (3, .int y), (4, .int (nI k))] [] M (mC mLi_tellingBooks, mS mLi_tellingBooks) (QI K)) (fun k hk ih y hy => ?_) (fun y hy => ?_) 0 (fun d _ => ⟨fun z => absurd ((b_0 d).symm.trans z) (by decide), fun z => absurd z.1 (by omega)⟩)
  · have nk : ¬ (8 : Int32) ≤ nI k := nge rfl (by decide) hk
    have ck : (nI k).toNatClampNeg = k := ncl (by omega)
    refine vLi_tellingBooks_18 hl.1 hR (lr2 hl) (lr8 hl) ⟨fun _ => vin hk (by decide), fun _ => vin hk (by decide), fun q => absurd q nk, fun q => ?_, fun q => ?_⟩
    · rw [ck] at q
      rw [nI_s]
      refine ih y (fun d hd => (hy d hd).trans ⟨fun z => ⟨by omega, z.2⟩, fun z => ⟨?_, z.2⟩⟩)
      by_cases e : d = k
      · subst e
        exfalso
        rcases q with q | q
        · exact z.2.1 q.2
        · exact z.2.2 q.2.2
      · omega
    · rw [ck] at q
      rw [nI_s]
      refine ih _ (fun d hd => ?_)
      rw [bt_or1 y (by omega) hd, hy d hd]
      constructor
      · rintro (z | rfl)
        · exact ⟨by omega, z.2⟩
        · exact ⟨by omega, q.2⟩
      · rintro ⟨z1, z2⟩
        by_cases e : d = k
        · exact Or.inr e
        · exact Or.inl ⟨by omega, z2⟩
  · have l : (8 : Int32) ≤ nI 8 := nself rfl
    refine vLi_tellingBooks_18 hl.1 hR (lr2 hl) (lr8 hl) ⟨fun q => absurd l q, fun q => absurd l q.1, fun _ => h y (fun d hd => (hy d (by omega)).trans ⟨fun z => z.2, fun z => ⟨hd, z⟩⟩), fun q => ?_, fun q => absurd l q.1⟩
    exfalso
    rcases q with q | q <;> exact q.1 l
theorem ctg_t {b v : Int32} (hv : ∀ d, d < 8 → (bt v d = true ↔ tlc M L R d)) : ctg M L R (b &&& v) = ctg M L R b := by
  unfold ctg
  have key : (cto M L R (b &&& v) 8 &&& (gi M L 10 ^^^ (-1))) = (cto M L R b 8 &&& (gi M L 10 ^^^ (-1))) := by
    refine b_ext (fun x hx => ?_)
    rw [b_and, b_and, b_not _ hx]
    cases lw : bt (gi M L 10) x
    · rw [Bool.not_false, Bool.and_true, Bool.and_true, Bool.eq_iff_iff, cto_b 8 (Nat.le_refl 8) x hx, cto_b 8 (Nat.le_refl 8) x hx]
      constructor
      · rintro (z | ⟨d, h1, h2, h3⟩)
        · exact Or.inl z
        · rw [b_and, Bool.and_eq_true] at h2
          exact Or.inr ⟨d, h1, ⟨h2.1.1, h2.2⟩, h3⟩
      · rintro (z | ⟨d, h1, h2, h3⟩)
        · exact Or.inl z
        · by_cases q : tlc M L R d
          · refine Or.inr ⟨d, h1, ⟨?_, h2.2⟩, h3⟩
            rw [b_and, Bool.and_eq_true]
            exact ⟨h2.1, (hv d h1).mpr q⟩
          · have z : (gi M (L + 524) d &&& ((mwd M L R 8 ||| gi M L 10) ^^^ (-1))) = 0 := by
              by_cases z : (gi M (L + 524) d &&& ((mwd M L R 8 ||| gi M L 10) ^^^ (-1))) = 0
              · exact z
              · exact absurd ⟨h2.2, z⟩ q
            have b0 : bt (gi M (L + 524) d &&& ((mwd M L R 8 ||| gi M L 10) ^^^ (-1))) x = false := by rw [z, b_0]
            rw [b_and, b_not _ hx, b_or, lw, h3, Bool.true_and, Bool.or_false] at b0
            cases y : bt (mwd M L R 8) x
            · rw [y] at b0; exact absurd b0 (by decide)
            · exact Or.inl rfl
    · rw [Bool.not_true, Bool.and_false, Bool.and_false]
  rw [key]
theorem eC_fewestBooks {k : Nat} {a : Int32} {K : Int32 → Mm → Prop} (c : CX M L P R S U) (hk : k < 64) (h : ∀ N, CQ M N → K (agy (agb (fun s => heC (bgn M L R (nI s)) L R k) a 256)) N) : CI mC_fewestBooks [.ref 10, .int (nI k), .int a] M K := by
  refine call_of rfl (Nat.le_of_ble_eq_true rfl) rfl (vC_fewestBooks_0 rfl (cx4 c) (cx6 c) (eLi_tellingBooks (cxlr c) (raM3 (cxR c)) (fun v hv => vC_fewestBooks_11 ?_)))
  have ht : ∀ s, s < 256 → ¬ (nI s &&& (v ^^^ (-1))) = 0 → agb (fun s => heC (bgn M L R (nI s)) L R k) a (s + 1) = agb (fun s => heC (bgn M L R (nI s)) L R k) a s := fun s hs q => by
    obtain ⟨s', h1, h2, h3⟩ := sub_t hs q
    refine agb_skip hs h1 ?_ h3
    show heC (bgn M L R (nI s')) L R k = heC (bgn M L R (nI s)) L R k
    have : bgn M L R (nI s') = bgn M L R (nI s) := by
      unfold bgn
      rw [h2, ctg_t hv]
    rw [this]
  have hb : ∀ N s, CQ M N → heC (bgn N L R (nI s)) L R k = (fun s => heC (bgn M L R (nI s)) L R k) s := fun N s f => heC_bg (cxL c) (cxR c) f k
  generalize (fun s => heC (bgn M L R (nI s)) L R k) = H at h ht hb
  refine lp 256 (P := fun s => ∀ N, CQ M N → X mC_fewestBooks 22 [(0, .ref 10), (1, .int (nI k)), (2, .int a), (3, .int v), (4, .int (agy (agb H a s))), (5, .int (agz (agb H a s))), (6, .int (nI s))] [] N (mC mC_fewestBooks, mS mC_fewestBooks) (QI K)) (fun s hs ih N qN => ?_) (fun N qN => ?_) M (cq_rf M)
  · have ns : ¬ (255 : Int32) < nI s := by rw [show (255 : Int32) = nI 255 from rfl, nlt (by omega) (by decide)]; omega
    have cN := cx_cq qN c
    have stay : ∀ N, CQ M N → agb H a (s + 1) = agb H a s → X mC_fewestBooks 22 [(0, .ref 10), (1, .int (nI k)), (2, .int a), (3, .int v), (4, .int (agy (agb H a s))), (5, .int (agz (agb H a s))), (6, .int (nI s + 1))] [] N (mC mC_fewestBooks, mS mC_fewestBooks) (QI K) := fun N f e => by
      have := ih N f
      rw [e] at this
      rw [nI_s]; exact this
    refine vC_fewestBooks_22 ⟨fun q => absurd q ns, fun q => stay N qN (ht s hs q.2), fun _ => sJi_bitCount (fun r er => ?_)⟩
    rw [er, bc_co]
    have co3 : (agb H a s = -4 ∨ co (nI s) 32 < co (agb H a s) 32) ↔ ¬ agz (agb H a s) ≤ co (nI s) 32 := by
      unfold agz
      by_cases z : agb H a s = -4
      · rw [if_pos z]; exact ⟨fun _ => co_9 s hs, fun _ => Or.inl z⟩
      · rw [if_neg z]
        exact ⟨fun y => Int32.not_le.mpr (y.resolve_left z), fun y => Or.inr (Int32.not_le.mp y)⟩
    refine vC_fewestBooks_44 rfl (cx11 cN) (cx4 cN) (cx6 cN) ⟨fun q => stay N qN ?_, fun q => sWe_begin (cxlr cN) (cxL c) (cxR c) ?_⟩
    · rw [agb, if_neg (fun z => co3.mp z.1 q)]
    · have qB := cq_tr qN (cq_bgn N L R (nI s))
      refine vC_fewestBooks_66 rfl (cx11 (cx_cq qB c)) (eWe_heldIn (cxw cN _) (cxL c) (cxR c) hk (fun O qO _ => ?_))
      rw [hb N s qN]
      have qO' := cq_tr qB (cq_wq qO)
      refine vC_fewestBooks_74 ⟨fun z => stay O qO' ?_, fun z => sJi_bitCount (fun r2 er2 => vC_fewestBooks_87 ?_)⟩
      · rw [agb, if_neg (fun y => z y.2)]
      · have := ih O qO'
        rw [agb, if_pos ⟨co3.mpr q, z⟩] at this
        unfold agy agz at this
        rw [if_neg (n4_256 s hs), if_neg (n4_256 s hs)] at this
        rw [nI_s, er2, bc_co]; exact this
  · have l : (255 : Int32) < nI 256 := by decide
    exact vC_fewestBooks_22 ⟨fun _ => h N qN, fun q => absurd l q.1, fun q => absurd l q.1⟩
def mArgue (M : Mm) (W : Nat) (v a w : Int32) : Int32 := if (isC v && (isE a && isE w)) = true then (if agb (fun s => rhe (si M 6027 9 (nI s)) W v.toNatClampNeg) a 256 = -4 then -4 else if w = 0 then co (agb (fun s => rhe (si M 6027 9 (nI s)) W v.toNatClampNeg) a 256) 32 else agb (fun s => rhe (si M 6027 9 (nI s)) W v.toNatClampNeg) a 256) else -1
theorem uM_argue {v a w : Int32} {K : Int32 → Mm → Prop} (j : JW M W) (hh : HD M) (h : ∀ N, QF W M N → K (mArgue M W v a w) N) : CI mM_argue [.ref 6027, .int v, .int a, .int w] M K := by
  have bad : (isC v && (isE a && isE w)) = false → K (-1) M := fun q => by
    have := h M (qf_rf W M)
    rw [mArgue, q, if_neg (by decide)] at this
    exact this
  refine call_of rfl (Nat.le_of_ble_eq_true rfl) rfl (vM_argue_0 (sM_isCase (fun q => vM_argue_4 ⟨fun _ => bad (by rw [q]; rfl), fun q => absurd rfl q⟩) (fun i hi e => vM_argue_4 ⟨fun q => absurd q (by decide), fun _ => sM_inE (fun q => vM_argue_14 ⟨fun _ => bad (by rw [q, Bool.false_and, Bool.and_false]), fun q => absurd rfl q⟩) (fun qa => vM_argue_14 ⟨fun q => absurd q (by decide), fun _ => sM_inE (fun q => vM_argue_24 rfl ⟨fun q => absurd rfl q, fun _ => bad (by rw [q, Bool.and_false, Bool.and_false])⟩) (fun qw => vM_argue_24 rfl ⟨fun _ => ?_, fun q => absurd q (by decide)⟩)⟩)⟩)))
  subst e
  clear bad
  have hr : ∀ s N, QF W (si M 6027 9 (nI s)) N → rhe N W i = (fun s => rhe (si M 6027 9 (nI s)) W i) s := fun s N f => rhe_sm (qf_sm f) (jw_9 j) i
  have fin : ∀ N, QF W M N → K (if agb (fun s => rhe (si M 6027 9 (nI s)) W i) a 256 = -4 then -4 else if w = 0 then co (agb (fun s => rhe (si M 6027 9 (nI s)) W i) a 256) 32 else agb (fun s => rhe (si M 6027 9 (nI s)) W i) a 256) N := fun N f => by
    have := h N f
    rw [mArgue, yC hi, yE qa, yE qw, if_pos (show (true && (true && true)) = true from rfl), ncl (by omega)] at this
    exact this
  clear h
  generalize (fun s => rhe (si M 6027 9 (nI s)) W i) = H at hr fin
  have key := lp 256 (P := fun s => ∀ N b, QF W (si M 6027 9 b) N → X mM_argue 42 [(0, .ref 6027), (1, .int (nI i)), (2, .int a), (3, .int w), (4, .int (gi M 6027 9)), (5, .int (agb H a s)), (6, .int (nI s))] [] N (mC mM_argue, mS mM_argue) (QI K)) (fun s hs ih N b f => ?_) (fun N b f => ?_)
  · exact key M _ (qf_i9 W M)
  · have b70 : (agb H a s = -4 ∨ co (nI s) 32 < co (agb H a s) 32) → X mM_argue 70 [(0, .ref 6027), (1, .int (nI i)), (2, .int a), (3, .int w), (4, .int (gi M 6027 9)), (5, .int (agb H a s)), (6, .int (nI s))] [] N (mC mM_argue, mS mM_argue) (QI K) := by
      intro q
      have f1 := qf_s9 (c := nI s) f
      have hN := hd_sm (qf_sm f1) (hd_9 hh)
      refine vM_argue_70 rfl (tM_findAll (jw_sm (qf_sm f1) (jw_9 j)) hN (fun N2 g hf _ => ?_))
      have f2 := qf_tr f1 (qf_af g)
      refine vM_argue_80 rfl (mr30 (mr_w j.1 f2.1)) ⟨vin hi (by decide), ?_⟩
      have e : (if gi N2 7182 i = a then nI s else agb H a s) = agb H a (s + 1) := by
        rw [(hf i hi).2.2.2, hev_eo hN hi, hr s _ f1, agb]
        by_cases z : H s = a
        · rw [if_pos z, if_pos ⟨q, z⟩]
        · rw [if_neg z, if_neg (fun y => z y.2)]
      rw [nI_s, ncl (by omega), e]
      exact ih N2 _ f2
    refine vM_argue_42 rfl ⟨fun q => absurd q (nge rfl (by decide) hs), fun q => b70 (Or.inl q.2), fun q => sM_countOf (vM_argue_62 (sM_countOf (vM_argue_67 ⟨fun z => ?_, fun z => b70 (Or.inr (Int32.not_le.mp z))⟩)))⟩
    have := ih N _ f
    rw [agb, if_neg (fun y => by
      rcases y.1 with y | y
      · exact q.2 y
      · exact absurd z (Int32.not_le.mpr y))] at this
    rw [nI_s]; exact this
  · have fn := fin _ (qf_9 f)
    refine vM_argue_42 rfl ⟨fun _ => ⟨fun q => ?_, fun q => sM_countOf (vM_argue_132 ?_), fun q => ?_⟩, fun q => absurd (nself rfl) q.1, fun q => absurd (nself rfl) q.1⟩
    · rw [if_neg q.1, if_neg q.2] at fn; exact fn
    · rw [if_neg q.1, if_pos q.2] at fn; exact fn
    · rw [if_pos q] at fn; exact fn
/-- the reference's memory with other books beside the class's weighing by them -/
theorem cmp_9 {b : Int32} (i : IV M L P R S U D W t) (ez : EZ M L R S D W) (ey : EY M L W G) (f : CQ M N) : CMP (bgn M L R b) (si N 6027 9 b) L R W G := by
  have g : ∀ a, ¬ (a = 5192 ∨ a = 5261 ∨ a = 5392) → gi N a = gi M a := f.2.2
  have o : ∀ a k, a ≠ 6027 → gi (si N 6027 9 b) a k = gi N a k := fun a k h => giR _ _ _ _ _ _ h
  have r3 : ∀ k, gi (si N 6027 9 b) 6543 k = gi M 6543 k := fun k => by rw [o _ _ (by decide), g 6543 (by decide)]
  refine cmp_gen i ez.1 ey i.1.1.2.2.1.2.2.1 (fun w _ k _ => ?_) (fun v _ => ?_) ?_ (fun k _ => ?_) (fun k hk => ?_) ?_ (jw_9 (iv_cq f i).2.1.1) ?_
  · unfold wd; rw [o _ _ (by decide), g 6101 (by decide)]
  · show gl N 6874 v = _ ∧ gl N 6938 v = _
    rw [f.1]; exact ⟨rfl, rfl⟩
  · rw [gi_si, if_neg (by decide), g 6027 (by decide)]
  · rw [o _ _ (by decide), g 6157 (by decide)]
  · rw [r3]; exact (ez.1.2.2.2.1 k hk).symm
  · rw [gi_si, if_pos ⟨rfl, rfl⟩]
  · rw [r3, r3, r3]; exact ey.2.2.2.2.2.2.2.1
theorem pz_argue {v a w : Int32} {Z : Int32 → Int32 → Mm → Prop} (i0 : INY M) (h : ∀ r s N, INY N → r = s → Z r s N) : CI mC_argue [.ref 10, .int v, .int a, .int w] M (fun r N => CI mM_argue [.ref 6027, .int v, .int a, .int w] N (fun s O => Z r s O)) := by
  obtain ⟨L, P, R, S, U, D, W, t, i, ez⟩ := i0
  have c := i.1.1
  have hW : W ≤ 24 := i.2.1.2.1
  obtain ⟨G, ey⟩ := ez.2
  have key : ∀ N r, CQ M N → r = mArgue N W v a w → CI mM_argue [.ref 6027, .int v, .int a, .int w] N (fun s O => Z r s O) := fun N r f e => uM_argue (iv_cq f i).2.1.1 (iv_cq f i).2.1.2.2.1 (fun O g => h _ _ O ⟨L, P, R, S, U, D, W, t, iv_qf g (iv_cq f i), ez_qf g (ez_cq f ez)⟩ e)
  have bad : (isC v && (isE a && isE w)) = false → CI mM_argue [.ref 6027, .int v, .int a, .int w] M (fun s O => Z (-1) s O) := fun q => key M _ (cq_rf M) (by rw [mArgue, q, if_neg (by decide)])
  refine call_of rfl (Nat.le_of_ble_eq_true rfl) rfl (vC_argue_0 (sC_isCase (fun q => vC_argue_4 ⟨fun _ => bad (by rw [nC q]; rfl), fun q => absurd rfl q⟩) (fun j hj ej => vC_argue_4 ⟨fun q => absurd q (by decide), fun _ => sC_isEither (fun q1 q2 => vC_argue_11 ⟨fun _ => bad (by rw [nE q1 q2, Bool.false_and, Bool.and_false]), fun q => absurd rfl q⟩) (fun ea => vC_argue_11 ⟨fun q => absurd q (by decide), fun _ => sC_isEither (fun q1 q2 => vC_argue_18 rfl ⟨fun q => absurd rfl q, fun _ => bad (by rw [nE q1 q2, Bool.and_false, Bool.and_false])⟩) (fun ew => vC_argue_18 rfl ⟨fun _ => ?_, fun q => absurd q (by decide)⟩)⟩)⟩)))
  subst ej
  clear bad
  refine eC_fewestBooks c hj (fun N fN => ?_)
  have e : agb (fun s => heC (bgn M L R (nI s)) L R j) a 256 = agb (fun s => rhe (si N 6027 9 (nI s)) W j) a 256 := agb_cg 256 (fun s _ => heC_e (cmp_9 i ez ey fN) hW hj)
  have ke : ∀ r, r = (if agb (fun s => rhe (si N 6027 9 (nI s)) W j) a 256 = -4 then -4 else if w = 0 then co (agb (fun s => rhe (si N 6027 9 (nI s)) W j) a 256) 32 else agb (fun s => rhe (si N 6027 9 (nI s)) W j) a 256) → CI mM_argue [.ref 6027, .int (nI j), .int a, .int w] N (fun s O => Z r s O) := fun r er => key N r fN (by rw [mArgue, yC hj, yE ea, yE ew, if_pos (show (true && (true && true)) = true from rfl), ncl (by omega)]; exact er)
  rw [e]
  have ain : ∀ k, k ≤ 256 → agb (fun s => rhe (si N 6027 9 (nI s)) W j) a k = -4 ∨ ∃ o, o < 256 ∧ agb (fun s => rhe (si N 6027 9 (nI s)) W j) a k = nI o := by
    intro k
    induction k with
    | zero => intro _; exact Or.inl rfl
    | succ k ih =>
      intro hk
      rw [agb]
      split
      · exact Or.inr ⟨k, by omega, rfl⟩
      · exact ih (by omega)
  have ai := ain 256 (Nat.le_refl _)
  generalize agb (fun s => rhe (si N 6027 9 (nI s)) W j) a 256 = x at ke ai ⊢
  unfold agy
  rcases ai with z | ⟨o, ho, z⟩
  · rw [if_pos z]
    rw [if_pos z] at ke
    exact vC_argue_29 ⟨fun q => absurd q.1 (by decide), fun q => absurd q.1 (by decide), fun _ => ke _ rfl⟩
  · have n4 : ¬ x = -4 := by rw [z]; exact n4_256 o ho
    rw [if_neg n4]
    rw [if_neg n4] at ke
    refine vC_argue_29 ⟨fun q => ke _ ?_, fun q => sJi_bitCount (fun r er => vC_argue_48 (ke _ ?_)), fun q => ?_⟩
    · rw [if_neg q.2]
    · rw [if_pos q.2, er, bc_co]
    · exfalso
      rw [z] at q
      exact q (Int32.not_lt.mp (n0 o (by omega)))
end EW9
end MG94
section MG95
/-! ===== a found word: what a doctor says then, on both sides ===== -/
def bet (W v : Nat) : Nat := if v < W then v else 24
section EX2
variable {A M N S : Mm} {L P R U D W t d m : Nat} {G : Nat → Nat → Int32} {a : Int32}
end EX2
end MG95
