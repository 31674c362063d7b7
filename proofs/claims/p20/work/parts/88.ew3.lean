/-! ===== many, clash, sides: the same on both sides ===== -/
/-- a long holds just those of the first k cases of which p is so -/
def BL (v : Int64) (p : Nat → Bool) (k : Nat) : Prop := ∀ c, c < 64 → (lb v c = true ↔ c < k ∧ p c = true)
theorem bl_0 (p : Nat → Bool) : BL 0 p 0 := fun c _ => ⟨fun z => absurd ((l_0 c).symm.trans z) (by decide), fun z => absurd z.1 (by omega)⟩
theorem bl_n {v : Int64} {p : Nat → Bool} {k : Nat} (b : BL v p k) (h : p k = false) : BL v p (k + 1) := fun c hc => by
  rw [b c hc]
  constructor
  · rintro ⟨a, e⟩; exact ⟨by omega, e⟩
  · rintro ⟨a, e⟩
    by_cases z : c = k
    · subst z; rw [h] at e; exact absurd e (by decide)
    · exact ⟨by omega, e⟩
theorem bl_y {v : Int64} {p : Nat → Bool} {k : Nat} (b : BL v p k) (hk : k < 64) (h : p k = true) : BL (v ||| ((1 : Int64) <<< ((nI k).toInt64 &&& 63))) p (k + 1) := fun c hc => by
  rw [l_or, Bool.or_eq_true, l_one k hk c hc, decide_eq_true_eq, b c hc]
  constructor
  · rintro (⟨a, e⟩ | rfl)
    · exact ⟨by omega, e⟩
    · exact ⟨by omega, h⟩
  · rintro ⟨a, e⟩
    by_cases z : c = k
    · exact Or.inr z
    · exact Or.inl ⟨by omega, e⟩
theorem bl_z {v : Int64} {p : Nat → Bool} {k : Nat} (b : BL v p k) (h : p k = false) : BL (v ||| 0) p (k + 1) := fun c hc => by
  rw [l_or, l_0, Bool.or_false]; exact bl_n b h c hc
theorem bl_e {v : Int64} {p : Nat → Bool} (b : BL v p 64) {c : Nat} (hc : c < 64) : lb v c = p c := by
  have := b c hc
  cases e : p c
  · cases z : lb v c
    · rfl
    · have y := (this.mp z).2; rw [e] at y; exact absurd y (by decide)
  · exact this.mpr ⟨hc, e⟩
theorem bl_many {v : Int64} {p : Nat → Bool} (b : BL v p 64) : nbp (lb v) 64 = nbp p 64 := nbp_cg 64 (fun _ hc => bl_e b hc)
theorem bl_first {v : Int64} {p : Nat → Bool} (b : BL v p 64) : fsp (lb v) 64 = fsp p 64 := fsp_cg 64 (Nat.le_refl _) (fun _ hc => bl_e b hc)
theorem td_b (y z : Int64) {c : Nat} (hc : c < 64) : td y z (nI c) = vl2 (lb y c) (lb z c) := by
  unfold td vl2
  by_cases p : lb y c = true
  · rw [if_pos p, if_pos ((lbit _ hc).mpr p)]
  · rw [if_neg p, if_neg (fun z => p ((lbit _ hc).mp z))]
    by_cases q : lb z c = true
    · rw [if_pos q, if_pos ((lbit _ hc).mpr q)]
    · rw [if_neg q, if_neg (fun z => q ((lbit _ hc).mp z))]
theorem sd_b (y1 n1 y2 n2 : Bool) (h1 : ¬ (y1 = true ∧ n1 = true)) (h2 : ¬ (y2 = true ∧ n2 = true)) : decide (¬ vl2 y1 n1 = -4 ∧ ¬ vl2 y2 n2 = -4 ∧ vl2 y1 n1 = vl2 y2 n2) = ((y1 && y2) || (n1 && n2)) ∧ decide (¬ vl2 y1 n1 = -4 ∧ ¬ vl2 y2 n2 = -4 ∧ ¬ vl2 y1 n1 = vl2 y2 n2) = ((y1 && n2) || (n1 && y2)) := by
  revert h1 h2
  cases y1 <;> cases n1 <;> cases y2 <;> cases n2 <;> decide
section EW3
variable {A M N : Mm} {L P R S U D W t : Nat} {G : Nat → Nat → Int32}
theorem hny_e (m : CMP A N L R W G) (hW : W ≤ 24) {d c : Nat} (hd : d < 8) (hc : c < 64) : (¬ (his A L d &&& gi A (L + 205) c) = 0 ↔ lb (fyn N (nI d) W).1 c = true) ∧ (¬ (his A L d &&& gi A (L + 269) c) = 0 ↔ lb (fyn N (nI d) W).2 c = true) := by
  obtain ⟨hy, hn⟩ := his_b m hW hd hc
  obtain ⟨f1, f2⟩ := fyn_b m hW (d := d) hc W (Nat.le_refl W)
  refine ⟨?_, ?_⟩
  · rw [nz_b, f1]
    constructor
    · rintro ⟨v, hv, e⟩; exact ⟨v, (hy v hv).mp e⟩
    · rintro ⟨v, a, b⟩; exact ⟨v, by omega, (hy v (by omega)).mpr ⟨a, b⟩⟩
  · rw [nz_b, f2]
    constructor
    · rintro ⟨v, hv, e⟩; exact ⟨v, (hn v hv).mp e⟩
    · rintro ⟨v, a, b⟩; exact ⟨v, by omega, (hn v (by omega)).mpr ⟨a, b⟩⟩
def clp (A : Mm) (L d c : Nat) : Bool := decide (¬ cls A L d c = 0)
theorem clp_e (m : CMP A N L R W G) (hW : W ≤ 24) {d c : Nat} (hd : d < 8) (hc : c < 64) : clp A L d c = lb (clv N W (nI d)) c := by
  obtain ⟨e1, e2⟩ := hny_e m hW hd hc
  have b := clv_b (N := N) (W := W) (d := nI d) (c := c)
  unfold clp cls
  by_cases q : (his A L d &&& gi A (L + 205) c) = 0 ∨ (his A L d &&& gi A (L + 269) c) = 0
  · rw [if_pos q]
    cases z : lb (clv N W (nI d)) c
    · rfl
    · obtain ⟨y1, y2⟩ := b.mp z
      rcases q with q | q
      · exact absurd q (e1.mpr y1)
      · exact absurd q (e2.mpr y2)
  · rw [if_neg q, b.mpr ⟨e1.mp (fun z => q (Or.inl z)), e2.mp (fun z => q (Or.inr z))⟩]; rfl
theorem opv_e (m : CMP A N L R W G) (hW : W ≤ 24) {d c : Nat} (hd : d < 8) (hc : c < 64) : opn A L R d c = vl2 (lb (eyv N W (nI d) 64) c) (lb (enw N W (nI d) 64) c) := by
  rw [(opn_e m hW hd hc).1, td_b _ _ hc]
theorem pz_many {v : Int32} {Z : Int32 → Int32 → Mm → Prop} (i0 : INY M) (h : ∀ r s N, INY N → r = s → Z r s N) : CI mC_many [.ref 10, .int v] M (fun r N => CI mM_many [.ref 6027, .int v] N (fun s O => Z r s O)) := by
  obtain ⟨L, P, R, S, U, D, W, t, i, ez⟩ := i0
  have c := i.1.1
  have hW : W ≤ 24 := i.2.1.2.1
  obtain ⟨G, ey⟩ := ez.2
  have key : ∀ N r, CQ M N → r = mMany N W v → CI mM_many [.ref 6027, .int v] N (fun s O => Z r s O) := fun N r f e => tM_many (iv_cq f i).2.1.1 (iv_cq f i).2.1.2.2.1 (fun O g => h _ _ O ⟨L, P, R, S, U, D, W, t, iv_af g (iv_cq f i), ez_af g (ez_cq f ez)⟩ e)
  refine call_of rfl (Nat.le_of_ble_eq_true rfl) rfl (vC_many_0 (eC_isKind (fun q => vC_many_4 rfl ⟨fun _ => key M _ (cq_rf M) ?_, fun q => absurd rfl q⟩) (fun q => vC_many_4 rfl ⟨fun q => absurd q (by decide), fun _ => eC_casesNow c (fun N fN => vC_many_12 (sJl_bitCount (fun r er => vC_many_15 (key N _ fN ?_))))⟩)))
  · rw [mMany, q, if_neg (by decide)]
  · rw [mMany, q, if_pos rfl, mCases, q, if_pos rfl, er, bcl_mo, cs_e (cmp_of i ez.1 ey fN) hW (iv_cq fN i).2.1.2.2.1 q 64 (Nat.le_refl 64)]
theorem pz_clash {v w : Int32} {Z : Int32 → Int32 → Mm → Prop} (i0 : INY M) (h : ∀ r s N, INY N → r = s → Z r s N) : CI mC_clash [.ref 10, .int v, .int w] M (fun r N => CI mM_clash [.ref 6027, .int v, .int w] N (fun s O => Z r s O)) := by
  obtain ⟨L, P, R, S, U, D, W, t, i, ez⟩ := i0
  have c := i.1.1
  have hW : W ≤ 24 := i.2.1.2.1
  obtain ⟨G, ey⟩ := ez.2
  have cB := cx_cq (cq_bgn M L R (gi M 10 9)) c
  have key : ∀ N r, CQ M N → r = mClash N W v w → CI mM_clash [.ref 6027, .int v, .int w] N (fun s O => Z r s O) := fun N r f e => tM_clash (iv_cq f i).2.1.1 (fun O g => h _ _ O ⟨L, P, R, S, U, D, W, t, iv_af g (iv_cq f i), ez_af g (ez_cq f ez)⟩ e)
  refine call_of rfl (Nat.le_of_ble_eq_true rfl) rfl (vC_clash_0 (sC_isDoctor (fun q => vC_clash_4 ⟨fun _ => key M _ (cq_rf M) ?_, fun q => absurd rfl q⟩) (fun d hd ed => vC_clash_4 ⟨fun q => absurd q (by decide), fun _ => sC_isEither (fun q1 q2 => vC_clash_11 rfl ⟨fun q => absurd rfl q, fun _ => key M _ (cq_rf M) ?_⟩) (fun ew => vC_clash_11 rfl ⟨fun _ => lC_weighNow c (vC_clash_20 ?_), fun q => absurd q (by decide)⟩)⟩)))
  · rw [mClash, nD q, Bool.false_and, if_neg (by decide)]
  · rw [mClash, nE q1 q2, Bool.and_false, if_neg (by decide)]
  · subst ed
    have wB := cxw c (gi M 10 9)
    have fB := cq_bgn M L R (gi M 10 9)
    have m := cmp_of i ez.1 ey fB
    generalize bgn M L R (gi M 10 9) = B at cB wB fB m
    refine lp 64 (P := fun k => ∀ x, BL x (clp B L d) k → X mC_clash 25 [(0, .ref 10), (1, .int (nI d)), (2, .int w), (3, .long x), (5, .int (nI k))] [] B (mC mC_clash, mS mC_clash) (QI (fun r N => CI mM_clash [.ref 6027, .int (nI d), .int w] N (fun s O => Z r s O)))) (fun k hk ih x hx => ?_) (fun x hx => ?_) 0 (bl_0 _)
    · refine vC_clash_25 rfl (cx11 cB) ⟨fun q => absurd q (nge rfl (by decide) hk), fun _ => sWe_clashes wB hd hk (vC_clash_42 ⟨fun q => ?_, fun q => ?_⟩)⟩
      · rw [nI_s]; exact ih _ (bl_n hx (decide_eq_false (fun z => z q)))
      · rw [nI_s]; exact ih _ (bl_y hx hk (decide_eq_true q))
    · refine vC_clash_25 rfl (cx11 cB) ⟨fun _ => eC_manyOrLeast (vC_clash_63 (key B _ fB ?_)), fun q => absurd (nself rfl) q⟩
      have e : ∀ c, c < 64 → clp B L d c = lb (clv B W (nI d)) c := fun c hc => clp_e m hW hd hc
      rw [mClash, yD hd, yE ew, if_pos (show (true && true) = true from rfl), bl_many hx, bl_first hx, nbp_cg 64 e, fsp_cg 64 (Nat.le_refl _) e, mo_p _ 64 (Nat.le_refl _), ffo_p _ 64 (Nat.le_refl _)]
def smp (A : Mm) (L R d e c : Nat) : Bool := decide (¬ opn A L R d c = -4 ∧ ¬ opn A L R e c = -4 ∧ opn A L R d c = opn A L R e c)
def ulp (A : Mm) (L R d e c : Nat) : Bool := decide (¬ opn A L R d c = -4 ∧ ¬ opn A L R e c = -4 ∧ ¬ opn A L R d c = opn A L R e c)
theorem smp_e (m : CMP A N L R W G) (hW : W ≤ 24) {d e c : Nat} (hd : d < 8) (he : e < 8) (hc : c < 64) : smp A L R d e c = lb ((eyv N W (nI d) 64 &&& eyv N W (nI e) 64) ||| (enw N W (nI d) 64 &&& enw N W (nI e) 64)) c ∧ ulp A L R d e c = lb ((eyv N W (nI d) 64 &&& enw N W (nI e) 64) ||| (enw N W (nI d) 64 &&& eyv N W (nI e) 64)) c := by
  have o1 := opv_e m hW hd hc
  have o2 := opv_e m hW he hc
  have x1 := (opn_e m hW hd hc).2
  have x2 := (opn_e m hW he hc).2
  unfold smp ulp
  rw [o1, o2, l_or, l_or, l_and, l_and, l_and, l_and]
  exact sd_b _ _ _ _ x1 x2
theorem pz_sides {v u w : Int32} {Z : Int32 → Int32 → Mm → Prop} (i0 : INY M) (h : ∀ r s N, INY N → r = s → Z r s N) : CI mC_sides [.ref 10, .int v, .int u, .int w] M (fun r N => CI mM_sides [.ref 6027, .int v, .int u, .int w] N (fun s O => Z r s O)) := by
  obtain ⟨L, P, R, S, U, D, W, t, i, ez⟩ := i0
  have c := i.1.1
  have hW : W ≤ 24 := i.2.1.2.1
  obtain ⟨G, ey⟩ := ez.2
  have cB := cx_cq (cq_bgn M L R (gi M 10 9)) c
  have key : ∀ N r, CQ M N → r = mSides N W v u w → CI mM_sides [.ref 6027, .int v, .int u, .int w] N (fun s O => Z r s O) := fun N r f e => tM_sides (iv_cq f i).2.1.1 (fun O g => h _ _ O ⟨L, P, R, S, U, D, W, t, iv_af g (iv_cq f i), ez_af g (ez_cq f ez)⟩ e)
  have w3 : ∀ x : Int32, ¬ x < 0 → x ≤ 2 → x = 0 ∨ x = 1 ∨ x = 2 := fun x z1 z2 => by
    obtain ⟨y, hy, e⟩ := rngL (c := 2) (n := 2) rfl (by decide) z1 (Int32.not_lt.mpr z2)
    have : y = 0 ∨ y = 1 ∨ y = 2 := by omega
    rcases this with rfl | rfl | rfl
    · exact Or.inl e
    · exact Or.inr (Or.inl e)
    · exact Or.inr (Or.inr e)
  refine call_of rfl (Nat.le_of_ble_eq_true rfl) rfl (vC_sides_0 (sC_isDoctor (fun q => vC_sides_4 ⟨fun _ => key M _ (cq_rf M) ?_, fun q => absurd rfl q⟩) (fun d hd ed => vC_sides_4 ⟨fun q => absurd q (by decide), fun _ => sC_isDoctor (fun q => vC_sides_11 rfl ⟨fun _ => key M _ (cq_rf M) ?_, fun q => absurd rfl q.1⟩) (fun e he ee => vC_sides_11 rfl ⟨fun q => key M _ (cq_rf M) ?_, fun q => lC_weighNow c (vC_sides_34 ?_)⟩)⟩)))
  · rw [mSides, nD q, Bool.false_and, if_neg (by decide)]
  · rw [mSides, nD q, Bool.false_and, Bool.and_false, if_neg (by decide)]
  · have no : decide (¬ v = u ∧ (w = 0 ∨ w = 1 ∨ w = 2)) = false := decide_eq_false (fun z => by
      rcases q with q | q | q | q
      · exact absurd q (by decide)
      · exact z.1 q.2
      · rcases z.2 with y | y | y <;> rw [y] at q <;> exact absurd q.2.2 (by decide)
      · rcases z.2 with y | y | y <;> rw [y] at q <;> exact absurd q.2.2.2 (by decide))
    rw [mSides, no, Bool.and_false, Bool.and_false, if_neg (by decide)]
  · have w2 := w3 w q.2.2.1 q.2.2.2
    have ne := q.2.1
    subst ed ee
    have wB := cxw c (gi M 10 9)
    have fB := cq_bgn M L R (gi M 10 9)
    have m := cmp_of i ez.1 ey fB
    generalize bgn M L R (gi M 10 9) = B at cB wB fB m
    refine lp 64 (P := fun k => ∀ x y, BL x (smp B L R d e) k → BL y (ulp B L R d e) k → X mC_sides 43 [(0, .ref 10), (1, .int (nI d)), (2, .int (nI e)), (3, .int w), (4, .long x), (6, .long y), (8, .int (nI k))] [] B (mC mC_sides, mS mC_sides) (QI (fun r N => CI mM_sides [.ref 6027, .int (nI d), .int (nI e), .int w] N (fun s O => Z r s O)))) (fun k hk ih x y hx hy => ?_) (fun x y hx hy => ?_) 0 0 (bl_0 _) (bl_0 _)
    · refine vC_sides_43 rfl (cx11 cB) ⟨fun q => absurd q (nge rfl (by decide) hk), fun _ => sWe_opinion wB hd hk (vC_sides_60 rfl (cx11 cB) (sWe_opinion wB he hk (vC_sides_72 ⟨fun z => ?_, fun z => vC_sides_105 ?_, fun z => vC_sides_105 ?_⟩)))⟩
      · have n1 : smp B L R d e k = false := decide_eq_false (fun y => by
          rcases z with z | z
          · exact y.1 z
          · exact y.2.1 z.2)
        have n2 : ulp B L R d e k = false := decide_eq_false (fun y => by
          rcases z with z | z
          · exact y.1 z
          · exact y.2.1 z.2)
        rw [nI_s]; exact ih _ _ (bl_n hx n1) (bl_n hy n2)
      · rw [nI_s, if_neg z.2.2]; exact ih _ _ (bl_z hx (decide_eq_false (fun y => z.2.2 y.2.2))) (bl_y hy hk (decide_eq_true z))
      · rw [nI_s, if_pos z.2.2]; exact ih _ _ (bl_y hx hk (decide_eq_true z)) (bl_z hy (decide_eq_false (fun y => y.2.2 z.2.2)))
    · have e1 : ∀ c, c < 64 → lb x c = lb ((eyv B W (nI d) 64 &&& eyv B W (nI e) 64) ||| (enw B W (nI d) 64 &&& enw B W (nI e) 64)) c := fun c hc => (bl_e hx hc).trans (smp_e m hW hd he hc).1
      have e2 : ∀ c, c < 64 → lb y c = lb ((eyv B W (nI d) 64 &&& enw B W (nI e) 64) ||| (enw B W (nI d) 64 &&& eyv B W (nI e) 64)) c := fun c hc => (bl_e hy hc).trans (smp_e m hW hd he hc).2
      have ex := l_ext e1
      have ey' := l_ext e2
      have yes : (isD (nI d) && (isD (nI e) && decide (¬ nI d = nI e ∧ (w = 0 ∨ w = 1 ∨ w = 2)))) = true := by
        rw [yD hd, yD he, decide_eq_true ⟨ne, w2⟩]; rfl
      refine vC_sides_43 rfl (cx11 cB) ⟨fun _ => ⟨fun q => sJl_bitCount (fun r er => vC_sides_168 (key B _ fB ?_)), fun q => sJl_bitCount (fun r er => vC_sides_174 (key B _ fB ?_)), fun q => eC_least (vC_sides_180 (key B _ fB ?_))⟩, fun q => absurd (nself rfl) q⟩
      · rw [mSides, if_pos yes, if_pos q, er, bcl_mo, ex, ey']
      · rw [mSides, if_pos yes, if_neg (by rw [q]; decide), if_pos q, er, bcl_mo, ex]
      · rw [mSides, if_pos yes, if_neg q.1, if_neg q.2, lstC_p, ffo_p _ 64 (Nat.le_refl _), ey']
end EW3
