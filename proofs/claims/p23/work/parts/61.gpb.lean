/-! ===== bits (begun from the kit's rows on bits) ===== -/
def bt (x : Int32) (i : Nat) : Bool := x.toBitVec.getLsbD i
theorem b_ext {x y : Int32} (h : ∀ i, i < 32 → bt x i = bt y i) : x = y := Int32.toBitVec_inj.mp (BitVec.eq_of_getLsbD_eq (fun i hi => h i hi))
theorem b_or (x y : Int32) (i : Nat) : bt (x ||| y) i = (bt x i || bt y i) := by unfold bt; rw [Int32.toBitVec_or, BitVec.getLsbD_or]
theorem b_and (x y : Int32) (i : Nat) : bt (x &&& y) i = (bt x i && bt y i) := by unfold bt; rw [Int32.toBitVec_and, BitVec.getLsbD_and]
theorem b_0 (i : Nat) : bt 0 i = false := BitVec.getLsbD_zero
theorem b_1 : ∀ i, i < 32 → bt 1 i = decide (i = 0) := by decide +kernel
theorem s_l : ∀ n, n < 32 → ((nI n &&& 31).toBitVec.smod 32).toNat = n := by decide +kernel
theorem s_u : ∀ n, n < 32 → (((nI n).toUInt32 &&& Int32.toUInt32 31).toBitVec % 32).toNat = n := by decide +kernel
theorem b_ushr (n : Nat) (hn : n < 32) (x : Int32) (i : Nat) : bt (ushr x (nI n)) i = bt x (n + i) := by
  show (x.toUInt32 >>> ((nI n).toUInt32 &&& Int32.toUInt32 31)).toBitVec.getLsbD i = x.toUInt32.toBitVec.getLsbD (n + i)
  rw [UInt32.toBitVec_shiftRight]
  show (x.toUInt32.toBitVec >>> (((nI n).toUInt32 &&& Int32.toUInt32 31).toBitVec % 32).toNat).getLsbD i = _
  rw [s_u n hn, BitVec.getLsbD_ushiftRight]
theorem b_sshr (n : Nat) (hn : n < 32) (x : Int32) {i : Nat} (hi : i < 32) : bt (x >>> (nI n &&& 31)) i = if n + i < 32 then bt x (n + i) else bt x 31 := by
  unfold bt
  rw [Int32.toBitVec_shiftRight]
  show (x.toBitVec.sshiftRight ((nI n &&& 31).toBitVec.smod 32).toNat).getLsbD i = _
  rw [s_l n hn, BitVec.getLsbD_sshiftRight, BitVec.msb_eq_getLsbD_last]
  simp [hi]
theorem b_one : ∀ n, n < 32 → ∀ i, i < 32 → bt ((1 : Int32) <<< (nI n &&& 31)) i = decide (i = n) := by decide +kernel
theorem b_a1 (y : Int32) : (y &&& 1) = 1 ↔ bt y 0 = true := by
  constructor
  · intro h
    have := b_and y 1 0
    rw [h] at this
    have e : bt 1 0 = true := by decide +kernel
    rw [e, Bool.and_true] at this
    exact this.symm
  · intro h
    refine b_ext (fun i hi => ?_)
    rw [b_and, b_1 i hi]
    by_cases e : i = 0
    · subst e; rw [h]; rfl
    · rw [decide_eq_false e, Bool.and_false]
/-- a bit as the reference looks at it -/
theorem bit1 (x : Int32) {m : Nat} (h : m < 32) : ((x >>> (nI m &&& 31)) &&& 1) = 1 ↔ bt x m = true := by
  rw [b_a1, b_sshr m h x (by decide), if_pos (by omega), Nat.add_zero]
/-- as the class looks at it -/
theorem bitu (x : Int32) {m : Nat} (h : m < 32) : ((ushr x (nI m)) &&& 1) = 1 ↔ bt x m = true := by
  rw [b_a1, b_ushr m h x 0, Nat.add_zero]
theorem or_self32 (x : Int32) : x ||| x = x := b_ext (fun i _ => by rw [b_or, Bool.or_self])
theorem or_032 (x : Int32) : x ||| 0 = x := b_ext (fun i _ => by rw [b_or, b_0, Bool.or_false])
/-! ===== what words come to by following ===== -/
def wrf (R : Nat → Int32) (m w : Nat) : Int32 := R w ||| (if ((R w >>> (nI m &&& 31)) &&& 1) = 1 then R m else 0)
def wlr (R : Nat → Int32) : Nat → Nat → Int32
  | 0 => R
  | m + 1 => wrf (wlr R m) m
theorem wrf_m (R : Nat → Int32) (m : Nat) : wrf R m m = R m := by
  unfold wrf
  split
  · exact or_self32 _
  · exact or_032 _
theorem wrf_b (R : Nat → Int32) {m : Nat} (hm : m < 32) (w u : Nat) : bt (wrf R m w) u = true ↔ bt (R w) u = true ∨ (bt (R w) m = true ∧ bt (R m) u = true) := by
  unfold wrf
  rw [b_or, Bool.or_eq_true]
  by_cases h : bt (R w) m = true
  · rw [if_pos ((bit1 _ hm).mpr h)]
    simp [h]
  · rw [if_neg (fun q => h ((bit1 _ hm).mp q)), b_0]
    simp [h]
/-- through words less than k, what is come to comes to no more -/
theorem wlr_t (R : Nat → Int32) : ∀ k, k ≤ 32 → ∀ v, v < k → ∀ w, bt (wlr R k w) v = true → ∀ u, bt (wlr R k v) u = true → bt (wlr R k w) u = true
  | 0, _, v, hv, _, _, _, _ => absurd hv (by omega)
  | k + 1, hk, v, hv, w, h1, u, h2 => by
    have ih := wlr_t R k (by omega)
    have hk2 : k < 32 := by omega
    rw [wlr] at h1 h2 ⊢
    rw [wrf_b _ hk2] at h1 h2 ⊢
    by_cases e : v = k
    · subst e
      have a : bt (wlr R v w) v = true := h1.elim id (fun q => q.1)
      have b : bt (wlr R v v) u = true := h2.elim id (fun q => q.2)
      exact Or.inr ⟨a, b⟩
    · have hv2 : v < k := by omega
      rcases h1 with h1 | ⟨h1, h3⟩
      · rcases h2 with h2 | ⟨h2, h4⟩
        · exact Or.inl (ih v hv2 w h1 u h2)
        · exact Or.inr ⟨ih v hv2 w h1 k h2, h4⟩
      · rcases h2 with h2 | ⟨h2, h4⟩
        · exact Or.inr ⟨h1, ih v hv2 k h3 u h2⟩
        · exact Or.inr ⟨h1, h4⟩
theorem wlr_0 (R : Nat → Int32) : ∀ k, k ≤ 32 → ∀ w u, bt (R w) u = true → bt (wlr R k w) u = true
  | 0, _, _, _, h => h
  | k + 1, hk, w, u, h => by
    rw [wlr, wrf_b _ (show k < 32 by omega)]
    exact Or.inl (wlr_0 R k (by omega) w u h)
def rg (R : Nat → Int32) : Nat → Int32
  | 0 => 0
  | i + 1 => rg R i ||| (R i &&& ((1 : Int32) <<< (nI i &&& 31)))
def ug (R : Nat → Int32) (g : Int32) : Nat → Int32
  | 0 => g
  | i + 1 => ug R g i ||| (if (R i &&& g) = 0 then 0 else ((1 : Int32) <<< (nI i &&& 31)))
theorem rg_b (R : Nat → Int32) : ∀ n, n ≤ 32 → ∀ i, i < 32 → (bt (rg R n) i = true ↔ i < n ∧ bt (R i) i = true)
  | 0, _, i, _ => by rw [rg, b_0]; simp
  | n + 1, hn, i, hi => by
    rw [rg, b_or, Bool.or_eq_true, rg_b R n (by omega) i hi, b_and, b_one n (by omega) i hi, Bool.and_eq_true, decide_eq_true_eq]
    constructor
    · rintro (⟨a, b⟩ | ⟨a, b⟩)
      · exact ⟨by omega, b⟩
      · subst b; exact ⟨by omega, a⟩
    · rintro ⟨a, b⟩
      by_cases e : i = n
      · subst e; exact Or.inr ⟨b, rfl⟩
      · exact Or.inl ⟨by omega, b⟩
theorem ug_b (R : Nat → Int32) (g : Int32) : ∀ n, n ≤ 32 → ∀ i, i < 32 → (bt (ug R g n) i = true ↔ bt g i = true ∨ (i < n ∧ ¬ (R i &&& g) = 0))
  | 0, _, i, _ => by rw [ug]; simp
  | n + 1, hn, i, hi => by
    rw [ug, b_or, Bool.or_eq_true, ug_b R g n (by omega) i hi]
    by_cases z : (R n &&& g) = 0
    · rw [if_pos z, b_0]
      constructor
      · rintro ((a | a) | a)
        · exact Or.inl a
        · exact Or.inr ⟨by omega, a.2⟩
        · exact absurd a (by decide)
      · rintro (a | a)
        · exact Or.inl (Or.inl a)
        · by_cases e : i = n
          · subst e; exact absurd z a.2
          · exact Or.inl (Or.inr ⟨by omega, a.2⟩)
    · rw [if_neg z, b_one n (by omega) i hi, decide_eq_true_eq]
      constructor
      · rintro ((a | a) | a)
        · exact Or.inl a
        · exact Or.inr ⟨by omega, a.2⟩
        · subst a; exact Or.inr ⟨by omega, z⟩
      · rintro (a | a)
        · exact Or.inl (Or.inl a)
        · by_cases e : i = n
          · exact Or.inr e
          · exact Or.inl (Or.inr ⟨by omega, a.2⟩)
/-- a word that is sound comes to no word of a ring -/
theorem sound_b {R : Nat → Int32} {W w : Nat} (hW : W ≤ 24) (hw : w < W) (h : ¬ bt (ug R (rg R W) W) w = true) : ∀ v, v < W → bt (R w) v = true → ¬ bt (R v) v = true := by
  intro v hv a b
  refine h ((ug_b R _ W (by omega) w (by omega)).mpr (Or.inr ⟨hw, fun z => ?_⟩))
  have c := b_and (R w) (rg R W) v
  rw [z, b_0, a, (rg_b R W (by omega) v (by omega)).mpr ⟨hv, b⟩] at c
  exact absurd c (by decide)
def bcn (x : Int32) : Nat → Nat
  | 0 => 0
  | n + 1 => bcn x n + (if bt x n = true then 1 else 0)
theorem bcn_le (x : Int32) : ∀ n, bcn x n ≤ n
  | 0 => Nat.le_refl 0
  | n + 1 => by
    rw [bcn]
    have := bcn_le x n
    split <;> omega
theorem bcn_mono {x y : Int32} : ∀ n, (∀ v, v < n → bt y v = true → bt x v = true) → bcn y n ≤ bcn x n
  | 0, _ => Nat.le_refl 0
  | n + 1, h => by
    rw [bcn, bcn]
    have a := bcn_mono n (fun v hv => h v (by omega))
    have b := h n (by omega)
    by_cases c : bt y n = true
    · rw [if_pos c, if_pos (b c)]; omega
    · rw [if_neg c]; omega
theorem bcn_lt {x y : Int32} {f : Nat} : ∀ n, (∀ v, v < n → bt y v = true → bt x v = true) → f < n → bt x f = true → ¬ bt y f = true → bcn y n < bcn x n
  | 0, _, hf, _, _ => absurd hf (by omega)
  | n + 1, h, hf, a, b => by
    rw [bcn, bcn]
    by_cases e : f = n
    · subst e
      have := bcn_mono f (fun v hv => h v (by omega))
      rw [if_pos a, if_neg b]; omega
    · have := bcn_lt n (fun v hv => h v (by omega)) (show f < n by omega) a b
      have c := h n (by omega)
      by_cases d : bt y n = true
      · rw [if_pos d, if_pos (c d)]; omega
      · rw [if_neg d]; omega
theorem bcn_pos {x : Int32} {f n : Nat} (hf : f < n) (h : bt x f = true) : 0 < bcn x n := by
  have := bcn_lt (x := x) (y := 0) n (fun v _ a => by rw [b_0] at a; exact absurd a (by decide)) hf h (by rw [b_0]; decide)
  omega
/-- so it comes to its end -/
theorem chn_of {M : Mm} {W : Nat} {R : Nat → Int32} (hf : ∀ w, w < W → wd M w 6 = -4 ∨ ∃ f, f < W ∧ wd M w 6 = nI f ∧ bt (R w) f = true) (ht : ∀ v, v < W → ∀ w, bt (R w) v = true → ∀ u, bt (R v) u = true → bt (R w) u = true) : ∀ n w, w < W → (∀ v, v < W → bt (R w) v = true → ¬ bt (R v) v = true) → bcn (R w) W ≤ n → chn M W n w
  | 0, w, hw, hs, hb => by
    rcases hf w hw with e | ⟨f, hfW, e, hb2⟩
    · exact e
    · have := bcn_pos hfW hb2
      omega
  | n + 1, w, hw, hs, hb => by
    rcases hf w hw with e | ⟨f, hfW, e, hb2⟩
    · exact Or.inl e
    · refine Or.inr ⟨f, hfW, e, chn_of hf ht n f hfW (fun v hv a => hs v hv (ht f hfW w hb2 v a)) ?_⟩
      have := bcn_lt (x := R w) (y := R f) W (fun v _ a => ht f hfW w hb2 v a) hfW hb2 (hs f hfW hb2)
      omega
theorem mask_b : ∀ W, W ≤ 24 → ∀ i, i < 32 → bt (((1 : Int32) <<< (nI W &&& 31)) - 1) i = decide (i < W) := by decide +kernel
theorem um_of {x : Int32} {W : Nat} (hW : W ≤ 24) (h : ∀ i, i < 32 → bt x i = true → i < W) : x &&& (((1 : Int32) <<< (nI W &&& 31)) - 1) = x := by
  refine b_ext (fun i hi => ?_)
  rw [b_and, mask_b W hW i hi]
  by_cases a : bt x i = true
  · rw [a, decide_eq_true (h i hi a)]; rfl
  · have : bt x i = false := by simpa using a
    rw [this]; rfl
theorem ug_lt {R : Nat → Int32} {W i : Nat} (hW : W ≤ 24) (hi : i < 32) (h : bt (ug R (rg R W) W) i = true) : i < W := by
  rcases (ug_b R _ W (by omega) i hi).mp h with a | a
  · exact ((rg_b R W (by omega) i hi).mp a).1
  · exact a.1
/-! ===== findFollowing, findSaid ===== -/
theorem si_si (M : Mm) (a j : Nat) (v w : Int32) : si (si M a j v) a j w = si M a j w := by
  refine mm_ext rfl (fun b k => ?_) (fun _ _ => rfl) (fun _ _ => rfl)
  simp only [gi_si]
  split <;> rfl
theorem rwm_rwm (M : Mm) (a n : Nat) (f g : Nat → Int32) : rwm (rwm M a n f) a n g = rwm M a n g := by
  refine mm_ext rfl (fun b k => ?_) (fun _ _ => rfl) (fun _ _ => rfl)
  simp only [gi_rwm]
  split <;> rfl
def ffR (M : Mm) (W : Nat) : Nat → Int32 := wlr (fow M) W
def ffM (M : Mm) (W : Nat) : Mm := si (si (rwm M 6807 W (ffR M W)) 6027 23 (rg (ffR M W) W)) 6027 24 (ug (ffR M W) (rg (ffR M W) W) W)
theorem sM_findFollowing {M : Mm} {W : Nat} {K : Mm → Prop} (hm : MR M) (hW : gi M 6027 0 = nI W) (hW2 : W ≤ 24) (h : K (ffM M W)) : CV mM_findFollowing [.ref 6027] M K := by
  have m1 : ∀ n f, MR (rwm M 6807 n f) := fun n f => mr_w hm rfl
  have w1 : ∀ n f, gi (rwm M 6807 n f) 6027 0 = nI W := fun n f => by rw [rwmR _ _ _ _ _ _ (by decide), hW]
  have a1 : ∀ n f k, k < n → gi (rwm M 6807 n f) 6807 k = f k := fun n f k hk => by rw [gi_rwm, if_pos ⟨rfl, hk⟩]
  have le : ∀ {x : Int32} {i}, x = nI W → i < W → ¬ x ≤ nI i := fun e hi => by rw [e]; exact nge rfl (by omega) hi
  have se : ∀ {x : Int32}, x = nI W → x ≤ nI W := fun e => by rw [e]; exact Int32.le_refl _
  have k4 : X mM_findFollowing 142 [(0, .ref 6027), (1, .int 0)] [] (si (si (rwm M 6807 W (ffR M W)) 6027 23 (rg (ffR M W) W)) 6027 24 (rg (ffR M W) W)) (mC mM_findFollowing, mS mM_findFollowing) (QV K) := by
    have key := lp W (P := fun i => X mM_findFollowing 142 [(0, .ref 6027), (1, .int (nI i))] [] (si (si (rwm M 6807 W (ffR M W)) 6027 23 (rg (ffR M W) W)) 6027 24 (ug (ffR M W) (rg (ffR M W) W) i)) (mC mM_findFollowing, mS mM_findFollowing) (QV K)) (fun i hi ih => ?_) ?_
    · exact key
    · have e0 : gi (si (si (rwm M 6807 W (ffR M W)) 6027 23 (rg (ffR M W) W)) 6027 24 (ug (ffR M W) (rg (ffR M W) W) i)) 6027 0 = nI W := by rw [g6 _ _ _ _ (by decide), g6 _ _ _ _ (by decide), w1]
      have er : gi (si (si (rwm M 6807 W (ffR M W)) 6027 23 (rg (ffR M W) W)) 6027 24 (ug (ffR M W) (rg (ffR M W) W) i)) 6807 i = ffR M W i := by rw [giR _ _ _ _ _ _ (by decide), giR _ _ _ _ _ _ (by decide), a1 _ _ _ hi]
      have e23 : gi (si (si (rwm M 6807 W (ffR M W)) 6027 23 (rg (ffR M W) W)) 6027 24 (ug (ffR M W) (rg (ffR M W) W) i)) 6027 23 = rg (ffR M W) W := by rw [g6 _ _ _ _ (by decide), g6s]
      have e24 : gi (si (si (rwm M 6807 W (ffR M W)) 6027 23 (rg (ffR M W) W)) 6027 24 (ug (ffR M W) (rg (ffR M W) W) i)) 6027 24 = ug (ffR M W) (rg (ffR M W) W) i := g6s _ _ _
      rw [ug] at ih
      have mr := mr22 (mr_w (m1 W (ffR M W)) (show gr (si (si (rwm M 6807 W (ffR M W)) 6027 23 (rg (ffR M W) W)) 6027 24 (ug (ffR M W) (rg (ffR M W) W) i)) = _ from rfl))
      refine vM_findFollowing_142 rfl mr ⟨fun _ => vin (show i < 25 by omega) (by decide), fun q => absurd q (le e0 hi), fun q => vM_findFollowing_176 rfl ?_, fun q => vM_findFollowing_176 rfl ?_⟩
      · rw [ncl (by omega), er, e23] at q
        rw [e24, si_si, nI_s]
        rw [if_pos q.2] at ih; exact ih
      · rw [ncl (by omega), er, e23] at q
        rw [e24, si_si, nI_s]
        rw [if_neg q.2] at ih; exact ih
    · have e0 : gi (si (si (rwm M 6807 W (ffR M W)) 6027 23 (rg (ffR M W) W)) 6027 24 (ug (ffR M W) (rg (ffR M W) W) W)) 6027 0 = nI W := by rw [g6 _ _ _ _ (by decide), g6 _ _ _ _ (by decide), w1]
      have mr := mr22 (mr_w (m1 W (ffR M W)) (show gr (si (si (rwm M 6807 W (ffR M W)) 6027 23 (rg (ffR M W) W)) 6027 24 (ug (ffR M W) (rg (ffR M W) W) W)) = _ from rfl))
      exact vM_findFollowing_142 rfl mr ⟨fun q => absurd (se e0) q, fun _ => h, fun q => absurd (se e0) q.1, fun q => absurd (se e0) q.1⟩
  have k3 : X mM_findFollowing 99 [(0, .ref 6027), (1, .int 0)] [] (si (rwm M 6807 W (ffR M W)) 6027 23 0) (mC mM_findFollowing, mS mM_findFollowing) (QV K) := by
    have key := lp W (P := fun i => X mM_findFollowing 99 [(0, .ref 6027), (1, .int (nI i))] [] (si (rwm M 6807 W (ffR M W)) 6027 23 (rg (ffR M W) i)) (mC mM_findFollowing, mS mM_findFollowing) (QV K)) (fun i hi ih => ?_) ?_
    · exact key
    · have e0 : gi (si (rwm M 6807 W (ffR M W)) 6027 23 (rg (ffR M W) i)) 6027 0 = nI W := by rw [g6 _ _ _ _ (by decide), w1]
      have er : gi (si (rwm M 6807 W (ffR M W)) 6027 23 (rg (ffR M W) i)) 6807 i = ffR M W i := by rw [giR _ _ _ _ _ _ (by decide), a1 _ _ _ hi]
      have e23 : gi (si (rwm M 6807 W (ffR M W)) 6027 23 (rg (ffR M W) i)) 6027 23 = rg (ffR M W) i := g6s _ _ _
      rw [rg] at ih
      have mr := mr22 (mr_w (m1 W (ffR M W)) (show gr (si (rwm M 6807 W (ffR M W)) 6027 23 (rg (ffR M W) i)) = _ from rfl))
      refine vM_findFollowing_99 rfl mr ⟨fun _ => vin (show i < 25 by omega) (by decide), fun q => absurd q (le e0 hi), fun q => ?_⟩
      rw [ncl (by omega), er, e23, si_si, nI_s]
      exact ih
    · have e0 : gi (si (rwm M 6807 W (ffR M W)) 6027 23 (rg (ffR M W) W)) 6027 0 = nI W := by rw [g6 _ _ _ _ (by decide), w1]
      have e23 : gi (si (rwm M 6807 W (ffR M W)) 6027 23 (rg (ffR M W) W)) 6027 23 = rg (ffR M W) W := g6s _ _ _
      have mr := mr22 (mr_w (m1 W (ffR M W)) (show gr (si (rwm M 6807 W (ffR M W)) 6027 23 (rg (ffR M W) W)) = _ from rfl))
      refine vM_findFollowing_99 rfl mr ⟨fun q => absurd (se e0) q, fun _ => ?_, fun q => absurd (se e0) q⟩
      rw [e23]; exact k4
  have k2 : X mM_findFollowing 29 [(0, .ref 6027), (1, .int 0)] [] (rwm M 6807 W (fow M)) (mC mM_findFollowing, mS mM_findFollowing) (QV K) := by
    have key := lp W (P := fun m => X mM_findFollowing 29 [(0, .ref 6027), (1, .int (nI m))] [] (rwm M 6807 W (wlr (fow M) m)) (mC mM_findFollowing, mS mM_findFollowing) (QV K)) (fun m hm2 ih => ?_) ?_
    · exact key
    · refine vM_findFollowing_29 rfl ⟨fun q => absurd q (le (w1 _ _) hm2), fun _ => ?_⟩
      rw [wlr] at ih
      generalize wlr (fow M) m = R at ih ⊢
      have key2 := lp W (P := fun i => X mM_findFollowing 39 [(0, .ref 6027), (1, .int (nI m)), (2, .int (nI i))] [] (rwm (rwm M 6807 W R) 6807 i (wrf R m)) (mC mM_findFollowing, mS mM_findFollowing) (QV K)) (fun i hi ih2 => ?_) ?_
      · rw [rwm_0] at key2; exact key2
      · have e0 : gi (rwm (rwm M 6807 W R) 6807 i (wrf R m)) 6027 0 = nI W := by rw [rwmR _ _ _ _ _ _ (by decide), w1]
        have ei : gi (rwm (rwm M 6807 W R) 6807 i (wrf R m)) 6807 i = R i := by rw [gi_rwm, if_neg (fun q => by omega), a1 _ _ _ hi]
        have em : gi (rwm (rwm M 6807 W R) 6807 i (wrf R m)) 6807 m = R m := by
          rw [gi_rwm]
          by_cases l : m < i
          · rw [if_pos ⟨rfl, l⟩, wrf_m]
          · rw [if_neg (fun q => l q.2), a1 _ _ _ hm2]
        have mr := mr22 (mr_w hm (show gr (rwm (rwm M 6807 W R) 6807 i (wrf R m)) = _ from rfl))
        refine vM_findFollowing_39 rfl mr ⟨fun _ => vin (show i < 25 by omega) (by decide), fun _ => vin (show i < 25 by omega) (by decide), fun _ => vin (show m < 25 by omega) (by decide), fun q => absurd q (le e0 hi), fun q => vM_findFollowing_78 rfl ⟨vin (show i < 25 by omega) (by decide), ?_⟩, fun q => vM_findFollowing_78 rfl ⟨vin (show i < 25 by omega) (by decide), ?_⟩⟩
        · rw [ncl (show i < 2 ^ 31 by omega), ei] at q ⊢
          have e : wrf R m i = R i ||| 0 := by unfold wrf; rw [if_neg q.2]
          rw [← e, rwm_s, nI_s]; exact ih2
        · rw [ncl (show i < 2 ^ 31 by omega), ei] at q ⊢
          rw [ncl (show m < 2 ^ 31 by omega), em]
          have e : wrf R m i = R i ||| R m := by unfold wrf; rw [if_pos q.2]
          rw [← e, rwm_s, nI_s]; exact ih2
      · have e0 : gi (rwm (rwm M 6807 W R) 6807 W (wrf R m)) 6027 0 = nI W := by rw [rwmR _ _ _ _ _ _ (by decide), w1]
        have mr := mr22 (mr_w hm (show gr (rwm (rwm M 6807 W R) 6807 W (wrf R m)) = _ from rfl))
        refine vM_findFollowing_39 rfl mr ⟨fun q => absurd (se e0) q, fun q => absurd (se e0) q, fun q => absurd (se e0) q.1, fun _ => ?_, fun q => absurd (se e0) q.1, fun q => absurd (se e0) q.1⟩
        rw [rwm_rwm, nI_s]; exact ih
    · refine vM_findFollowing_29 rfl ⟨fun _ => k3, fun q => absurd (se (w1 _ _)) q⟩
  refine call_of rfl (Nat.le_of_ble_eq_true rfl) rfl (vM_findFollowing_0 ?_)
  have key := lp W (P := fun i => X mM_findFollowing 2 [(0, .ref 6027), (1, .int (nI i))] [] (rwm M 6807 i (fow M)) (mC mM_findFollowing, mS mM_findFollowing) (QV K)) (fun i hi ih => ?_) ?_
  · rw [rwm_0] at key; exact key
  · refine vM_findFollowing_2 rfl (mr22 (m1 _ _)) ⟨fun q => absurd q (le (w1 _ _) hi), fun _ => sM_followed (m1 _ _) (by omega) (vM_findFollowing_20 rfl ⟨vin (show i < 25 by omega) (by decide), ?_⟩)⟩
    have fo : ∀ n f, fow (rwm M 6807 n f) i = fow M i := by
      intro n f
      have ew : ∀ w k, wd (rwm M 6807 n f) w k = wd M w k := fun w k => rwmR _ _ _ _ _ _ (by decide)
      have es : ∀ v, fos (rwm M 6807 n f) i v = fos M i v := by
        intro v
        induction v with
        | zero => rfl
        | succ v ih => rw [fos, fos, ih, ew, ew, ew]
      unfold fow
      rw [ew, ew, es]
    rw [ncl (by omega), fo, rwm_s, nI_s]; exact ih
  · exact vM_findFollowing_2 rfl (mr22 (m1 _ _)) ⟨fun _ => k2, fun q => absurd (se (w1 _ _)) q⟩
