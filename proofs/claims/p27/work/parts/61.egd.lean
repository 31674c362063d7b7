section MG30
/-! ===== bits (begun from the kit's rows on bits) ===== -/
def bt (x : Int32) (i : Nat) : Bool := x.toBitVec.getLsbD i
theorem b_ext {x y : Int32} (h : ∀ i, i < 32 → bt x i = bt y i) : x = y := Int32.toBitVec_inj.mp (BitVec.eq_of_getLsbD_eq (fun i hi => h i hi))
theorem b_or (x y : Int32) (i : Nat) : bt (x ||| y) i = (bt x i || bt y i) := by unfold bt; rw [Int32.toBitVec_or, BitVec.getLsbD_or]
theorem b_and (x y : Int32) (i : Nat) : bt (x &&& y) i = (bt x i && bt y i) := by unfold bt; rw [Int32.toBitVec_and, BitVec.getLsbD_and]
theorem b_0 (i : Nat) : bt 0 i = false := BitVec.getLsbD_zero
theorem b_1 : ∀ i, i < 32 → bt 1 i = decide (i = 0) := by decide +kernel
theorem s_l : ∀ n, n < 32 → ((nI n &&& 31).toBitVec.smod 32).toNat = n := by decide +kernel
theorem s_u : ∀ n, n < 32 → (((nI n).toUInt32 &&& Int32.toUInt32 31).toBitVec % 32).toNat = n := by decide +kernel
theorem b_ushr (n : Nat) (hn : n < 32) (x : Int32) (i : Nat) : bt (ushr x (nI n)) i = bt x (n + i) := by
  show (x.toUInt32 >>> ((nI n).toUInt32 &&& Int32.toUInt32 31)).toBitVec.getLsbD i = x.toUInt32.toBitVec.getLsbD (n + i)
  rw [UInt32.toBitVec_shiftRight]
  show (x.toUInt32.toBitVec >>> (((nI n).toUInt32 &&& Int32.toUInt32 31).toBitVec % 32).toNat).getLsbD i = _
  rw [s_u n hn, BitVec.getLsbD_ushiftRight]
theorem b_sshr (n : Nat) (hn : n < 32) (x : Int32) {i : Nat} (hi : i < 32) : bt (x >>> (nI n &&& 31)) i = if n + i < 32 then bt x (n + i) else bt x 31 := by
  unfold bt
  rw [Int32.toBitVec_shiftRight]
  show (x.toBitVec.sshiftRight ((nI n &&& 31).toBitVec.smod 32).toNat).getLsbD i = _
  rw [s_l n hn, BitVec.getLsbD_sshiftRight, BitVec.msb_eq_getLsbD_last]
  simp [hi]
theorem b_one : ∀ n, n < 32 → ∀ i, i < 32 → bt ((1 : Int32) <<< (nI n &&& 31)) i = decide (i = n) := by decide +kernel
theorem b_a1 (y : Int32) : (y &&& 1) = 1 ↔ bt y 0 = true := by
  constructor
  · intro h
    have := b_and y 1 0
    rw [h] at this
    have e : bt 1 0 = true := by decide +kernel
    rw [e, Bool.and_true] at this
    exact this.symm
  · intro h
    refine b_ext (fun i hi => ?_)
    rw [b_and, b_1 i hi]
    by_cases e : i = 0
    · subst e; rw [h]; rfl
    · rw [decide_eq_false e, Bool.and_false]
/-- a bit as the reference looks at it -/
theorem bit1 (x : Int32) {m : Nat} (h : m < 32) : ((x >>> (nI m &&& 31)) &&& 1) = 1 ↔ bt x m = true := by
  rw [b_a1, b_sshr m h x (by decide), if_pos (by omega), Nat.add_zero]
/-- as the class looks at it -/
theorem bitu (x : Int32) {m : Nat} (h : m < 32) : ((ushr x (nI m)) &&& 1) = 1 ↔ bt x m = true := by
  rw [b_a1, b_ushr m h x 0, Nat.add_zero]
theorem or_self32 (x : Int32) : x ||| x = x := b_ext (fun i _ => by rw [b_or, Bool.or_self])
theorem or_032 (x : Int32) : x ||| 0 = x := b_ext (fun i _ => by rw [b_or, b_0, Bool.or_false])
/-! ===== what words come to by following ===== -/
def wrf (R : Nat → Int32) (m w : Nat) : Int32 := R w ||| (if ((R w >>> (nI m &&& 31)) &&& 1) = 1 then R m else 0)
def wlr (R : Nat → Int32) : Nat → Nat → Int32
  | 0 => R
  | m + 1 => wrf (wlr R m) m
theorem wrf_m (R : Nat → Int32) (m : Nat) : wrf R m m = R m := by
  unfold wrf
  split
  · exact or_self32 _
  · exact or_032 _
theorem wrf_b (R : Nat → Int32) {m : Nat} (hm : m < 32) (w u : Nat) : bt (wrf R m w) u = true ↔ bt (R w) u = true ∨ (bt (R w) m = true ∧ bt (R m) u = true) := by
  unfold wrf
  rw [b_or, Bool.or_eq_true]
  by_cases h : bt (R w) m = true
  · rw [if_pos ((bit1 _ hm).mpr h)]
    simp [h]
  · rw [if_neg (fun q => h ((bit1 _ hm).mp q)), b_0]
    simp [h]
/-- through words less than k, what is come to comes to no more -/
theorem wlr_t (R : Nat → Int32) : ∀ k, k ≤ 32 → ∀ v, v < k → ∀ w, bt (wlr R k w) v = true → ∀ u, bt (wlr R k v) u = true → bt (wlr R k w) u = true
  | 0, _, v, hv, _, _, _, _ => absurd hv (by omega)
  | k + 1, hk, v, hv, w, h1, u, h2 => by
    have ih := wlr_t R k (by omega)
    have hk2 : k < 32 := by omega
    rw [wlr] at h1 h2 ⊢
    rw [wrf_b _ hk2] at h1 h2 ⊢
    by_cases e : v = k
    · subst e
      have a : bt (wlr R v w) v = true := h1.elim id (fun q => q.1)
      have b : bt (wlr R v v) u = true := h2.elim id (fun q => q.2)
      exact Or.inr ⟨a, b⟩
    · have hv2 : v < k := by omega
      rcases h1 with h1 | ⟨h1, h3⟩
      · rcases h2 with h2 | ⟨h2, h4⟩
        · exact Or.inl (ih v hv2 w h1 u h2)
        · exact Or.inr ⟨ih v hv2 w h1 k h2, h4⟩
      · rcases h2 with h2 | ⟨h2, h4⟩
        · exact Or.inr ⟨h1, ih v hv2 k h3 u h2⟩
        · exact Or.inr ⟨h1, h4⟩
theorem wlr_0 (R : Nat → Int32) : ∀ k, k ≤ 32 → ∀ w u, bt (R w) u = true → bt (wlr R k w) u = true
  | 0, _, _, _, h => h
  | k + 1, hk, w, u, h => by
    rw [wlr, wrf_b _ (show k < 32 by omega)]
    exact Or.inl (wlr_0 R k (by omega) w u h)
def rg (R : Nat → Int32) : Nat → Int32
  | 0 => 0
  | i + 1 => rg R i ||| (R i &&& ((1 : Int32) <<< (nI i &&& 31)))
def ug (R : Nat → Int32) (g : Int32) : Nat → Int32
  | 0 => g
  | i + 1 => ug R g i ||| (if (R i &&& g) = 0 then 0 else ((1 : Int32) <<< (nI i &&& 31)))
theorem rg_b (R : Nat → Int32) : ∀ n, n ≤ 32 → ∀ i, i < 32 → (bt (rg R n) i = true ↔ i < n ∧ bt (R i) i = true)
  | 0, _, i, _ => by rw [rg, b_0]; simp
  | n + 1, hn, i, hi => by
    rw [rg, b_or, Bool.or_eq_true, rg_b R n (by omega) i hi, b_and, b_one n (by omega) i hi, Bool.and_eq_true, decide_eq_true_eq]
    constructor
    · rintro (⟨a, b⟩ | ⟨a, b⟩)
      · exact ⟨by omega, b⟩
      · subst b; exact ⟨by omega, a⟩
    · rintro ⟨a, b⟩
      by_cases e : i = n
      · subst e; exact Or.inr ⟨b, rfl⟩
      · exact Or.inl ⟨by omega, b⟩
theorem ug_b (R : Nat → Int32) (g : Int32) : ∀ n, n ≤ 32 → ∀ i, i < 32 → (bt (ug R g n) i = true ↔ bt g i = true ∨ (i < n ∧ ¬ (R i &&& g) = 0))
  | 0, _, i, _ => by rw [ug]; simp
  | n + 1, hn, i, hi => by
    rw [ug, b_or, Bool.or_eq_true, ug_b R g n (by omega) i hi]
    by_cases z : (R n &&& g) = 0
    · rw [if_pos z, b_0]
      constructor
      · rintro ((a | a) | a)
        · exact Or.inl a
        · exact Or.inr ⟨by omega, a.2⟩
        · exact absurd a (by decide)
      · rintro (a | a)
        · exact Or.inl (Or.inl a)
        · by_cases e : i = n
          · subst e; exact absurd z a.2
          · exact Or.inl (Or.inr ⟨by omega, a.2⟩)
    · rw [if_neg z, b_one n (by omega) i hi, decide_eq_true_eq]
      constructor
      · rintro ((a | a) | a)
        · exact Or.inl a
        · exact Or.inr ⟨by omega, a.2⟩
        · subst a; exact Or.inr ⟨by omega, z⟩
      · rintro (a | a)
        · exact Or.inl (Or.inl a)
        · by_cases e : i = n
          · exact Or.inr e
          · exact Or.inl (Or.inr ⟨by omega, a.2⟩)
/-- a word that is sound comes to no word of a ring -/
theorem sound_b {R : Nat → Int32} {W w : Nat} (hW : W ≤ 24) (hw : w < W) (h : ¬ bt (ug R (rg R W) W) w = true) : ∀ v, v < W → bt (R w) v = true → ¬ bt (R v) v = true := by
  intro v hv a b
  refine h ((ug_b R _ W (by omega) w (by omega)).mpr (Or.inr ⟨hw, fun z => ?_⟩))
  have c := b_and (R w) (rg R W) v
  rw [z, b_0, a, (rg_b R W (by omega) v (by omega)).mpr ⟨hv, b⟩] at c
  exact absurd c (by decide)
def bcn (x : Int32) : Nat → Nat
  | 0 => 0
  | n + 1 => bcn x n + (if bt x n = true then 1 else 0)
theorem bcn_le (x : Int32) : ∀ n, bcn x n ≤ n
  | 0 => Nat.le_refl 0
  | n + 1 => by
    rw [bcn]
    have := bcn_le x n
    split <;> omega
theorem bcn_mono {x y : Int32} : ∀ n, (∀ v, v < n → bt y v = true → bt x v = true) → bcn y n ≤ bcn x n
  | 0, _ => Nat.le_refl 0
  | n + 1, h => by
    rw [bcn, bcn]
    have a := bcn_mono n (fun v hv => h v (by omega))
    have b := h n (by omega)
    by_cases c : bt y n = true
    · rw [if_pos c, if_pos (b c)]; omega
    · rw [if_neg c]; omega
theorem bcn_lt {x y : Int32} {f : Nat} : ∀ n, (∀ v, v < n → bt y v = true → bt x v = true) → f < n → bt x f = true → ¬ bt y f = true → bcn y n < bcn x n
  | 0, _, hf, _, _ => absurd hf (by omega)
  | n + 1, h, hf, a, b => by
    rw [bcn, bcn]
    by_cases e : f = n
    · subst e
      have := bcn_mono f (fun v hv => h v (by omega))
      rw [if_pos a, if_neg b]; omega
    · have := bcn_lt n (fun v hv => h v (by omega)) (show f < n by omega) a b
      have c := h n (by omega)
      by_cases d : bt y n = true
      · rw [if_pos d, if_pos (c d)]; omega
      · rw [if_neg d]; omega
theorem bcn_pos {x : Int32} {f n : Nat} (hf : f < n) (h : bt x f = true) : 0 < bcn x n := by
  have := bcn_lt (x := x) (y := 0) n (fun v _ a => by rw [b_0] at a; exact absurd a (by decide)) hf h (by rw [b_0]; decide)
  omega
/-- so it comes to its end -/
theorem chn_of {M : Mm} {W : Nat} {R : Nat → Int32} (hf : ∀ w, w < W → wd M w 6 = -4 ∨ ∃ f, f < W ∧ wd M w 6 = nI f ∧ bt (R w) f = true) (ht : ∀ v, v < W → ∀ w, bt (R w) v = true → ∀ u, bt (R v) u = true → bt (R w) u = true) : ∀ n w, w < W → (∀ v, v < W → bt (R w) v = true → ¬ bt (R v) v = true) → bcn (R w) W ≤ n → chn M W n w
  | 0, w, hw, hs, hb => by
    rcases hf w hw with e | ⟨f, hfW, e, hb2⟩
    · exact e
    · have := bcn_pos hfW hb2
      omega
  | n + 1, w, hw, hs, hb => by
    rcases hf w hw with e | ⟨f, hfW, e, hb2⟩
    · exact Or.inl e
    · refine Or.inr ⟨f, hfW, e, chn_of hf ht n f hfW (fun v hv a => hs v hv (ht f hfW w hb2 v a)) ?_⟩
      have := bcn_lt (x := R w) (y := R f) W (fun v _ a => ht f hfW w hb2 v a) hfW hb2 (hs f hfW hb2)
      omega
theorem mask_b : ∀ W, W ≤ 24 → ∀ i, i < 32 → bt (((1 : Int32) <<< (nI W &&& 31)) - 1) i = decide (i < W) := by decide +kernel
theorem um_of {x : Int32} {W : Nat} (hW : W ≤ 24) (h : ∀ i, i < 32 → bt x i = true → i < W) : x &&& (((1 : Int32) <<< (nI W &&& 31)) - 1) = x := by
  refine b_ext (fun i hi => ?_)
  rw [b_and, mask_b W hW i hi]
  by_cases a : bt x i = true
  · rw [a, decide_eq_true (h i hi a)]; rfl
  · have : bt x i = false := by simpa using a
    rw [this]; rfl
theorem ug_lt {R : Nat → Int32} {W i : Nat} (hW : W ≤ 24) (hi : i < 32) (h : bt (ug R (rg R W) W) i = true) : i < W := by
  rcases (ug_b R _ W (by omega) i hi).mp h with a | a
  · exact ((rg_b R W (by omega) i hi).mp a).1
  · exact a.1
/-! ===== findFollowing, findSaid ===== -/
theorem si_si (M : Mm) (a j : Nat) (v w : Int32) : si (si M a j v) a j w = si M a j w := by
  refine mm_ext rfl (fun b k => ?_) (fun _ _ => rfl) (fun _ _ => rfl)
  simp only [gi_si]
  split <;> rfl
theorem rwm_rwm (M : Mm) (a n : Nat) (f g : Nat → Int32) : rwm (rwm M a n f) a n g = rwm M a n g := by
  refine mm_ext rfl (fun b k => ?_) (fun _ _ => rfl) (fun _ _ => rfl)
  simp only [gi_rwm]
  split <;> rfl
def ffR (M : Mm) (W : Nat) : Nat → Int32 := wlr (fow M) W
def ffM (M : Mm) (W : Nat) : Mm := si (si (rwm M 6807 W (ffR M W)) 6027 23 (rg (ffR M W) W)) 6027 24 (ug (ffR M W) (rg (ffR M W) W) W)
theorem sM_findFollowing {M : Mm} {W : Nat} {K : Mm → Prop} (hm : MR M) (hW : gi M 6027 0 = nI W) (hW2 : W ≤ 24) (h : K (ffM M W)) : CV mM_findFollowing [.ref 6027] M K := by
  have m1 : ∀ n f, MR (rwm M 6807 n f) := fun n f => mr_w hm rfl
  have w1 : ∀ n f, gi (rwm M 6807 n f) 6027 0 = nI W := fun n f => by rw [rwmR _ _ _ _ _ _ (by decide), hW]
  have a1 : ∀ n f k, k < n → gi (rwm M 6807 n f) 6807 k = f k := fun n f k hk => by rw [gi_rwm, if_pos ⟨rfl, hk⟩]
  have le : ∀ {x : Int32} {i}, x = nI W → i < W → ¬ x ≤ nI i := fun e hi => by rw [e]; exact nge rfl (by omega) hi
  have se : ∀ {x : Int32}, x = nI W → x ≤ nI W := fun e => by rw [e]; exact Int32.le_refl _
  have k4 : X mM_findFollowing 142 [(0, .ref 6027), (1, .int 0)] [] (si (si (rwm M 6807 W (ffR M W)) 6027 23 (rg (ffR M W) W)) 6027 24 (rg (ffR M W) W)) (mC mM_findFollowing, mS mM_findFollowing) (QV K) := by
    have key := lp W (P := fun i => X mM_findFollowing 142 [(0, .ref 6027), (1, .int (nI i))] [] (si (si (rwm M 6807 W (ffR M W)) 6027 23 (rg (ffR M W) W)) 6027 24 (ug (ffR M W) (rg (ffR M W) W) i)) (mC mM_findFollowing, mS mM_findFollowing) (QV K)) (fun i hi ih => ?_) ?_
    · exact key
    · have e0 : gi (si (si (rwm M 6807 W (ffR M W)) 6027 23 (rg (ffR M W) W)) 6027 24 (ug (ffR M W) (rg (ffR M W) W) i)) 6027 0 = nI W := by rw [g6 _ _ _ _ (by decide), g6 _ _ _ _ (by decide), w1]
      have er : gi (si (si (rwm M 6807 W (ffR M W)) 6027 23 (rg (ffR M W) W)) 6027 24 (ug (ffR M W) (rg (ffR M W) W) i)) 6807 i = ffR M W i := by rw [giR _ _ _ _ _ _ (by decide), giR _ _ _ _ _ _ (by decide), a1 _ _ _ hi]
      have e23 : gi (si (si (rwm M 6807 W (ffR M W)) 6027 23 (rg (ffR M W) W)) 6027 24 (ug (ffR M W) (rg (ffR M W) W) i)) 6027 23 = rg (ffR M W) W := by rw [g6 _ _ _ _ (by decide), g6s]
      have e24 : gi (si (si (rwm M 6807 W (ffR M W)) 6027 23 (rg (ffR M W) W)) 6027 24 (ug (ffR M W) (rg (ffR M W) W) i)) 6027 24 = ug (ffR M W) (rg (ffR M W) W) i := g6s _ _ _
      rw [ug] at ih
      have mr := mr22 (mr_w (m1 W (ffR M W)) (show gr (si (si (rwm M 6807 W (ffR M W)) 6027 23 (rg (ffR M W) W)) 6027 24 (ug (ffR M W) (rg (ffR M W) W) i)) = _ from rfl))
      refine vM_findFollowing_142 rfl mr ⟨fun _ => vin (show i < 25 by omega) (by decide), fun q => absurd q (le e0 hi), fun q => vM_findFollowing_176 rfl ?_, fun q => vM_findFollowing_176 rfl ?_⟩
      · rw [ncl (by omega), er, e23] at q
        rw [e24, si_si, nI_s]
        rw [if_pos q.2] at ih; exact ih
      · rw [ncl (by omega), er, e23] at q
        rw [e24, si_si, nI_s]
        rw [if_neg q.2] at ih; exact ih
    · have e0 : gi (si (si (rwm M 6807 W (ffR M W)) 6027 23 (rg (ffR M W) W)) 6027 24 (ug (ffR M W) (rg (ffR M W) W) W)) 6027 0 = nI W := by rw [g6 _ _ _ _ (by decide), g6 _ _ _ _ (by decide), w1]
      have mr := mr22 (mr_w (m1 W (ffR M W)) (show gr (si (si (rwm M 6807 W (ffR M W)) 6027 23 (rg (ffR M W) W)) 6027 24 (ug (ffR M W) (rg (ffR M W) W) W)) = _ from rfl))
      exact vM_findFollowing_142 rfl mr ⟨fun q => absurd (se e0) q, fun _ => h, fun q => absurd (se e0) q.1, fun q => absurd (se e0) q.1⟩
  have k3 : X mM_findFollowing 99 [(0, .ref 6027), (1, .int 0)] [] (si (rwm M 6807 W (ffR M W)) 6027 23 0) (mC mM_findFollowing, mS mM_findFollowing) (QV K) := by
    have key := lp W (P := fun i => X mM_findFollowing 99 [(0, .ref 6027), (1, .int (nI i))] [] (si (rwm M 6807 W (ffR M W)) 6027 23 (rg (ffR M W) i)) (mC mM_findFollowing, mS mM_findFollowing) (QV K)) (fun i hi ih => ?_) ?_
    · exact key
    · have e0 : gi (si (rwm M 6807 W (ffR M W)) 6027 23 (rg (ffR M W) i)) 6027 0 = nI W := by rw [g6 _ _ _ _ (by decide), w1]
      have er : gi (si (rwm M 6807 W (ffR M W)) 6027 23 (rg (ffR M W) i)) 6807 i = ffR M W i := by rw [giR _ _ _ _ _ _ (by decide), a1 _ _ _ hi]
      have e23 : gi (si (rwm M 6807 W (ffR M W)) 6027 23 (rg (ffR M W) i)) 6027 23 = rg (ffR M W) i := g6s _ _ _
      rw [rg] at ih
      have mr := mr22 (mr_w (m1 W (ffR M W)) (show gr (si (rwm M 6807 W (ffR M W)) 6027 23 (rg (ffR M W) i)) = _ from rfl))
      refine vM_findFollowing_99 rfl mr ⟨fun _ => vin (show i < 25 by omega) (by decide), fun q => absurd q (le e0 hi), fun q => ?_⟩
      rw [ncl (by omega), er, e23, si_si, nI_s]
      exact ih
    · have e0 : gi (si (rwm M 6807 W (ffR M W)) 6027 23 (rg (ffR M W) W)) 6027 0 = nI W := by rw [g6 _ _ _ _ (by decide), w1]
      have e23 : gi (si (rwm M 6807 W (ffR M W)) 6027 23 (rg (ffR M W) W)) 6027 23 = rg (ffR M W) W := g6s _ _ _
      have mr := mr22 (mr_w (m1 W (ffR M W)) (show gr (si (rwm M 6807 W (ffR M W)) 6027 23 (rg (ffR M W) W)) = _ from rfl))
      refine vM_findFollowing_99 rfl mr ⟨fun q => absurd (se e0) q, fun _ => ?_, fun q => absurd (se e0) q⟩
      rw [e23]; exact k4
  have k2 : X mM_findFollowing 29 [(0, .ref 6027), (1, .int 0)] [] (rwm M 6807 W (fow M)) (mC mM_findFollowing, mS mM_findFollowing) (QV K) := by
    have key := lp W (P := fun m => X mM_findFollowing 29 [(0, .ref 6027), (1, .int (nI m))] [] (rwm M 6807 W (wlr (fow M) m)) (mC mM_findFollowing, mS mM_findFollowing) (QV K)) (fun m hm2 ih => ?_) ?_
    · exact key
    · refine vM_findFollowing_29 rfl ⟨fun q => absurd q (le (w1 _ _) hm2), fun _ => ?_⟩
      rw [wlr] at ih
      generalize wlr (fow M) m = R at ih ⊢
      have key2 := lp W (P := fun i => X mM_findFollowing 39 [(0, .ref 6027), (1, .int (nI m)), (2, .int (nI i))] [] (rwm (rwm M 6807 W R) 6807 i (wrf R m)) (mC mM_findFollowing, mS mM_findFollowing) (QV K)) (fun i hi ih2 => ?_) ?_
      · rw [rwm_0] at key2; exact key2
      · have e0 : gi (rwm (rwm M 6807 W R) 6807 i (wrf R m)) 6027 0 = nI W := by rw [rwmR _ _ _ _ _ _ (by decide), w1]
        have ei : gi (rwm (rwm M 6807 W R) 6807 i (wrf R m)) 6807 i = R i := by rw [gi_rwm, if_neg (fun q => by omega), a1 _ _ _ hi]
        have em : gi (rwm (rwm M 6807 W R) 6807 i (wrf R m)) 6807 m = R m := by
          rw [gi_rwm]
          by_cases l : m < i
          · rw [if_pos ⟨rfl, l⟩, wrf_m]
          · rw [if_neg (fun q => l q.2), a1 _ _ _ hm2]
        have mr := mr22 (mr_w hm (show gr (rwm (rwm M 6807 W R) 6807 i (wrf R m)) = _ from rfl))
        refine vM_findFollowing_39 rfl mr ⟨fun _ => vin (show i < 25 by omega) (by decide), fun _ => vin (show i < 25 by omega) (by decide), fun _ => vin (show m < 25 by omega) (by decide), fun q => absurd q (le e0 hi), fun q => vM_findFollowing_78 rfl ⟨vin (show i < 25 by omega) (by decide), ?_⟩, fun q => vM_findFollowing_78 rfl ⟨vin (show i < 25 by omega) (by decide), ?_⟩⟩
        · rw [ncl (show i < 2 ^ 31 by omega), ei] at q ⊢
          have e : wrf R m i = R i ||| 0 := by unfold wrf; rw [if_neg q.2]
          rw [← e, rwm_s, nI_s]; exact ih2
        · rw [ncl (show i < 2 ^ 31 by omega), ei] at q ⊢
          rw [ncl (show m < 2 ^ 31 by omega), em]
          have e : wrf R m i = R i ||| R m := by unfold wrf; rw [if_pos q.2]
          rw [← e, rwm_s, nI_s]; exact ih2
      · have e0 : gi (rwm (rwm M 6807 W R) 6807 W (wrf R m)) 6027 0 = nI W := by rw [rwmR _ _ _ _ _ _ (by decide), w1]
        have mr := mr22 (mr_w hm (show gr (rwm (rwm M 6807 W R) 6807 W (wrf R m)) = _ from rfl))
        refine vM_findFollowing_39 rfl mr ⟨fun q => absurd (se e0) q, fun q => absurd (se e0) q, fun q => absurd (se e0) q.1, fun _ => ?_, fun q => absurd (se e0) q.1, fun q => absurd (se e0) q.1⟩
        rw [rwm_rwm, nI_s]; exact ih
    · refine vM_findFollowing_29 rfl ⟨fun _ => k3, fun q => absurd (se (w1 _ _)) q⟩
  refine call_of rfl (Nat.le_of_ble_eq_true rfl) rfl (vM_findFollowing_0 ?_)
  have key := lp W (P := fun i => X mM_findFollowing 2 [(0, .ref 6027), (1, .int (nI i))] [] (rwm M 6807 i (fow M)) (mC mM_findFollowing, mS mM_findFollowing) (QV K)) (fun i hi ih => ?_) ?_
  · rw [rwm_0] at key; exact key
  · refine vM_findFollowing_2 rfl (mr22 (m1 _ _)) ⟨fun q => absurd q (le (w1 _ _) hi), fun _ => sM_followed (m1 _ _) (by omega) (vM_findFollowing_20 rfl ⟨vin (show i < 25 by omega) (by decide), ?_⟩)⟩
    have fo : ∀ n f, fow (rwm M 6807 n f) i = fow M i := by
      intro n f
      have ew : ∀ w k, wd (rwm M 6807 n f) w k = wd M w k := fun w k => rwmR _ _ _ _ _ _ (by decide)
      have es : ∀ v, fos (rwm M 6807 n f) i v = fos M i v := by
        intro v
        induction v with
        | zero => rfl
        | succ v ih => rw [fos, fos, ih, ew, ew, ew]
      unfold fow
      rw [ew, ew, es]
    rw [ncl (by omega), fo, rwm_s, nI_s]; exact ih
  · exact vM_findFollowing_2 rfl (mr22 (m1 _ _)) ⟨fun _ => k2, fun q => absurd (se (w1 _ _)) q⟩
end MG30
section MG31
/-! ===== the reference: findSaid, keepLibrary ===== -/
def fs1 (q : Int32 × Mm) (w : Nat) : Int32 × Mm := if ((q.1 >>> (nI w &&& 31)) &&& 1) = 0 ∧ ¬ uns q.2 w ∧ (fow q.2 w &&& (q.1 ^^^ (-1))) = 0 then (q.1 ||| ((1 : Int32) <<< (nI w &&& 31)), sl (sl q.2 6874 w (swv q.2 w).1) 6938 w (swv q.2 w).2) else q
def fsr (q : Int32 × Mm) : Nat → Int32 × Mm
  | 0 => q
  | w + 1 => fs1 (fsr q w) w
def fsR (q : Int32 × Mm) (W : Nat) : Nat → Int32 × Mm
  | 0 => q
  | r + 1 => fsr (fsR q W r) W
def zl (M : Mm) (i : Nat) : Mm := (M.1, gi M, (fun a k => if (a = 6874 ∨ a = 6938) ∧ k < i then 0 else gl M a k), gr M)
theorem gl_zl (M : Mm) (i a k : Nat) : gl (zl M i) a k = if (a = 6874 ∨ a = 6938) ∧ k < i then 0 else gl M a k := rfl
theorem zl_0 (M : Mm) : zl M 0 = M := by
  refine mm_ext rfl (fun _ _ => rfl) (fun a k => ?_) (fun _ _ => rfl)
  rw [gl_zl, if_neg (by omega)]
theorem zl_s (M : Mm) (i : Nat) : sl (sl (zl M i) 6874 i 0) 6938 i 0 = zl M (i + 1) := by
  refine mm_ext rfl (fun _ _ => rfl) (fun a k => ?_) (fun _ _ => rfl)
  rw [gl_sl, gl_sl, gl_zl, gl_zl]
  by_cases h1 : a = 6938 ∧ k = i
  · rw [if_pos h1, if_pos ⟨Or.inr h1.1, by omega⟩]
  · rw [if_neg h1]
    by_cases h2 : a = 6874 ∧ k = i
    · rw [if_pos h2, if_pos ⟨Or.inl h2.1, by omega⟩]
    · rw [if_neg h2]
      by_cases h3 : (a = 6874 ∨ a = 6938) ∧ k < i
      · rw [if_pos h3, if_pos ⟨h3.1, by omega⟩]
      · rw [if_neg h3, if_neg (fun q => h3 ⟨q.1, by omega⟩)]
/-- what findSaid changes: what words say -/
def FS (M N : Mm) : Prop := N.1 = M.1 ∧ gi N = gi M ∧ gr N = gr M ∧ ∀ a j, ¬ (a = 6874 ∨ a = 6938) → gl N a j = gl M a j
theorem fs_rf (M : Mm) : FS M M := ⟨rfl, rfl, rfl, fun _ _ _ => rfl⟩
theorem fs_tr {M N O : Mm} (f : FS M N) (g : FS N O) : FS M O := ⟨g.1.trans f.1, g.2.1.trans f.2.1, g.2.2.1.trans f.2.2.1, fun a j h => (g.2.2.2 a j h).trans (f.2.2.2 a j h)⟩
theorem fs_fs1 (q : Int32 × Mm) (w : Nat) : FS q.2 (fs1 q w).2 := by
  unfold fs1
  split
  · refine ⟨rfl, rfl, rfl, fun a j h => ?_⟩
    rw [gl_sl, if_neg (fun e => h (Or.inr e.1)), gl_sl, if_neg (fun e => h (Or.inl e.1))]
  · exact fs_rf _
theorem fs_fsr (q : Int32 × Mm) : ∀ w, FS q.2 (fsr q w).2
  | 0 => fs_rf _
  | w + 1 => fs_tr (fs_fsr q w) (fs_fs1 _ w)
theorem fs_fsR (q : Int32 × Mm) (W : Nat) : ∀ r, FS q.2 (fsR q W r).2
  | 0 => fs_rf _
  | r + 1 => fs_tr (fs_fsR q W r) (fs_fsr _ W)
theorem fs_zl (M : Mm) (i : Nat) : FS M (zl M i) := ⟨rfl, rfl, rfl, fun a j h => by rw [gl_zl, if_neg (fun e => h e.1)]⟩
/-- a word that follows another has one to follow -/
def KF (M : Mm) (W : Nat) : Prop := ∀ w, w < W → ¬ wd M w 0 = 0 → ¬ wd M w 0 = 4 → ¬ wd M w 0 = 5 → ∃ f, f < 25 ∧ f ≠ w ∧ wd M w 6 = nI f
def fsM (M : Mm) (W : Nat) : Mm := (fsR (0, zl M W) W W).2
theorem fs_fsM (M : Mm) (W : Nat) : FS M (fsM M W) := fs_tr (fs_zl M W) (fs_fsR _ W W)
theorem sM_findSaid {M : Mm} {W : Nat} {K : Mm → Prop} (hm : MR M) (hW : gi M 6027 0 = nI W) (hW2 : W ≤ 24) (hk : KF M W) (h : K (fsM M W)) : CV mM_findSaid [.ref 6027] M K := by
  have le : ∀ {x : Int32} {i}, x = nI W → i < W → ¬ x ≤ nI i := fun e hi => by rw [e]; exact nge rfl (by omega) hi
  have se : ∀ {x : Int32}, x = nI W → x ≤ nI W := fun e => by rw [e]; exact Int32.le_refl _
  have k2 : X mM_findSaid 34 [(0, .ref 6027), (1, .int 0), (2, .int 0)] [] (zl M W) (mC mM_findSaid, mS mM_findSaid) (QV K) := by
    have key := lp W (P := fun r => X mM_findSaid 34 [(0, .ref 6027), (1, .int (fsR (0, zl M W) W r).1), (2, .int (nI r))] [] (fsR (0, zl M W) W r).2 (mC mM_findSaid, mS mM_findSaid) (QV K)) (fun r hr ih => ?_) ?_
    · exact key
    · have f0 := fs_tr (fs_zl M W) (fs_fsR (0, zl M W) W r)
      rw [fsR] at ih
      generalize fsR (0, zl M W) W r = q0 at ih f0 ⊢
      have e0 : gi q0.2 6027 0 = nI W := by rw [f0.2.1, hW]
      refine vM_findSaid_34 rfl ⟨fun q => absurd q (le e0 hr), fun _ => ?_⟩
      have key2 := lp W (P := fun w => X mM_findSaid 44 [(0, .ref 6027), (1, .int (fsr q0 w).1), (2, .int (nI r)), (3, .int (nI w))] [] (fsr q0 w).2 (mC mM_findSaid, mS mM_findSaid) (QV K)) (fun w hw ih2 => ?_) ?_
      · exact key2
      · have f1 := fs_tr f0 (fs_fsr q0 w)
        rw [fsr] at ih2
        generalize fsr q0 w = q1 at ih2 f1 ⊢
        have e1 : gi q1.2 6027 0 = nI W := by rw [f1.2.1, hW]
        have m1 : MR q1.2 := mr_w hm f1.2.2.1
        have no : ¬ (((q1.1 >>> (nI w &&& 31)) &&& 1) = 0 ∧ ¬ uns q1.2 w ∧ (fow q1.2 w &&& (q1.1 ^^^ (-1))) = 0) → X mM_findSaid 84 [(0, .ref 6027), (1, .int q1.1), (2, .int (nI r)), (3, .int (nI w))] [] q1.2 (mC mM_findSaid, mS mM_findSaid) (QV K) := by
          intro n
          refine vM_findSaid_84 (vM_findSaid_85 rfl ⟨fun _ => ?_, fun q => absurd rfl q⟩)
          have e : fs1 q1 w = q1 := by unfold fs1; rw [if_neg n]
          rw [e] at ih2
          rw [nI_s]; exact ih2
        refine vM_findSaid_44 rfl ⟨fun q => absurd q (le e1 hw), fun q => no (fun n => q.2 n.1), fun q => sM_isUnsound (vM_findSaid_65 rfl ⟨fun u => no (fun n => ?_), fun u => sM_followed m1 (by omega) (vM_findSaid_73 ⟨fun p => no (fun n => p n.2.2), fun p => vM_findSaid_85 rfl ⟨fun z => absurd z (by decide), fun _ => ?_⟩⟩)⟩)⟩
        · rw [if_neg n.2.1] at u; exact u rfl
        · have u' : ¬ uns q1.2 w := fun z => by rw [if_pos z] at u; exact absurd u (by decide)
          have e : fs1 q1 w = (q1.1 ||| ((1 : Int32) <<< (nI w &&& 31)), sl (sl q1.2 6874 w (swv q1.2 w).1) 6938 w (swv q1.2 w).2) := by unfold fs1; rw [if_pos ⟨q.2, u', p⟩]
          rw [e] at ih2
          have ew : ∀ v k, wd q1.2 v k = wd M v k := fun v k => by unfold wd; rw [f1.2.1]
          refine sM_sayWord m1 (by omega) (fun a b c => ?_) (vM_findSaid_97 ?_)
          · rw [ew] at a b c ⊢
            exact hk w hw a b c
          · rw [nI_s]; exact ih2
      · have f1 := fs_tr f0 (fs_fsr q0 W)
        generalize fsr q0 W = q1 at ih f1 ⊢
        have e1 : gi q1.2 6027 0 = nI W := by rw [f1.2.1, hW]
        refine vM_findSaid_44 rfl ⟨fun _ => ?_, fun q => absurd (se e1) q.1, fun q => absurd (se e1) q.1⟩
        rw [nI_s]; exact ih
    · have f0 := fs_tr (fs_zl M W) (fs_fsR (0, zl M W) W W)
      have e0 : gi (fsR (0, zl M W) W W).2 6027 0 = nI W := by rw [f0.2.1, hW]
      exact vM_findSaid_34 rfl ⟨fun _ => h, fun q => absurd (se e0) q⟩
  refine call_of rfl (Nat.le_of_ble_eq_true rfl) rfl (vM_findSaid_0 ?_)
  have key := lp W (P := fun i => X mM_findSaid 4 [(0, .ref 6027), (1, .int 0), (2, .int (nI i))] [] (zl M i) (mC mM_findSaid, mS mM_findSaid) (QV K)) (fun i hi ih => ?_) ?_
  · rw [zl_0] at key; exact key
  · have mz : MR (zl M i) := mr_w hm rfl
    refine vM_findSaid_4 rfl (mr25 mz) (mr26 mz) ⟨fun q => absurd q (le hW hi), fun _ => ⟨vin (show i < 25 by omega) (by decide), vin (show i < 25 by omega) (by decide), ?_⟩⟩
    rw [ncl (by omega), zl_s, nI_s]; exact ih
  · have mz : MR (zl M W) := mr_w hm rfl
    exact vM_findSaid_4 rfl (mr25 mz) (mr26 mz) ⟨fun _ => k2, fun q => absurd (se hW) q⟩
/-- what is kept of what was told -/
def kbM (M : Mm) (W : Nat) : Mm := fsM (ffM (kb2 M) W) W
theorem gr_ffM (M : Mm) (W : Nat) : gr (ffM M W) = gr M := rfl
theorem gl_ffM (M : Mm) (W : Nat) : gl (ffM M W) = gl M := rfl
theorem ffM_ne (M : Mm) (W a : Nat) (h1 : a ≠ 6027) (h2 : a ≠ 6807) : gi (ffM M W) a = gi M a := by
  unfold ffM
  rw [gi_ne h1, gi_ne h1]
  funext k
  rw [rwmR _ _ _ _ _ _ h2]
theorem ffM_f (M : Mm) (W k : Nat) (h1 : k ≠ 23) (h2 : k ≠ 24) : gi (ffM M W) 6027 k = gi M 6027 k := by
  unfold ffM
  rw [g6 _ _ _ _ h2, g6 _ _ _ _ h1, rwmR _ _ _ _ _ _ (by decide)]
theorem kb1_ne (M : Mm) (a k : Nat) (h1 : a ≠ 6101) (h2 : a ≠ 6027) : gi (kb1 M) a k = gi M a k := by
  unfold kb1; rw [rwmR _ _ _ _ _ _ h1, giR _ _ _ _ _ _ h2]
theorem kb2_ne (M : Mm) (a k : Nat) (h1 : a ≠ 6101) (h2 : a ≠ 6027) (h3 : a ≠ 6157) : gi (kb2 M) a k = gi M a k := by
  unfold kb2; rw [giR _ _ _ _ _ _ h2, rwmR _ _ _ _ _ _ h3, kb1_ne _ _ _ h1 h2]
theorem kb2_t (M : Mm) (k : Nat) (h : k < 250) : gi (kb2 M) 6101 k = gi M 6229 k := by
  unfold kb2; rw [giR _ _ _ _ _ _ (by decide), rwmR _ _ _ _ _ _ (by decide), kb1, gi_rwm, if_pos ⟨rfl, h⟩]
theorem kb2_c (M : Mm) (k : Nat) (h : k < 8) : gi (kb2 M) 6157 k = gi M 6285 k := by
  unfold kb2; rw [giR _ _ _ _ _ _ (by decide), gi_rwm, if_pos ⟨rfl, h⟩]
theorem kb2_f (M : Mm) (k : Nat) (h1 : k ≠ 0) (h2 : k ≠ 9) : gi (kb2 M) 6027 k = gi M 6027 k := by
  unfold kb2; rw [g6 _ _ _ _ h2, rwmR _ _ _ _ _ _ (by decide), kb1, rwmR _ _ _ _ _ _ (by decide), g6 _ _ _ _ h1]
theorem kb2_0 (M : Mm) : gi (kb2 M) 6027 0 = gi M 6027 3 := by
  unfold kb2; rw [g6 _ _ _ _ (by decide), rwmR _ _ _ _ _ _ (by decide), kb1, rwmR _ _ _ _ _ _ (by decide), g6s]
theorem kb2_9 (M : Mm) : gi (kb2 M) 6027 9 = 255 := by unfold kb2; rw [g6s]
theorem sM_keepLibrary {M : Mm} {W : Nat} {K : Mm → Prop} (hm : MR M) (hz : gi M 6027 3 = nI W) (hW2 : W ≤ 24) (hk : KF (kb2 M) W) (h : K (kbM M W)) : CV mM_keepLibrary [.ref 6027] M K := by
  refine call_of rfl (Nat.le_of_ble_eq_true rfl) rfl ?_
  refine vM_keepLibrary_0 rfl ?_
  have k2 : X mM_keepLibrary 37 [(0, .ref 6027), (1, .int 0)] [] (kb1 M) (mC mM_keepLibrary, mS mM_keepLibrary) (QV K) := by
    have key := lp 8 (P := fun i => X mM_keepLibrary 37 [(0, .ref 6027), (1, .int (nI i))] [] (rwm (kb1 M) 6157 i (gi M 6285)) (mC mM_keepLibrary, mS mM_keepLibrary) (QV K)) (fun i hi ih => ?_) ?_
    · rw [rwm_0] at key
      exact key
    · have hm := mr_w hm (show gr (rwm (kb1 M) 6157 i (gi M 6285)) = gr M from by rw [gr_rwm, gr_kb1])
      refine vM_keepLibrary_37 rfl (mr2 hm) (mr5 hm) ⟨fun _ => vin hi (by decide), fun q => absurd q (nge rfl (by decide) hi), fun _ => ⟨vin hi (by decide), ?_⟩⟩
      rw [ncl (by omega), nI_s, rwmR _ _ _ _ _ _ (by decide)]
      rw [show gi (kb1 M) 6285 i = gi M 6285 i from rwmR _ _ _ _ _ _ (by decide), rwm_s]
      exact ih
    · have hm1 := mr_w hm (show gr (rwm (kb1 M) 6157 8 (gi M 6285)) = gr M from by rw [gr_rwm, gr_kb1])
      refine vM_keepLibrary_37 rfl (mr2 hm1) (mr5 hm1) ⟨fun q => absurd (nself rfl) q, fun _ => ?_, fun q => absurd (nself rfl) q⟩
      have e : gi (kb2 M) 6027 0 = nI W := (kb2_0 M).trans hz
      have m2 := mr_w hm (gr_kb2 M)
      refine sM_findFollowing (M := kb2 M) m2 e hW2 ?_
      refine vM_keepLibrary_72 rfl ?_
      have ew : ∀ v k, wd (ffM (kb2 M) W) v k = wd (kb2 M) v k := fun v k => by unfold wd; rw [ffM_ne _ _ _ (by decide) (by decide)]
      refine sM_findSaid (M := ffM (kb2 M) W) (mr_w m2 (gr_ffM _ _)) ((ffM_f _ _ _ (by decide) (by decide)).trans e) hW2 (fun w hw a b c => ?_) ?_
      · rw [ew] at a b c ⊢
        exact hk w hw a b c
      · exact vM_keepLibrary_76 h
  have key := lp 250 (P := fun i => X mM_keepLibrary 10 [(0, .ref 6027), (1, .int (nI i))] [] (rwm (si M 6027 0 (gi M 6027 3)) 6101 i (gi M 6229)) (mC mM_keepLibrary, mS mM_keepLibrary) (QV K)) (fun i hi ih => ?_) ?_
  · rw [rwm_0] at key
    exact key
  · refine vM_keepLibrary_10 rfl (mr1 hm) (mr4 hm) ⟨fun _ => vin hi (by decide), fun q => absurd q (nge rfl (by decide) hi), fun _ => ⟨vin hi (by decide), ?_⟩⟩
    rw [ncl (by omega), nI_s, rwmR _ _ _ _ _ _ (by decide), giR _ _ _ _ _ _ (by decide), rwm_s]
    exact ih
  · exact vM_keepLibrary_10 rfl (mr1 hm) (mr4 hm) ⟨fun q => absurd (nself rfl) q, fun _ => k2, fun q => absurd (nself rfl) q⟩
/-- the words that are kept may be asked -/
theorem kb_jw {M : Mm} {W : Nat} (hm : MR M) (lb : LB M W) (nb : ∀ w, w < W → ¬ bad M W w) : KF (kb2 M) W ∧ JW (kbM M W) W ∧ UM (kbM M W) W := by
  obtain ⟨h3, hW, -, hr⟩ := lb
  have e2 : ∀ w k, w < W → k < 10 → wd (kb2 M) w k = gi M 6229 (10 * w + k) := fun w k hw hk => kb2_t M _ (by omega)
  have fol : ∀ w, w < W → (wd (kb2 M) w 6 = -4 ∧ (wd (kb2 M) w 0 = 0 ∨ wd (kb2 M) w 0 = 4 ∨ wd (kb2 M) w 0 = 5)) ∨ ∃ f, f < W ∧ f ≠ w ∧ wd (kb2 M) w 6 = nI f ∧ ¬ wd (kb2 M) w 0 = 4 := by
    intro w hw
    obtain ⟨-, k, hk, ek, h⟩ := hr w hw
    have ek' : wd (kb2 M) w 0 = nI k := (e2 w 0 hw (by decide)).trans ek
    rcases h with ⟨n, e⟩ | ⟨n, f, hf, e⟩
    · left
      refine ⟨(e2 w 6 hw (by decide)).trans e, ?_⟩
      rw [ek']
      match k, hk, n with
      | 0, _, _ => exact Or.inl rfl
      | 4, _, _ => exact Or.inr (Or.inl rfl)
      | 5, _, _ => exact Or.inr (Or.inr rfl)
      | 1, _, n => exact absurd (by omega) n
      | 2, _, n => exact absurd (by omega) n
      | 3, _, n => exact absurd (by omega) n
    · right
      have nbw := nb w hw
      have c : f < W ∧ f ≠ w := by
        constructor
        · by_cases l : f < W
          · exact l
          · exfalso
            refine nbw ⟨by rw [e]; exact nI4 (by omega), Or.inl ?_⟩
            rw [e, nle (by omega) (by omega)]; omega
        · intro z
          refine nbw ⟨by rw [e]; exact nI4 (by omega), Or.inr (Or.inl ?_)⟩
          rw [e, z]
      refine ⟨f, c.1, c.2, (e2 w 6 hw (by decide)).trans e, ?_⟩
      rw [ek', show (4 : Int32) = nI 4 from rfl, ninj (by omega) (by decide)]
      omega
  have eg : gi (kbM M W) = gi (ffM (kb2 M) W) := (fs_fsM _ W).2.1
  have ew : ∀ v k, wd (kbM M W) v k = wd (kb2 M) v k := fun v k => by unfold wd; rw [eg, ffM_ne _ _ _ (by decide) (by decide)]
  have e24 : gi (kbM M W) 6027 24 = ug (ffR (kb2 M) W) (rg (ffR (kb2 M) W) W) W := by rw [eg]; unfold ffM; rw [g6s]
  refine ⟨fun w hw a b c => ?_, ⟨mr_w hm ?_, ?_, by omega, fun w hw => ⟨?_, fun u => ?_⟩⟩, ?_⟩
  · rcases fol w hw with ⟨-, z | z | z⟩ | ⟨f, hf, n, e, -⟩
    · exact absurd z a
    · exact absurd z b
    · exact absurd z c
    · exact ⟨f, by omega, n, e⟩
  · exact (fs_fsM _ W).2.2.1.trans ((gr_ffM _ _).trans (gr_kb2 M))
  · rw [eg, ffM_f _ _ _ (by decide) (by decide), kb2_0, h3]
  · obtain ⟨⟨b, hb, e⟩, -⟩ := hr w hw
    exact ⟨b, hb, by rw [ew, e2 w 2 hw (by decide), e]⟩
  · have hs : ¬ bt (ug (ffR (kb2 M) W) (rg (ffR (kb2 M) W) W) W) w = true := by
      intro z
      apply u
      unfold uns
      rw [e24]
      exact (bit1 _ (by omega)).mpr z
    have ch : chn (kbM M W) W 24 w := by
      refine chn_of (R := ffR (kb2 M) W) (fun v hv => ?_) (fun v hv x a y b => wlr_t _ W (by omega) v hv x a y b) 24 w hw (sound_b hW hw hs) (Nat.le_trans (bcn_le _ _) hW)
      rcases fol v hv with ⟨e, -⟩ | ⟨f, hf, n, e, n4⟩
      · exact Or.inl (by rw [ew]; exact e)
      · refine Or.inr ⟨f, hf, by rw [ew]; exact e, ?_⟩
        refine wlr_0 _ W (by omega) v f ?_
        unfold fow
        rw [if_neg n4, e, if_neg (nI4 (by omega)), b_one f (by omega) f (by omega), decide_eq_true rfl]
    have up : ∀ n v, chn (kbM M W) W n v → chn (kbM M W) W (n + 1) v := by
      intro n
      induction n with
      | zero => intro v q; exact Or.inl q
      | succ n ih => intro v q; exact q.imp id (fun ⟨f, a, b, c⟩ => ⟨f, a, b, ih f c⟩)
    exact up 24 w ch
  · unfold UM
    rw [e24]
    exact um_of hW (fun i hi z => ug_lt hW hi z)
end MG31
section MG32
/-! ===== the reference: library ===== -/
/-- what the queries stand on, and the tape's and the sheets' state, is the same -/
def OS (M N : Mm) : Prop := gr N = gr M ∧ (∀ a, ¬ (a = 6027 ∨ a = 6423 ∨ a = 6229 ∨ a = 6285 ∨ a = 6360) → gi N a = gi M a) ∧ (∀ k, ¬ ((11 ≤ k ∧ k ≤ 17) ∨ k = 3 ∨ k = 8) → gi N 6027 k = gi M 6027 k) ∧ gl N = gl M
/-- words of another library -/
def NL (M N : Mm) : Prop := gr N = gr M ∧ (∀ a, ¬ (a = 6027 ∨ a = 6423 ∨ a = 6229 ∨ a = 6285 ∨ a = 6360 ∨ a = 6101 ∨ a = 6157 ∨ a = 6807) → gi N a = gi M a) ∧ (∀ k, ¬ ((11 ≤ k ∧ k ≤ 17) ∨ k = 3 ∨ k = 8 ∨ k = 0 ∨ k = 9 ∨ k = 23 ∨ k = 24) → gi N 6027 k = gi M 6027 k) ∧ ∀ a j, ¬ (a = 6874 ∨ a = 6938) → gl N a j = gl M a j
end MG32
section MG33
/-! ===== the reference: rule ===== -/
def row (k : Int32) : Int32 := if k = 12 then 0 else (if k = 11 then 1 else (if k = 13 then 2 else (if k = 14 then 3 else (if k = 15 then 4 else (if k = 16 then 5 else (if k = 17 then 6 else (-4) : Int32) : Int32) : Int32) : Int32) : Int32) : Int32)
theorem row_c (k : Int32) : row k = -4 ∨ (k = 12 ∧ row k = nI 0) ∨ (k = 11 ∧ row k = nI 1) ∨ (k = 13 ∧ row k = nI 2) ∨ (k = 14 ∧ row k = nI 3) ∨ (k = 15 ∧ row k = nI 4) ∨ (k = 16 ∧ row k = nI 5) ∨ (k = 17 ∧ row k = nI 6) := by
  by_cases h12 : k = 12
  · subst h12; exact Or.inr (Or.inl ⟨rfl, rfl⟩)
  by_cases h11 : k = 11
  · subst h11; exact Or.inr (Or.inr (Or.inl ⟨rfl, rfl⟩))
  by_cases h13 : k = 13
  · subst h13; exact Or.inr (Or.inr (Or.inr (Or.inl ⟨rfl, rfl⟩)))
  by_cases h14 : k = 14
  · subst h14; exact Or.inr (Or.inr (Or.inr (Or.inr (Or.inl ⟨rfl, rfl⟩))))
  by_cases h15 : k = 15
  · subst h15; exact Or.inr (Or.inr (Or.inr (Or.inr (Or.inr (Or.inl ⟨rfl, rfl⟩)))))
  by_cases h16 : k = 16
  · subst h16; exact Or.inr (Or.inr (Or.inr (Or.inr (Or.inr (Or.inr (Or.inl ⟨rfl, rfl⟩))))))
  by_cases h17 : k = 17
  · subst h17; exact Or.inr (Or.inr (Or.inr (Or.inr (Or.inr (Or.inr (Or.inr ⟨rfl, rfl⟩))))))
  · left; unfold row; rw [if_neg h12, if_neg h11, if_neg h13, if_neg h14, if_neg h15, if_neg h16, if_neg h17]
section GPE
variable (T : Nat → Int32) (t : Nat) (tl : Nat → Int32) (s : Rst)
/-- a line of a rule: the state behind its name, behind what it tells, behind its end; what it tells -/
def ru1 : Rst := nxs T t (wts (if tl (row (lnk T t s)).toNatClampNeg = 0 then 1 else 0) 4 (wts (if row (lnk T t s) = -4 then 0 else 1) 2 s))
def ru2 : Rst := if lnk T t s = 12 then rms T t (ru1 T t tl s) else if lnk T t s = 11 then nxs T t (isn 0 9 (ru1 T t tl s)) else if lnk T t s = 13 then ru1 T t tl s else if lnk T t s = 14 then oos T t 20 18 19 (ru1 T t tl s) else if lnk T t s = 15 then rds T t (ru1 T t tl s) else if lnk T t s = 16 then oos T t 22 23 24 (ru1 T t tl s) else oos T t 20 18 21 (ru1 T t tl s)
def ruv : Int32 := if lnk T t s = 12 then rmv T t (ru1 T t tl s) else if lnk T t s = 11 then (ru1 T t tl s).2.2.2.1 else if lnk T t s = 13 then 1 else if lnk T t s = 14 then (if nmk T t (ru1 T t tl s) = 20 then 0 else if nmk T t (ru1 T t tl s) = 18 then 1 else 2) else if lnk T t s = 15 then rdv T t (ru1 T t tl s) else if lnk T t s = 16 then (if nmk T t (ru1 T t tl s) = 22 then 1 else if nmk T t (ru1 T t tl s) = 23 then 0 else -4) else (if nmk T t (ru1 T t tl s) = 20 then 0 else if nmk T t (ru1 T t tl s) = 18 then 1 else 2)
def ru3 : Rst := eln T t (ru2 T t tl s)
end GPE
section GPE2
variable {T : Nat → Int32} {t : Nat} {tl : Nat → Int32} {s : Rst}
theorem go_ru1 : GO s (ru1 T t tl s) := by unfold ru1; exact ge_go (ge_tr (ge_wts (by decide)) (ge_wts (by decide))) go_nxs
theorem go_ru2 : GO s (ru2 T t tl s) := by
  unfold ru2
  split
  · exact ge_go (go_ge go_ru1) go_rms
  split
  · exact ge_go (go_ge go_ru1) go_rn
  split
  · exact go_ru1
  split
  · exact ge_go (go_ge go_ru1) go_oos
  split
  · exact ge_go (go_ge go_ru1) go_rds
  split
  · exact ge_go (go_ge go_ru1) go_oos
  · exact ge_go (go_ge go_ru1) go_oos
theorem go_ru3 (h : (ru3 T t tl s).2.2.2.2.1 = 0) : s.2.1 < (ru3 T t tl s).2.1 := by
  unfold ru3 at h ⊢
  obtain ⟨a, b⟩ := eln_ok h
  exact Nat.lt_of_lt_of_le ((go_ru2.2 b).2 (by rw [a]; decide)) ge_eln.1
end GPE2
/-- what a rule's line may change -/
def PR (M N : Mm) : Prop := gr N = gr M ∧ gl N = gl M ∧ (∀ a, ¬ (a = 6027 ∨ a = 6671 ∨ a = 6745) → gi N a = gi M a) ∧ ∀ k, ¬ (12 ≤ k ∧ k ≤ 17) → gi N 6027 k = gi M 6027 k
theorem pr_pf {M N : Mm} (f : PF M N) : PR M N := ⟨f.1, f.2.1, fun a h => f.2.2.1 a (fun e => h (by omega)), f.2.2.2⟩
theorem pr_tr {M N O : Mm} (f : PR M N) (g : PR N O) : PR M O := ⟨g.1.trans f.1, g.2.1.trans f.2.1, fun a h => (g.2.2.1 a h).trans (f.2.2.1 a h), fun k h => (g.2.2.2 k h).trans (f.2.2.2 k h)⟩
theorem pr_si {M : Mm} {a j : Nat} {v : Int32} (h : a = 6671 ∨ a = 6745) : PR M (si M a j v) := by
  refine ⟨rfl, rfl, fun b n => gi_ne (fun e => n (by omega)), fun k n => ?_⟩
  rw [gi_si, if_neg (fun e => by omega)]
theorem nM_readRule {M : Mm} {T : Nat → Int32} {t : Nat} {s : Rst} {K : Mm → Prop} (rd : RD M T t s) (z0 : s.2.2.2.2.1 = 0)
    (hF : ∀ N u, PR M N → RD N T t u → ¬ u.2.2.2.2.1 = 0 → (row (lnk T t s) = -4 → u = wts (if row (lnk T t s) = -4 then 0 else 1) 2 s) → (¬ row (lnk T t s) = -4 → u = ru3 T t (gi M 6745) s) → K N)
    (hG : ∀ N O P i, row (lnk T t s) = nI i → i < 7 → PF M N → PF (si N 6745 i 1) O → PF (si O 6671 i (ruv T t (gi M 6745) s)) P → RD P T t (ru3 T t (gi M 6745) s) → (ru3 T t (gi M 6745) s).2.2.2.2.1 = 0 → K P) : CV mM_readRule [.ref 6027] M K := by
  have r14 := rd.2.2.2.1
  have b17 : X mM_readRule 17 [(0, .ref 6027)] [.int (lnk T t s)] M (mC mM_readRule, mS mM_readRule) (QV K) := by
    refine vM_readRule_17 (call_of rfl (Nat.le_of_ble_eq_true rfl) rfl (vM_rowOf_0 (vM_readRule_22 rfl (nM_wants rd (by decide) (fun N pf rN => ?_)))))
    have n16 := rN.2.2.2.2.2.1
    have mN := rN.1.1
    have g6745 : gi N 6745 = gi M 6745 := pf.2.2.1 6745 (by decide)
    show X mM_readRule 39 [(0, .ref 6027), (1, .int (lnk T t s)), (2, .int (row (lnk T t s)))] [] N (mC mM_readRule, mS mM_readRule) (QV K)
    have rN' : RD N T t (wts (if row (lnk T t s) = -4 then 0 else 1) 2 s) := rN
    have n16' : gi N 6027 16 = (wts (if row (lnk T t s) = -4 then 0 else 1) 2 s).2.2.2.2.1 := n16
    clear rN n16
    by_cases r4 : row (lnk T t s) = -4
    · have e : (wts (if row (lnk T t s) = -4 then 0 else 1) 2 s).2.2.2.2.1 = 2 := by rw [if_pos r4]; unfold wts; rw [if_pos ⟨rfl, z0⟩]
      have nl : ¬ gi N 6027 16 ≤ 0 := by rw [n16', e]; decide
      exact vM_readRule_39 rfl (mr21 mN) ⟨fun q => absurd q nl, fun q => absurd q.1 nl, fun q => absurd q.1 nl, fun _ => hF N _ (pr_pf pf) rN' (by rw [e]; decide) (fun _ => rfl) (fun q => absurd r4 q)⟩
    · obtain ⟨i, hi, ei⟩ : ∃ i, i < 7 ∧ row (lnk T t s) = nI i := by
        rcases row_c (lnk T t s) with q | ⟨-, q⟩ | ⟨-, q⟩ | ⟨-, q⟩ | ⟨-, q⟩ | ⟨-, q⟩ | ⟨-, q⟩ | ⟨-, q⟩
        · exact absurd q r4
        · exact ⟨0, by decide, q⟩
        · exact ⟨1, by decide, q⟩
        · exact ⟨2, by decide, q⟩
        · exact ⟨3, by decide, q⟩
        · exact ⟨4, by decide, q⟩
        · exact ⟨5, by decide, q⟩
        · exact ⟨6, by decide, q⟩
      have hc : ∀ j, row (lnk T t s) = nI j → j < 7 → i = j := fun j e hj => (ninj (by omega) (by omega)).mp (ei.symm.trans e)
      have e0 : (wts (if row (lnk T t s) = -4 then 0 else 1) 2 s) = s := by
        unfold wts; rw [if_neg (fun q => absurd (show (1 : Int32) = 0 from by have := q.1; rwa [if_neg r4] at this) (by decide))]
      have le0 : gi N 6027 16 ≤ 0 := by rw [n16', e0, z0]; exact Int32.le_refl _
      have b66 : ∀ O, PF M O → RD O T t (wts (if gi M 6745 i = 0 then 1 else 0) 4 (wts (if row (lnk T t s) = -4 then 0 else 1) 2 s)) → X mM_readRule 66 [(0, .ref 6027), (1, .int (lnk T t s)), (2, .int (row (lnk T t s)))] [] O (mC mM_readRule, mS mM_readRule) (QV K) := by
        intro O pO rO
        rw [ei]
        refine vM_readRule_66 rfl (mr21 rO.1.1) ⟨vin hi (by decide), ?_⟩
        rw [ncl (by omega), show vp_nar .boolean 1 = 1 from rfl]
        refine nM_next (rd_si (by decide) (by decide) rO) (fun P pP rP => ?_)
        have rP' : RD P T t (ru1 T t (gi M 6745) s) := by unfold ru1; rw [ei, ncl (by omega)]; rw [ei] at rP; exact rP
        have b192 : ∀ Q v, PF P Q → RD Q T t (ru2 T t (gi M 6745) s) → v = ruv T t (gi M 6745) s → X mM_readRule 192 [(0, .ref 6027)] [.int v, .int (nI i), .ref 6671] Q (mC mM_readRule, mS mM_readRule) (QV K) := by
          intro Q v pQ rQ hv
          refine vM_readRule_192 rfl rfl ⟨vin hi (by decide), ?_⟩
          rw [ncl (by omega), hv]
          refine nM_endLine (rd_si (by decide) (by decide) rQ) (fun S pS rS => vM_readRule_197 ?_)
          have rS' : RD S T t (ru3 T t (gi M 6745) s) := by unfold ru3; exact rS
          by_cases z : (ru3 T t (gi M 6745) s).2.2.2.2.1 = 0
          · exact hG O Q S i ei hi pO (pf_tr pP pQ) pS rS' z
          · exact hF S _ (pr_tr (pr_pf pO) (pr_tr (pr_si (Or.inr rfl)) (pr_tr (pr_pf (pf_tr pP pQ)) (pr_tr (pr_si (Or.inl rfl)) (pr_pf pS))))) rS' z (fun q => absurd q r4) (fun _ => rfl)
        refine vM_readRule_77 rfl (mr20 rP.1.1) ⟨fun q => ?_, fun q => ?_, fun q => ?_, fun q => ?_, fun q => ?_, fun q => ?_, fun q => ?_⟩
        · refine nM_oneOf rP' (fun Q pQ rQ => b192 Q _ pQ ?_ ?_)
          · unfold ru2; rw [if_neg q.1, if_neg q.2.1, if_neg q.2.2.1, if_neg q.2.2.2.1, if_neg q.2.2.2.2.1, if_neg q.2.2.2.2.2]; exact rQ
          · unfold ruv; rw [if_neg q.1, if_neg q.2.1, if_neg q.2.2.1, if_neg q.2.2.2.1, if_neg q.2.2.2.2.1, if_neg q.2.2.2.2.2]
        · refine nM_oneOf rP' (fun Q pQ rQ => vM_readRule_176 (b192 Q _ pQ ?_ ?_))
          · unfold ru2; rw [if_neg q.1, if_neg q.2.1, if_neg q.2.2.1, if_neg q.2.2.2.1, if_neg q.2.2.2.2.1, if_pos q.2.2.2.2.2]; exact rQ
          · unfold ruv; rw [if_neg q.1, if_neg q.2.1, if_neg q.2.2.1, if_neg q.2.2.2.1, if_neg q.2.2.2.2.1, if_pos q.2.2.2.2.2]
        · refine nM_readDoctor rP' (fun Q pQ rQ => vM_readRule_153 (b192 Q _ pQ ?_ ?_))
          · unfold ru2; rw [if_neg q.1, if_neg q.2.1, if_neg q.2.2.1, if_neg q.2.2.2.1, if_pos q.2.2.2.2]; exact rQ
          · unfold ruv; rw [if_neg q.1, if_neg q.2.1, if_neg q.2.2.1, if_neg q.2.2.2.1, if_pos q.2.2.2.2]
        · refine nM_oneOf rP' (fun Q pQ rQ => vM_readRule_140 (b192 Q _ pQ ?_ ?_))
          · unfold ru2; rw [if_neg q.1, if_neg q.2.1, if_neg q.2.2.1, if_pos q.2.2.2]; exact rQ
          · unfold ruv; rw [if_neg q.1, if_neg q.2.1, if_neg q.2.2.1, if_pos q.2.2.2]
        · refine b192 P 1 (pf_rf P) ?_ ?_
          · unfold ru2; rw [if_neg q.1, if_neg q.2.1, if_pos q.2.2]; exact rP'
          · unfold ruv; rw [if_neg q.1, if_neg q.2.1, if_pos q.2.2]
        · refine nM_readNumber rP' (fun Q pQ rQ => vM_readRule_108 (b192 Q _ pQ ?_ ?_))
          · unfold ru2; rw [if_neg q.1, if_pos q.2]; exact rQ
          · unfold ruv; rw [if_neg q.1, if_pos q.2]
        · refine nM_readMain rP' (fun Q pQ rQ => vM_readRule_92 (b192 Q _ pQ ?_ ?_))
          · unfold ru2; rw [if_pos q]; exact rQ
          · unfold ruv; rw [if_pos q]
      have cc : (row (lnk T t s)).toNatClampNeg = i := by rw [ei]; exact ncl (by omega)
      refine vM_readRule_39 rfl (mr21 mN) ⟨fun _ => by rw [ei]; exact vin hi (by decide), fun q => vM_readRule_62 rfl (nM_wants rN' (by decide) (fun O pO rO => b66 O (pf_tr pf pO) ?_)), fun q => vM_readRule_62 rfl (nM_wants rN' (by decide) (fun O pO rO => b66 O (pf_tr pf pO) ?_)), fun q => absurd le0 q⟩
      · rw [cc, g6745] at q
        rw [if_neg q.2]; exact rO
      · rw [cc, g6745] at q
        rw [if_pos q.2]; exact rO
  refine call_of rfl (Nat.le_of_ble_eq_true rfl) rfl (vM_readRule_0 rfl ⟨fun q => ?_, fun q => sM_nameNow (rs_rd rd) (vM_readRule_12 ?_)⟩)
  · rw [r14] at q
    have e : lnk T t s = -4 := by unfold lnk; rw [if_neg q]
    rw [e] at b17; exact b17
  · rw [r14] at q
    have e : lnk T t s = nmv T t s.1 s.2.1 := by unfold lnk; rw [if_pos q]
    rw [e] at b17; exact b17
theorem rds_ok {T : Nat → Int32} {t : Nat} {s : Rst} (h : (rds T t s).2.2.2.2.1 = 0) : nI (s.2.1 - s.1) = 1 ∧ ¬ rdv T t s < 0 ∧ ¬ 7 < rdv T t s ∧ s.2.2.1 = 1 ∧ s.2.2.2.2.1 = 0 := by
  unfold rds at h
  obtain ⟨a, b, -⟩ := wts_ok (by decide) (nxs_ok h)
  unfold nam at b
  obtain ⟨c, d, -⟩ := wts_ok (by decide) b
  have a' := ite1 a
  have c' := ite1 c
  exact ⟨a'.1, a'.2.1, a'.2.2, c', d⟩
/-- what rule may change: the rule, if it is told well -/
def NR (M N : Mm) : Prop := gr N = gr M ∧ gl N = gl M ∧ (∀ a, ¬ (a = 6027 ∨ a = 6671 ∨ a = 6745 ∨ a = 6543) → gi N a = gi M a) ∧ ∀ k, ¬ (11 ≤ k ∧ k ≤ 17) → gi N 6027 k = gi M 6027 k
end MG33
section MG34
/-! ===== the class's tape, its strings ===== -/
/-- a byte as the class holds it and as the reference does -/
def BY (a b : Int32) : Prop := ∃ n, n < 256 ∧ a = (nI n).toInt8.toInt32 ∧ b = nI n
def TC (M : Mm) (T : Nat → Int32) (t : Nat) : Prop := gr M 199 0 = some 70 ∧ gr M 70 0 = some 145 ∧ gi M 70 1 = nI t ∧ t ≤ 400 ∧ ∀ k, k < 400 → BY (gi M 145 k) (T k)
def fR (f : Int32 → Bool) (lo hi : Int32) : Prop := f (-1) = false ∧ ∀ n, n < 256 → (f (nI n) = true ↔ ¬ (nI n).toInt8.toInt32 < lo ∧ ¬ hi < (nI n).toInt8.toInt32)
theorem fR_B : fR isB 32 32 := ⟨by decide, by decide +kernel⟩
theorem fR_A : fR isA 97 122 := ⟨by decide, by decide +kernel⟩
theorem fR_F : fR isF 48 57 := ⟨by decide, by decide +kernel⟩
theorem by_255 : ∀ n, n < 256 → (nI n).toInt8.toInt32 &&& 255 = nI n := by decide +kernel
theorem by_F : ∀ n, n < 256 → isF (nI n) = true → (nI n).toInt8.toInt32 = nI n := by decide +kernel
section CT1
variable {M : Mm} {T : Nat → Int32} {t : Nat}
theorem sTa_behindAll {f : Int32 → Bool} {lo hi : Int32} {p : Nat} {K : Int32 → Mm → Prop} (tc : TC M T t) (hf : fR f lo hi) (hp : p ≤ 401) (h : K (nI (rn f T t 401 p)) M) : CI mTa_behindAll [.ref 70, .int lo, .int hi, .int (nI p)] M K := by
  obtain ⟨-, g0, ht, ht2, hT⟩ := tc
  refine call_of rfl (Nat.le_of_ble_eq_true rfl) rfl (vTa_behindAll_0 ?_)
  rw [if_pos (show (0 : Int32) ≤ nI p from nI_pos' (by omega))]
  have key : ∀ n p, p ≤ 802 → t < p + n → K (nI (rn f T t n p)) M → X mTa_behindAll 11 [(0, .ref 70), (1, .int lo), (2, .int hi), (4, .int (nI p))] [] M (mC mTa_behindAll, mS mTa_behindAll) (QI K) := by
    intro n
    induction n with
    | zero =>
      intro p hp hn h
      have l : gi M 70 1 ≤ nI p := by rw [ht, nle (by omega) (by omega)]; omega
      exact vTa_behindAll_11 rfl g0 ⟨fun q => absurd l q, fun q => absurd l q.1, fun _ => h, fun q => absurd l q.1⟩
    | succ n ih =>
      intro p hp hn h
      rw [rn] at h
      by_cases l : t ≤ p
      · have l2 : gi M 70 1 ≤ nI p := by rw [ht, nle (by omega) (by omega)]; exact l
        rw [lk, if_pos l, hf.1, if_neg (by decide)] at h
        exact vTa_behindAll_11 rfl g0 ⟨fun q => absurd l2 q, fun q => absurd l2 q.1, fun _ => h, fun q => absurd l2 q.1⟩
      · have l2 : ¬ gi M 70 1 ≤ nI p := by rw [ht, nle (by omega) (by omega)]; exact l
        obtain ⟨c, hc, e1, e2⟩ := hT p (by omega)
        rw [lk, if_neg l, e2] at h
        have cp : (nI p).toNatClampNeg = p := ncl (by omega)
        refine vTa_behindAll_11 rfl g0 ⟨fun _ => vin (by omega) (by decide), fun _ => vin (by omega) (by decide), fun q => ?_, fun q => ?_⟩
        · rw [cp, e1] at q
          have nf : ¬ f (nI c) = true := fun z => by
            have := (hf.2 c hc).mp z
            rcases q with q | q | q
            · exact l2 q
            · exact this.1 q.2
            · exact this.2 q.2.2
          rw [if_neg nf] at h; exact h
        · rw [cp, e1] at q
          rw [if_pos ((hf.2 c hc).mpr q.2)] at h
          rw [nI_s]
          exact ih (p + 1) (by omega) (by omega) h
  exact key 401 p (by omega) (by omega) h
theorem sTa_byteAt {p : Nat} {K : Int32 → Mm → Prop} (tc : TC M T t) (hp : p < 2 ^ 31) (h : K (lk T t p) M) : CI mTa_byteAt [.ref 70, .int (nI p)] M K := by
  obtain ⟨-, g0, ht, ht2, hT⟩ := tc
  have np : ¬ nI p < 0 := n0 p hp
  refine call_of rfl (Nat.le_of_ble_eq_true rfl) rfl (vTa_byteAt_0 rfl g0 ⟨fun q => ?_, fun q => ?_, fun q => ?_⟩)
  · have := q.2
    rw [ht, nle hp (by omega)] at this
    exact vin (by omega) (by decide)
  · have l : t ≤ p := by
      rcases q with q | q
      · exact absurd q np
      · have := q.2
        rw [ht, nle hp (by omega)] at this
        exact this
    rw [lk, if_pos l] at h; exact h
  · have l : ¬ t ≤ p := by
      have := q.2
      rw [ht, nle hp (by omega)] at this
      exact this
    obtain ⟨c, hc, e1, e2⟩ := hT p (by omega)
    rw [lk, if_neg l, e2] at h
    rw [ncl hp, e1, by_255 c hc]; exact h
theorem rn_in (f : Int32 → Bool) (T : Nat → Int32) (t : Nat) : ∀ n p k, p + k < rn f T t n p → f (lk T t (p + k)) = true
  | 0, p, k, h => by rw [rn] at h; omega
  | n + 1, p, k, h => by
    rw [rn] at h
    by_cases c : f (lk T t p) = true
    · rw [if_pos c] at h
      match k with
      | 0 => exact c
      | k + 1 =>
        have := rn_in f T t n (p + 1) k (by rw [show p + 1 + k = p + (k + 1) by omega]; exact h)
        rwa [show p + 1 + k = p + (k + 1) by omega] at this
    · rw [if_neg c] at h; omega
theorem sTa_figures {p d : Nat} {K : Int32 → Mm → Prop} (tc : TC M T t) (hd : d ≤ 3) (hq : p + d ≤ t) (hF : ∀ k, k < d → isF (lk T t (p + k)) = true) (h : K (vlf T t p d) M) : CI mTa_figures [.ref 70, .int (nI p), .int (nI (p + d))] M K := by
  obtain ⟨-, g0, ht, ht2, hT⟩ := tc
  refine call_of rfl (Nat.le_of_ble_eq_true rfl) rfl (vTa_figures_0 ?_)
  rw [if_pos (show (0 : Int32) ≤ nI p from nI_pos' (by omega))]
  have key := lp d (P := fun k => X mTa_figures 13 [(0, .ref 70), (2, .int (nI (p + d))), (3, .int (vlf T t p k)), (4, .int (nI (p + k)))] [] M (mC mTa_figures, mS mTa_figures) (QI K)) (fun k hk ih => ?_) ?_
  · exact key
  · have l1 : ¬ nI (p + d) ≤ nI (p + k) := by rw [nle (by omega) (by omega)]; omega
    have l2 : ¬ gi M 70 1 ≤ nI (p + k) := by rw [ht, nle (by omega) (by omega)]; omega
    refine vTa_figures_13 rfl g0 ⟨fun _ => vin (by omega) (by decide), fun q => ?_, fun _ => ?_⟩
    · rcases q with q | q
      · exact absurd q l1
      · exact absurd q.2 l2
    · obtain ⟨c, hc, e1, e2⟩ := hT (p + k) (by omega)
      have hf := hF k hk
      have el : lk T t (p + k) = nI c := by rw [lk, if_neg (by omega), e2]
      rw [el] at hf
      rw [vlf, if_pos (show k < 3 by omega), el] at ih
      rw [ncl (by omega), e1, by_F c hc hf, nI_s, Int32.mul_comm]
      exact ih
  · exact vTa_figures_13 rfl g0 ⟨fun q => absurd (Int32.le_refl _) q.1, fun _ => h, fun q => absurd (Int32.le_refl _) q.1⟩
end CT1
/-- a letter of a constant -/
def chr (j i : Nat) : Int32 := ((((sbyt.getD j []).getD i 0) &&& 255).toUInt32 % 65536).toInt32
theorem chr_n : ∀ j, j < 6 → ∀ i, i < 41 → narrow .char (.int (chr j i)) = .int (chr j i) := by decide +kernel
theorem slen_le : ∀ j, j < 6 → slen.getD j 0 ≤ 41 := by decide
theorem sJs_length {M : Mm} {j : Nat} {K : Int32 → Mm → Prop} (hj : j < 6) (h : K (nI (slen.getD j 0)) M) : CI mJs_length [.ref (64 * j + 63)] M K := by
  refine call_of rfl (Nat.le_of_ble_eq_true rfl) rfl (vJs_length_0 hj (call_of rfl (Nat.le_of_ble_eq_true rfl) rfl (vJs_coder_0 hj ⟨rfl, vJs_length_9 ?_⟩)))
  have e : ∀ j, j < 6 → (Int32.ofNat (slen.getD j 0)) >>> ((if (1 : Int32) = 0 then 1 else 0 : Int32) &&& 31) = nI (slen.getD j 0) := by decide +kernel
  rw [e j hj]; exact h
theorem sJs_charAt {M : Mm} {j i : Nat} {K : Int32 → Mm → Prop} (hj : j < 6) (hi : i < slen.getD j 0) (h : K (chr j i) M) : CI mJs_charAt [.ref (64 * j + 63), .int (nI i)] M K := by
  have hl := slen_le j hj
  refine call_of rfl (Nat.le_of_ble_eq_true rfl) rfl (vJs_charAt_0 hj (call_of rfl (Nat.le_of_ble_eq_true rfl) rfl (vJs_isLatin1_0 hj ⟨fun q => absurd q (by decide), fun _ => vJs_charAt_4 hj ⟨fun q => absurd q (by decide), fun _ => ?_⟩⟩)))
  refine call_of rfl (Nat.le_of_ble_eq_true rfl) rfl (vJa_charAt_0 hj (call_of rfl (Nat.le_of_ble_eq_true rfl) rfl (vJs_checkIndex_0 (call_of rfl (Nat.le_of_ble_eq_true rfl) rfl (vJp_checkIndex_0 ⟨fun q => ?_, fun _ => vJs_checkIndex_8 (vJa_charAt_6 hj ⟨vin hi (by omega), ?_⟩)⟩)))))
  · have h1 : ¬ nI i < 0 := n0 i (by omega)
    have h2 : nI i < Int32.ofNat (slen.getD j 0) := (nlt (by omega) (by omega)).mpr hi
    rcases q with q | q
    · exact h1 q
    · exact q.2 h2
  · rw [ncl (show i < 2 ^ 31 by omega)]
    exact ⟨chr_n j hj i (by omega), vJs_charAt_15 ⟨chr_n j hj i (by omega), h⟩⟩
end MG34
section MG35
/-! ===== the class's tokens as a state: kind, start, behind, number, fault, place ===== -/
abbrev Tst : Type := Int32 × Nat × Nat × Int32 × Int32 × Int32
def TD (M : Mm) (T : Nat → Int32) (t : Nat) (s : Tst) : Prop := TC M T t ∧ gi M 199 1 = s.1 ∧ gi M 199 2 = nI s.2.1 ∧ gi M 199 3 = nI s.2.2.1 ∧ gi M 199 4 = s.2.2.2.1 ∧ gi M 199 5 = s.2.2.2.2.1 ∧ gi M 199 6 = s.2.2.2.2.2 ∧ s.2.1 ≤ s.2.2.1 ∧ s.2.2.1 ≤ 400
/-- the tokens' own fields alone change -/
def PT (M N : Mm) : Prop := gr N = gr M ∧ gl N = gl M ∧ ∀ a, a ≠ 199 → gi N a = gi M a
theorem pt_rf (M : Mm) : PT M M := ⟨rfl, rfl, fun _ _ => rfl⟩
theorem pt_tr {M N O : Mm} (f : PT M N) (g : PT N O) : PT M O := ⟨g.1.trans f.1, g.2.1.trans f.2.1, fun a h => (g.2.2 a h).trans (f.2.2 a h)⟩
theorem pt_si {M : Mm} {k : Nat} {v : Int32} : PT M (si M 199 k v) := ⟨rfl, rfl, fun a h => gi_ne h⟩
theorem tc_pt {M N : Mm} {T : Nat → Int32} {t : Nat} (f : PT M N) (h : TC M T t) : TC N T t := by
  unfold TC
  rw [f.1, f.2.2 70 (by decide), f.2.2 145 (by decide)]
  exact h
theorem g1 (M : Mm) (k i : Nat) (v : Int32) (h : i ≠ k) : gi (si M 199 k v) 199 i = gi M 199 i := by rw [gi_si, if_neg (fun q => h q.2)]
theorem g1s (M : Mm) (k : Nat) (v : Int32) : gi (si M 199 k v) 199 k = v := by rw [gi_si, if_pos ⟨rfl, rfl⟩]
def tfl (c : Int32) (s : Tst) : Tst := if s.2.2.2.2.1 = 0 then (s.1, s.2.1, s.2.2.1, s.2.2.2.1, c, nI s.2.1) else s
section CT2
variable {M : Mm} {T : Nat → Int32} {t : Nat} {s : Tst}
theorem nTo_fail {c : Int32} {K : Int32 → Mm → Prop} (td : TD M T t s) (h : ∀ N, PT M N → TD N T t (tfl c s) → K (-1) N) : CI mTo_fail [.ref 199, .int c] M K := by
  have td0 := td
  obtain ⟨tc, t1, t2, t3, t4, t5, t6, b1, b2⟩ := td
  refine call_of rfl (Nat.le_of_ble_eq_true rfl) rfl (vTo_fail_0 rfl ⟨fun q => h M (pt_rf M) ?_, fun q => ?_⟩)
  · rw [t5] at q
    unfold tfl; rw [if_neg q]; exact td0
  · rw [t5] at q
    have pt : PT M (si (si M 199 5 c) 199 6 (gi (si M 199 5 c) 199 2)) := pt_tr pt_si pt_si
    refine h _ pt ?_
    unfold tfl; rw [if_pos q]
    have k : ∀ i, i ≠ 5 → i ≠ 6 → gi (si (si M 199 5 c) 199 6 (gi (si M 199 5 c) 199 2)) 199 i = gi M 199 i := fun i a b => by rw [g1 _ _ _ _ b, g1 _ _ _ _ a]
    refine ⟨tc_pt pt tc, (k 1 (by decide) (by decide)).trans t1, (k 2 (by decide) (by decide)).trans t2, (k 3 (by decide) (by decide)).trans t3, (k 4 (by decide) (by decide)).trans t4, ?_, ?_, b1, b2⟩
    · rw [g1 _ _ _ _ (by decide), g1s]
    · rw [g1s, g1 _ _ _ _ (by decide)]; exact t2
theorem nTo_failAt {c w : Int32} {K : Int32 → Mm → Prop} (td : TD M T t s) (h : ∀ N, PT M N → gi N 199 5 = (if s.2.2.2.2.1 = 0 then c else s.2.2.2.2.1) → gi N 199 6 = (if s.2.2.2.2.1 = 0 then w else s.2.2.2.2.2) → gi N 199 4 = s.2.2.2.1 → K (-1) N) : CI mTo_failAt [.ref 199, .int c, .int w] M K := by
  obtain ⟨tc, t1, t2, t3, t4, t5, t6, b1, b2⟩ := td
  have e5 : gi (si M 199 2 w) 199 5 = s.2.2.2.2.1 := by rw [g1 _ _ _ _ (by decide)]; exact t5
  refine call_of rfl (Nat.le_of_ble_eq_true rfl) rfl (vTo_failAt_0 rfl (call_of rfl (Nat.le_of_ble_eq_true rfl) rfl (vTo_fail_0 rfl ⟨fun q => vTo_failAt_10 (h _ pt_si ?_ ?_ ?_), fun q => vTo_failAt_10 (h _ (pt_tr pt_si (pt_tr pt_si pt_si)) ?_ ?_ ?_)⟩)))
  · rw [e5] at q
    rw [if_neg q]; exact e5
  · rw [e5] at q
    rw [if_neg q, g1 _ _ _ _ (by decide)]; exact t6
  · rw [g1 _ _ _ _ (by decide)]; exact t4
  · rw [e5] at q
    rw [if_pos q, g1 _ _ _ _ (by decide), g1s]
  · rw [e5] at q
    rw [if_pos q, g1s, g1 _ _ _ _ (by decide), g1s]
  · rw [g1 _ _ _ _ (by decide), g1 _ _ _ _ (by decide), g1 _ _ _ _ (by decide)]; exact t4
end CT2
def adv0 (T : Nat → Int32) (t : Nat) (s : Tst) : Tst :=
  if lk T t (nx1 T t s.2.2.1) < 0 then (1, nx1 T t s.2.2.1, nx1 T t s.2.2.1, s.2.2.2.1, s.2.2.2.2.1, s.2.2.2.2.2)
  else if isA (lk T t (nx1 T t s.2.2.1)) = true then (2, nx1 T t s.2.2.1, rn isA T t 401 (nx1 T t s.2.2.1), s.2.2.2.1, s.2.2.2.2.1, s.2.2.2.2.2)
  else if isF (lk T t (nx1 T t s.2.2.1)) = true then (if rn isF T t 401 (nx1 T t s.2.2.1) - nx1 T t s.2.2.1 ≤ 3 then 3 else 0, nx1 T t s.2.2.1, rn isF T t 401 (nx1 T t s.2.2.1), vlf T t (nx1 T t s.2.2.1) (min (rn isF T t 401 (nx1 T t s.2.2.1) - nx1 T t s.2.2.1) 3), s.2.2.2.2.1, s.2.2.2.2.2)
  else (if lk T t (nx1 T t s.2.2.1) = 45 then 4 else if lk T t (nx1 T t s.2.2.1) = 59 then 5 else 0, nx1 T t s.2.2.1, nx1 T t s.2.2.1 + 1, s.2.2.2.1, s.2.2.2.2.1, s.2.2.2.2.2)
def adv (T : Nat → Int32) (t : Nat) (s : Tst) : Tst := if (adv0 T t s).1 = 0 then tfl 1 (adv0 T t s) else adv0 T t s
/-- a place of the tape holds -1 or a byte -/
theorem lk_c {M : Mm} {T : Nat → Int32} {t : Nat} (tc : TC M T t) (p : Nat) : (lk T t p = -1 ∧ t ≤ p) ∨ (p < t ∧ ∃ n, n < 256 ∧ lk T t p = nI n) := by
  unfold lk
  by_cases l : t ≤ p
  · rw [if_pos l]; exact Or.inl ⟨rfl, l⟩
  · rw [if_neg l]
    obtain ⟨c, hc, e1, e2⟩ := tc.2.2.2.2 p (by have := tc.2.2.2.1; omega)
    exact Or.inr ⟨by omega, c, hc, e2⟩
section CT3
variable {M : Mm} {T : Nat → Int32} {t : Nat} {s : Tst}
theorem nTo_advance {K : Mm → Prop} (td : TD M T t s) (h : ∀ N, PT M N → TD N T t (adv T t s) → K N) : CV mTo_advance [.ref 199] M K := by
  obtain ⟨tc, t1, t2, t3, t4, t5, t6, b1, b2⟩ := td
  have ht := tc.2.2.2.1
  have b213 : ∀ N, PT M N → TD N T t (adv0 T t s) → X mTo_advance 213 [(0, .ref 199)] [] N (mC mTo_advance, mS mTo_advance) (QV K) := by
    intro N pt tN
    have n1 := tN.2.1
    refine vTo_advance_213 rfl ⟨fun q => h N pt ?_, fun q => nTo_fail tN (fun O pO tO => vTo_advance_225 (h O (pt_tr pt pO) ?_))⟩
    · rw [n1] at q
      unfold adv; rw [if_neg q]; exact tN
    · rw [n1] at q
      unfold adv; rw [if_pos q]; exact tO
  refine call_of rfl (Nat.le_of_ble_eq_true rfl) rfl (vTo_advance_0 rfl tc.1 ?_)
  rw [t3]
  refine sTa_behindAll (f := isB) tc fR_B (by omega) (vTo_advance_16 rfl rfl tc.1 ?_)
  show CI mTa_byteAt [.ref 70, .int _] _ _
  have e0 : rn isB T t 401 s.2.2.1 = nx1 T t s.2.2.1 := rfl
  rw [e0]
  have pge : s.2.2.1 ≤ nx1 T t s.2.2.1 := rn_ge _ _ _ _ _
  have ple : nx1 T t s.2.2.1 ≤ 400 := by
    by_cases l : s.2.2.1 ≤ t
    · exact Nat.le_trans (rn_le isB T t (by decide) 401 _ l) ht
    · have : nx1 T t s.2.2.1 = s.2.2.1 := by
        have e : lk T t s.2.2.1 = -1 := by rw [lk, if_pos (by omega)]
        unfold nx1
        rw [rn, e, if_neg (by decide)]
      omega
  generalize ep : nx1 T t s.2.2.1 = p at pge ple ⊢
  have eB : si (si M 199 2 (nI p)) 199 3 ((gi (si M 199 2 (nI p)) 199 2) + 1) = si (si M 199 2 (nI p)) 199 3 (nI (p + 1)) := by rw [g1s, nI_s]
  rw [eB]
  generalize eA : si (si M 199 2 (nI p)) 199 3 (nI (p + 1)) = A
  have pA : PT M A := by rw [← eA]; exact pt_tr pt_si pt_si
  have a2 : gi A 199 2 = nI p := by rw [← eA, g1 _ _ _ _ (by decide), g1s]
  have a3 : gi A 199 3 = nI (p + 1) := by rw [← eA, g1s]
  have a_ : ∀ i, i ≠ 2 → i ≠ 3 → gi A 199 i = gi M 199 i := fun i x y => by rw [← eA, g1 _ _ _ _ y, g1 _ _ _ _ x]
  have tA := tc_pt pA tc
  rw [a2]
  refine sTa_byteAt tA (by omega) ?_
  have mk : ∀ (N : Mm) (k : Int32) (b : Nat) (n : Int32), PT M N → gi N 199 1 = k → gi N 199 2 = nI p → gi N 199 3 = nI b → gi N 199 4 = n → gi N 199 5 = gi M 199 5 → gi N 199 6 = gi M 199 6 → p ≤ b → b ≤ 400 → adv0 T t s = (k, p, b, n, s.2.2.2.2.1, s.2.2.2.2.2) → TD N T t (adv0 T t s) := by
    intro N k b n pt n1 n2 n3 n4 n5 n6 l1 l2 e
    rw [e]
    exact ⟨tc_pt pt tc, n1, n2, n3, n4, n5.trans t5, n6.trans t6, l1, l2⟩
  rcases lk_c tc p with ⟨ec, lc⟩ | ⟨lc, c, hc, ec⟩
  · have ea : adv0 T t s = (1, p, p, s.2.2.2.1, s.2.2.2.2.1, s.2.2.2.2.2) := by unfold adv0; rw [ep, ec, if_pos (by decide)]
    rw [ec]
    refine vTo_advance_40 rfl tA.1 ⟨fun q => absurd q (by decide), fun q => absurd q (by decide), fun _ => b213 _ (pt_tr pA (pt_tr pt_si pt_si)) (mk _ _ _ _ (pt_tr pA (pt_tr pt_si pt_si)) ?_ ?_ ?_ ?_ ?_ ?_ (Nat.le_refl _) ple ea)⟩
    · rw [g1 _ _ _ _ (by decide), g1s]
    · rw [g1 _ _ _ _ (by decide), g1 _ _ _ _ (by decide), a2]
    · rw [g1s, g1 _ _ _ _ (by decide), a2]
    · rw [g1 _ _ _ _ (by decide), g1 _ _ _ _ (by decide), a_ _ (by decide) (by decide)]; exact t4
    · rw [g1 _ _ _ _ (by decide), g1 _ _ _ _ (by decide), a_ _ (by decide) (by decide)]
    · rw [g1 _ _ _ _ (by decide), g1 _ _ _ _ (by decide), a_ _ (by decide) (by decide)]
  · have c0 : ¬ lk T t p < 0 := by rw [ec]; exact n0 c (by omega)
    have c0' : (0 : Int32) ≤ lk T t p := by rw [ec]; exact nI_pos' (by omega)
    have lt1 : p ≤ t := by omega
    by_cases cA : isA (lk T t p) = true
    · have cA' : ¬ lk T t p < 97 ∧ ¬ 122 < lk T t p := of_decide_eq_true cA
      have ea : adv0 T t s = (2, p, rn isA T t 401 p, s.2.2.2.1, s.2.2.2.2.1, s.2.2.2.2.2) := by unfold adv0; rw [ep, if_neg c0, if_pos cA]
      have ql := rn_le isA T t (by decide) 401 p lt1
      refine vTo_advance_40 rfl tA.1 ⟨fun q => ?_, fun _ => ?_, fun q => absurd c0' q⟩
      · exfalso
        rcases q with q | q
        · exact cA'.1 q.2
        · exact cA'.2 q.2.2
      · rw [g1 _ _ _ _ (by decide), a2]
        refine sTa_behindAll (f := isA) (tc_pt (pt_tr pA pt_si) tc) fR_A (by omega) (vTo_advance_94 rfl (b213 _ (pt_tr pA (pt_tr pt_si pt_si)) (mk _ _ _ _ (pt_tr pA (pt_tr pt_si pt_si)) ?_ ?_ ?_ ?_ ?_ ?_ (rn_ge _ _ _ _ _) (by omega) ea)))
        · rw [g1 _ _ _ _ (by decide), g1s]
        · rw [g1 _ _ _ _ (by decide), g1 _ _ _ _ (by decide), a2]
        · rw [g1s]
        · rw [g1 _ _ _ _ (by decide), g1 _ _ _ _ (by decide), a_ _ (by decide) (by decide)]; exact t4
        · rw [g1 _ _ _ _ (by decide), g1 _ _ _ _ (by decide), a_ _ (by decide) (by decide)]
        · rw [g1 _ _ _ _ (by decide), g1 _ _ _ _ (by decide), a_ _ (by decide) (by decide)]
    · have cA' : ¬ (¬ lk T t p < 97 ∧ ¬ 122 < lk T t p) := fun z => cA (decide_eq_true z)
      refine vTo_advance_40 rfl tA.1 ⟨fun _ => ⟨fun q => ?_, fun q => ?_⟩, fun q => absurd q.2 cA', fun q => absurd c0' q⟩
      · have cF : ¬ isF (lk T t p) = true := fun z => by
          have z' : ¬ lk T t p < 48 ∧ ¬ 57 < lk T t p := of_decide_eq_true z
          exact q.elim z'.1 (fun q => z'.2 q.2)
        have ea : adv0 T t s = (if lk T t p = 45 then 4 else if lk T t p = 59 then 5 else 0, p, p + 1, s.2.2.2.1, s.2.2.2.2.1, s.2.2.2.2.2) := by unfold adv0; rw [ep, if_neg c0, if_neg cA, if_neg cF]
        have go : ∀ k, k = (if lk T t p = 45 then 4 else if lk T t p = 59 then 5 else 0) → X mTo_advance 213 [(0, .ref 199)] [] (si A 199 1 k) (mC mTo_advance, mS mTo_advance) (QV K) := by
          rintro k rfl
          refine b213 _ (pt_tr pA pt_si) (mk _ _ _ _ (pt_tr pA pt_si) (g1s _ _ _) ?_ ?_ ?_ ?_ ?_ (Nat.le_succ _) (by omega) ea)
          · rw [g1 _ _ _ _ (by decide), a2]
          · rw [g1 _ _ _ _ (by decide), a3]
          · rw [g1 _ _ _ _ (by decide), a_ _ (by decide) (by decide)]; exact t4
          · rw [g1 _ _ _ _ (by decide), a_ _ (by decide) (by decide)]
          · rw [g1 _ _ _ _ (by decide), a_ _ (by decide) (by decide)]
        refine ⟨fun r => vTo_advance_210 rfl (go 0 ?_), fun r => vTo_advance_210 rfl (go 5 ?_), fun r => go 4 ?_⟩
        · rw [if_neg r.1, if_neg r.2]
        · rw [if_neg r.1, if_pos r.2]
        · rw [if_pos r]
      · have cF : isF (lk T t p) = true := decide_eq_true q
        have ea : adv0 T t s = (if rn isF T t 401 p - p ≤ 3 then 3 else 0, p, rn isF T t 401 p, vlf T t p (min (rn isF T t 401 p - p) 3), s.2.2.2.2.1, s.2.2.2.2.2) := by unfold adv0; rw [ep, if_neg c0, if_neg cA, if_pos cF]
        have ql := rn_le isF T t (by decide) 401 p lt1
        have qg := rn_ge isF T t 401 p
        have hr := rn_in isF T t 401 p
        rw [a2]
        refine sTa_behindAll (f := isF) tA fR_F (by omega) (uTo_advance_128 rfl rfl tA.1 ?_)
        generalize rn isF T t 401 p = q' at ea ql qg hr ⊢
        rw [g1 _ _ _ _ (show (2 : Nat) ≠ 3 by decide), a2, g1s]
        have em : (if nI p + 3 < nI q' then nI p + 3 else nI q' : Int32) = nI (p + min (q' - p) 3) := by
          rw [show (3 : Int32) = nI 3 from rfl, nadd]
          by_cases l : p + 3 < q'
          · rw [if_pos ((nlt (by omega) (by omega)).mpr l), Nat.min_eq_right (by omega)]
          · rw [if_neg (fun z => l ((nlt (by omega) (by omega)).mp z)), Nat.min_eq_left (by omega)]
            congr 1; omega
        rw [em]
        have pB := pt_tr pA (pt_si (M := A) (k := 3) (v := nI q'))
        refine sTa_figures (tc_pt pB tc) (Nat.min_le_right _ _) (by have := Nat.min_le_left (q' - p) 3; omega) (fun k hk => hr k (by have := Nat.min_le_left (q' - p) 3; omega)) (vTo_advance_156 rfl rfl ?_)
        have e3 : ∀ v, gi (si (si A 199 3 (nI q')) 199 4 v) 199 3 = nI q' := fun v => by rw [g1 _ _ _ _ (by decide), g1s]
        have e2 : ∀ v, gi (si (si A 199 3 (nI q')) 199 4 v) 199 2 = nI p := fun v => by rw [g1 _ _ _ _ (by decide), g1 _ _ _ _ (by decide), a2]
        rw [e3, e2, nsub qg]
        have ek : (if nI (q' - p) ≤ 3 then 3 else 0 : Int32) = (if q' - p ≤ 3 then 3 else 0) := by
          have : (nI (q' - p) ≤ 3) ↔ q' - p ≤ 3 := nle (i := 3) (n := q' - p) (by decide) (by omega)
          by_cases l : q' - p ≤ 3
          · rw [if_pos l, if_pos (this.mpr l)]
          · rw [if_neg l, if_neg (fun z => l (this.mp z))]
        rw [ek]
        refine b213 _ (pt_tr pB (pt_tr pt_si pt_si)) (mk _ _ _ _ (pt_tr pB (pt_tr pt_si pt_si)) (g1s _ _ _) ?_ ?_ ?_ ?_ ?_ qg (by omega) ea)
        · rw [g1 _ _ _ _ (by decide), e2]
        · rw [g1 _ _ _ _ (by decide), e3]
        · rw [g1 _ _ _ _ (by decide), g1s]
        · rw [g1 _ _ _ _ (by decide), g1 _ _ _ _ (by decide), g1 _ _ _ _ (by decide), a_ _ (by decide) (by decide)]
        · rw [g1 _ _ _ _ (by decide), g1 _ _ _ _ (by decide), g1 _ _ _ _ (by decide), a_ _ (by decide) (by decide)]
end CT3
end MG35
section MG36
/-! ===== the class's tokens: names, letters, what is taken ===== -/
/-- the letters of a constant from f on are those of the tape from p on -/
def nme (T : Nat → Int32) (t j p : Nat) : Nat → Nat → Bool
  | 0, _ => true
  | n + 1, f => if chr j f = lk T t p then nme T t j (p + 1) n (f + 1) else false
def nmd (T : Nat → Int32) (t j : Nat) (s : Tst) (f u : Nat) : Bool := decide (u - f = s.2.2.1 - s.2.1) && nme T t j s.2.1 (u - f) f
section CT4
variable {M : Mm} {T : Nat → Int32} {t : Nat} {s : Tst}
theorem sTo_isNamed {j f u : Nat} {K : Int32 → Mm → Prop} (td : TD M T t s) (hj : j < 6) (hf : f ≤ u) (hu : u ≤ slen.getD j 0) (h : K (if nmd T t j s f u = true then 1 else 0) M) : CI mTo_isNamed [.ref 199, .ref (64 * j + 63), .int (nI f), .int (nI u)] M K := by
  obtain ⟨tc, t1, t2, t3, t4, t5, t6, b1, b2⟩ := td
  have hl := slen_le j hj
  refine call_of rfl (Nat.le_of_ble_eq_true rfl) rfl (vTo_isNamed_0 rfl hj ⟨fun q => ?_, fun q => ?_⟩)
  · rw [t3, t2, nsub hf, nsub b1, ninj (by omega) (by omega)] at q
    have e : nmd T t j s f u = nme T t j s.2.1 (u - f) f := by unfold nmd; rw [decide_eq_true q, Bool.true_and]
    rw [e] at h
    have key : ∀ n i, f ≤ i → i + n = u → K (if nme T t j (s.2.1 + (i - f)) n i = true then 1 else 0) M → X mTo_isNamed 20 [(0, .ref 199), (1, .ref (64 * j + 63)), (2, .int (nI f)), (3, .int (nI u)), (4, .int (nI i))] [] M (mC mTo_isNamed, mS mTo_isNamed) (QI K) := by
      intro n
      induction n with
      | zero =>
        intro i hi hn h
        rw [Nat.add_zero] at hn
        rw [hn]
        exact vTo_isNamed_20 hj ⟨fun _ => h, fun q => absurd (Int32.le_refl _) q⟩
      | succ n ih =>
        intro i hi hn h
        rw [nme] at h
        refine vTo_isNamed_20 hj ⟨fun q => ?_, fun _ => sJs_length hj (vTo_isNamed_32 hj ⟨fun q => ?_, fun _ => sJs_charAt hj (by omega) (vTo_isNamed_41 rfl hj tc.1 ?_)⟩)⟩
        · rw [nle (by omega) (by omega)] at q; omega
        · rw [nle (by omega) (by omega)] at q; omega
        · rw [t2, nadd, nsub (by omega), show s.2.1 + i - f = s.2.1 + (i - f) by omega]
          refine sTa_byteAt tc (by omega) (vTo_isNamed_57 hj ⟨fun r => ?_, fun r => ?_⟩)
          · rw [if_pos r] at h
            rw [nI_s]
            refine ih (i + 1) (by omega) (by omega) ?_
            rw [show s.2.1 + (i + 1 - f) = s.2.1 + (i - f) + 1 by omega]; exact h
          · rw [if_neg r, if_neg (by decide)] at h; exact h
    refine key (u - f) f (Nat.le_refl _) (by omega) ?_
    rw [Nat.sub_self, Nat.add_zero]; exact h
  · rw [t3, t2, nsub hf, nsub b1, ninj (by omega) (by omega)] at q
    have e : nmd T t j s f u = false := by unfold nmd; rw [decide_eq_false q, Bool.false_and]
    rw [e, if_neg (by decide)] at h; exact h
/-- the place of a name among names -/
def amg (T : Nat → Int32) (t j : Nat) (s : Tst) : Nat → Nat → Nat → Nat → Int32
  | 0, _, _, _ => -1
  | n + 1, i, g, x => if i = slen.getD j 0 ∨ chr j i = 32 then (if nmd T t j s g i = true then nI x else amg T t j s n (i + 1) (i + 1) (x + 1)) else amg T t j s n (i + 1) g x
def amo (T : Nat → Int32) (t j : Nat) (s : Tst) : Int32 := amg T t j s (slen.getD j 0 + 1) 0 0 0
theorem sTo_among {j : Nat} {K : Int32 → Mm → Prop} (td : TD M T t s) (hj : j < 6) (h : K (amo T t j s) M) : CI mTo_among [.ref 199, .ref (64 * j + 63)] M K := by
  have hl := slen_le j hj
  refine call_of rfl (Nat.le_of_ble_eq_true rfl) rfl (vTo_among_0 hj ?_)
  have key : ∀ n i g x, i + n = slen.getD j 0 + 1 → g ≤ i → x ≤ i → K (amg T t j s n i g x) M → X mTo_among 7 [(0, .ref 199), (1, .ref (64 * j + 63)), (2, .int (nI g)), (3, .int (nI x)), (4, .int (nI i))] [] M (mC mTo_among, mS mTo_among) (QI K) := by
    intro n
    induction n with
    | zero =>
      intro i g x hn hg hx h
      refine vTo_among_7 hj (sJs_length hj (vTo_among_13 hj ⟨fun _ => h, fun q => ?_⟩))
      exact absurd ((nlt (by omega) (by omega)).mpr (by omega)) q
    | succ n ih =>
      intro i g x hn hg hx h
      rw [amg] at h
      have at36 : (i = slen.getD j 0 ∨ chr j i = 32) → X mTo_among 36 [(0, .ref 199), (1, .ref (64 * j + 63)), (2, .int (nI g)), (3, .int (nI x)), (4, .int (nI i))] [] M (mC mTo_among, mS mTo_among) (QI K) := by
        intro c
        rw [if_pos c] at h
        refine vTo_among_36 rfl hj (sTo_isNamed td hj hg (by omega) (vTo_among_44 hj ⟨fun q => ?_, fun q => ?_⟩))
        · have c2 : ¬ nmd T t j s g i = true := fun z => by rw [if_pos z] at q; exact absurd q (by decide)
          rw [if_neg c2] at h
          rw [nI_s, nI_s]
          exact ih (i + 1) (i + 1) (x + 1) (by omega) (Nat.le_refl _) (by omega) h
        · have c2 : nmd T t j s g i = true := by
            by_cases z : nmd T t j s g i = true
            · exact z
            · rw [if_neg z] at q; exact absurd rfl q
          rw [if_pos c2] at h; exact h
      refine vTo_among_7 hj (sJs_length hj (vTo_among_13 hj ⟨fun q => ?_, fun _ => sJs_length hj (vTo_among_22 hj ⟨fun q => ?_, fun q => ?_⟩)⟩))
      · rw [nlt (by omega) (by omega)] at q; omega
      · rw [ninj (by omega) (by omega)] at q
        exact at36 (Or.inl q)
      · rw [ninj (by omega) (by omega)] at q
        refine sJs_charAt hj (by omega) (vTo_among_31 hj ⟨fun r => ?_, fun r => at36 (Or.inr r)⟩)
        rw [if_neg (fun z => z.elim q r)] at h
        rw [nI_s]
        exact ih (i + 1) g x (by omega) (by omega) (by omega) h
  exact key _ 0 0 0 (by omega) (Nat.le_refl _) (Nat.le_refl _) h
/-- letters as bits -/
def ltc (T : Nat → Int32) (t : Nat) (fi ma : Int32) : Nat → Nat → Int32 → Int32
  | 0, _, b => b
  | n + 1, i, b => if (lk T t i - fi < 0 ∨ ma ≤ lk T t i - fi) ∨ ((ushr b (lk T t i - fi)) &&& 1) = 1 then -1 else ltc T t fi ma n (i + 1) (b ||| ((1 : Int32) <<< ((lk T t i - fi) &&& 31)))
theorem sTo_letters {fi ma : Int32} {K : Int32 → Mm → Prop} (td : TD M T t s) (h : K (ltc T t fi ma (s.2.2.1 - s.2.1) s.2.1 0) M) : CI mTo_letters [.ref 199, .int fi, .int ma] M K := by
  obtain ⟨tc, t1, t2, t3, t4, t5, t6, b1, b2⟩ := td
  refine call_of rfl (Nat.le_of_ble_eq_true rfl) rfl (vTo_letters_0 rfl ?_)
  rw [t2]
  have key : ∀ n i b, i + n = s.2.2.1 → K (ltc T t fi ma n i b) M → X mTo_letters 8 [(0, .ref 199), (1, .int fi), (2, .int ma), (3, .int b), (4, .int (nI i))] [] M (mC mTo_letters, mS mTo_letters) (QI K) := by
    intro n
    induction n with
    | zero =>
      intro i b hi h
      rw [Nat.add_zero] at hi
      exact vTo_letters_8 rfl tc.1 ⟨fun _ => h, fun q => absurd (by rw [t3, hi]; exact Int32.le_refl _) q⟩
    | succ n ih =>
      intro i b hi h
      rw [ltc] at h
      refine vTo_letters_8 rfl tc.1 ⟨fun q => ?_, fun _ => sTa_byteAt tc (by omega) (vTo_letters_26 ⟨fun q => ?_, fun q => sC_holds (vTo_letters_47 ⟨fun r => ?_, fun r => ?_⟩)⟩)⟩
      · rw [t3, nle (by omega) (by omega)] at q; omega
      · rw [if_pos (Or.inl (q.imp id (fun q => q.2)))] at h; exact h
      · have c : ¬ ((ushr b (lk T t i - fi)) &&& 1) = 1 := fun z => by rw [if_pos z] at r; exact absurd r (by decide)
        rw [if_neg (fun z => z.elim (fun z => z.elim q.1 q.2) c)] at h
        rw [nI_s]
        exact ih (i + 1) _ (by omega) h
      · have c : ((ushr b (lk T t i - fi)) &&& 1) = 1 := by
          by_cases z : ((ushr b (lk T t i - fi)) &&& 1) = 1
          · exact z
          · rw [if_neg z] at r; exact absurd rfl r
        rw [if_pos (Or.inr c)] at h; exact h
  exact key (s.2.2.1 - s.2.1) s.2.1 0 (by omega) h
end CT4
/-- the least bit -/
def nt5 (x n : Int32) : Int32 := n + ushr x 1
def nt4 (x n : Int32) : Int32 := if x ≤ 4 then nt5 x n else nt5 (ushr x 2) (n + 2)
def nt3 (x n : Int32) : Int32 := if x ≤ 16 then nt4 x n else nt4 (ushr x 4) (n + 4)
def nt2 (x n : Int32) : Int32 := if x ≤ 256 then nt3 x n else nt3 (ushr x 8) (n + 8)
def nt1 (x : Int32) : Int32 := if 0 < x then (if x ≤ 65536 then nt2 x 1 else nt2 (ushr x 16) (1 + 16)) else x &&& 32
def ntz (v : Int32) : Int32 := nt1 ((v ^^^ (-1)) &&& (v - 1))
theorem sJi_ntz {M : Mm} {v : Int32} {K : Int32 → Mm → Prop} (h : K (ntz v) M) : CI mJi_numberOfTrailingZeros [.int v] M K := by
  have b74 : ∀ x n, K (nt5 x n) M → X mJi_numberOfTrailingZeros 74 [(0, .int x), (1, .int n)] [] M (mC mJi_numberOfTrailingZeros, mS mJi_numberOfTrailingZeros) (QI K) := fun x n h => vJi_numberOfTrailingZeros_74 h
  have b62 : ∀ x n, K (nt4 x n) M → X mJi_numberOfTrailingZeros 62 [(0, .int x), (1, .int n)] [] M (mC mJi_numberOfTrailingZeros, mS mJi_numberOfTrailingZeros) (QI K) := fun x n h => vJi_numberOfTrailingZeros_62 ⟨fun q => b74 _ _ (by rw [nt4, if_pos q] at h; exact h), fun q => b74 _ _ (by rw [nt4, if_neg q] at h; exact h)⟩
  have b49 : ∀ x n, K (nt3 x n) M → X mJi_numberOfTrailingZeros 49 [(0, .int x), (1, .int n)] [] M (mC mJi_numberOfTrailingZeros, mS mJi_numberOfTrailingZeros) (QI K) := fun x n h => vJi_numberOfTrailingZeros_49 ⟨fun q => b62 _ _ (by rw [nt3, if_pos q] at h; exact h), fun q => b62 _ _ (by rw [nt3, if_neg q] at h; exact h)⟩
  have b34 : ∀ x n, K (nt2 x n) M → X mJi_numberOfTrailingZeros 34 [(0, .int x), (1, .int n)] [] M (mC mJi_numberOfTrailingZeros, mS mJi_numberOfTrailingZeros) (QI K) := fun x n h => vJi_numberOfTrailingZeros_34 ⟨fun q => b49 _ _ (by rw [nt2, if_pos q] at h; exact h), fun q => b49 _ _ (by rw [nt2, if_neg q] at h; exact h)⟩
  unfold ntz at h
  refine call_of rfl (Nat.le_of_ble_eq_true rfl) rfl (vJi_numberOfTrailingZeros_0 ⟨fun q => ⟨fun r => b34 _ _ ?_, fun r => b34 _ _ ?_⟩, fun q => ?_⟩)
  · rw [nt1, if_pos q, if_pos r] at h; exact h
  · rw [nt1, if_pos q, if_neg r] at h; exact h
  · rw [nt1, if_neg q] at h; exact h
def ntl (v : Int64) : Int32 := if v.toInt32 = 0 then 32 + ntz (lushr v (32 : Int32)).toInt32 else ntz v.toInt32
theorem sJl_ntz {M : Mm} {v : Int64} {K : Int32 → Mm → Prop} (h : K (ntl v) M) : CI mJl_numberOfTrailingZeros [.long v] M K := by
  unfold ntl at h
  refine call_of rfl (Nat.le_of_ble_eq_true rfl) rfl (vJl_numberOfTrailingZeros_0 ⟨fun q => sJi_ntz (vJl_numberOfTrailingZeros_25 ?_), fun q => sJi_ntz (vJl_numberOfTrailingZeros_17 ?_)⟩)
  · rw [if_neg q] at h; exact h
  · rw [if_pos q] at h; exact h
/-! what is taken: the state behind it, and the answer -/
section CT5
variable (T : Nat → Int32) (t : Nat)
def tkN (g : Int32) (s : Tst) : Tst := if s.1 = 3 then (if s.2.2.2.1 ≤ g then s else tfl 3 s) else tfl 2 s
def tkNv (g : Int32) (s : Tst) : Int32 := if s.1 = 3 then (if s.2.2.2.1 ≤ g then s.2.2.2.1 else -1) else -1
def tLt (fi ma : Int32) (s : Tst) : Int32 := ltc T t fi ma (s.2.2.1 - s.2.1) s.2.1 0
def tkD (s : Tst) : Tst := if s.1 = 2 then (if 0 ≤ tLt T t 97 8 s then s else tfl 3 s) else tfl 2 s
def tkDv (s : Tst) : Int32 := if s.1 = 2 then (if 0 ≤ tLt T t 97 8 s then tLt T t 97 8 s else -1) else -1
def tkO (s : Tst) : Tst := if 0 ≤ tkDv T t s then (if bc32 (tkDv T t s) = 1 then tkD T t s else tfl 3 (tkD T t s)) else tkD T t s
def tkOv (s : Tst) : Int32 := if 0 ≤ tkDv T t s then (if bc32 (tkDv T t s) = 1 then ntz (tkDv T t s) else -1) else -1
def tkM (s : Tst) : Tst := if s.1 = 4 then s else if s.1 = 2 then (if 0 ≤ tLt T t 112 6 s then s else tfl 3 s) else tfl 2 s
def tkMv (s : Tst) : Int32 := if s.1 = 4 then 0 else if s.1 = 2 then (if 0 ≤ tLt T t 112 6 s then tLt T t 112 6 s else -1) else -1
def tkA (s : Tst) : Tst := if s.1 = 2 then (if 0 ≤ amo T t 1 s then s else tfl 3 s) else tfl 2 s
def tkAv (s : Tst) : Int32 := if s.1 = 2 then (if 0 ≤ amo T t 1 s then amo T t 1 s else -1) else -1
def tk1n (j : Nat) (s : Tst) : Int32 := if s.1 = 2 then amo T t j s else -1
def tk1 (j : Nat) (s : Tst) : Tst := if 0 ≤ tk1n T t j s then s else tfl 2 s
def tk1v (j : Nat) (s : Tst) : Int32 := if 0 ≤ tk1n T t j s then tk1n T t j s else -1
def tkC (s : Tst) : Tst := if s.2.2.2.2.1 = 0 then (if (adv T t s).1 = 5 then adv T t (adv T t s) else tfl 2 (adv T t s)) else s
end CT5
end MG36
section MG37
section CT6
variable {M : Mm} {T : Nat → Int32} {t : Nat} {s : Tst}
theorem nTo_takeNumber {g : Int32} {K : Int32 → Mm → Prop} (td : TD M T t s) (h : ∀ N, PT M N → TD N T t (tkN g (adv T t s)) → K (tkNv g (adv T t s)) N) : CI mTo_takeNumber [.ref 199, .int g] M K := by
  refine call_of rfl (Nat.le_of_ble_eq_true rfl) rfl (vTo_takeNumber_0 rfl (nTo_advance td (fun N pN tN => ?_)))
  generalize adv T t s = a at h tN
  have n1 := tN.2.1
  have n4 := tN.2.2.2.2.1
  refine vTo_takeNumber_4 rfl ⟨fun q => ?_, fun q => nTo_fail tN (fun O pO tO => vTo_takeNumber_31 ?_), fun q => nTo_fail tN (fun O pO tO => vTo_takeNumber_17 ?_)⟩
  · rw [n1, n4] at q
    have := h N pN
    rw [tkN, tkNv, if_pos q.1, if_pos q.2, if_pos q.1, if_pos q.2] at this
    rw [n4]; exact this tN
  · rw [n1, n4] at q
    have := h O (pt_tr pN pO)
    rw [tkN, tkNv, if_pos q.1, if_neg q.2, if_pos q.1, if_neg q.2] at this
    exact this tO
  · rw [n1] at q
    have := h O (pt_tr pN pO)
    rw [tkN, tkNv, if_neg q, if_neg q] at this
    exact this tO
theorem nTo_takeDoctors {K : Int32 → Mm → Prop} (td : TD M T t s) (h : ∀ N, PT M N → TD N T t (tkD T t (adv T t s)) → K (tkDv T t (adv T t s)) N) : CI mTo_takeDoctors [.ref 199] M K := by
  refine call_of rfl (Nat.le_of_ble_eq_true rfl) rfl (vTo_takeDoctors_0 rfl (nTo_advance td (fun N pN tN => ?_)))
  generalize adv T t s = a at h tN
  have n1 := tN.2.1
  refine vTo_takeDoctors_4 rfl ⟨fun q => ?_, fun q => nTo_fail tN (fun O pO tO => vTo_takeDoctors_17 ?_)⟩
  · rw [n1] at q
    refine sTo_letters tN (vTo_takeDoctors_26 rfl ⟨fun r => ?_, fun r => nTo_fail tN (fun O pO tO => vTo_takeDoctors_36 ?_)⟩)
    · have := h N pN
      have r' : 0 ≤ tLt T t 97 8 a := r
      rw [tkD, tkDv, if_pos q, if_pos r', if_pos q, if_pos r'] at this
      exact this tN
    · have := h O (pt_tr pN pO)
      have r' : ¬ 0 ≤ tLt T t 97 8 a := r
      rw [tkD, tkDv, if_pos q, if_neg r', if_pos q, if_neg r'] at this
      exact this tO
  · rw [n1] at q
    have := h O (pt_tr pN pO)
    rw [tkD, tkDv, if_neg q, if_neg q] at this
    exact this tO
theorem nTo_takeDoctor {K : Int32 → Mm → Prop} (td : TD M T t s) (h : ∀ N, PT M N → TD N T t (tkO T t (adv T t s)) → K (tkOv T t (adv T t s)) N) : CI mTo_takeDoctor [.ref 199] M K := by
  refine call_of rfl (Nat.le_of_ble_eq_true rfl) rfl (vTo_takeDoctor_0 rfl (nTo_takeDoctors td (fun N pN tN => ?_)))
  generalize adv T t s = a at h tN ⊢
  refine vTo_takeDoctor_4 ⟨fun q => sJi_bitCount (fun r hr => vTo_takeDoctor_15 rfl ⟨fun p => nTo_fail tN (fun O pO tO => vTo_takeDoctor_31 ?_), fun p => sJi_ntz (vTo_takeDoctor_23 ?_)⟩), fun q => ?_⟩
  · rw [hr] at p
    have := h O (pt_tr pN pO)
    rw [tkO, tkOv, if_pos q, if_neg p, if_pos q, if_neg p] at this
    exact this tO
  · rw [hr] at p
    have := h N pN
    rw [tkO, tkOv, if_pos q, if_pos p, if_pos q, if_pos p] at this
    exact this tN
  · have := h N pN
    rw [tkO, tkOv, if_neg q, if_neg q] at this
    exact this tN
theorem nTo_takeMarks {K : Int32 → Mm → Prop} (td : TD M T t s) (h : ∀ N, PT M N → TD N T t (tkM T t (adv T t s)) → K (tkMv T t (adv T t s)) N) : CI mTo_takeMarks [.ref 199] M K := by
  refine call_of rfl (Nat.le_of_ble_eq_true rfl) rfl (vTo_takeMarks_0 rfl (nTo_advance td (fun N pN tN => ?_)))
  generalize adv T t s = a at h tN
  have n1 := tN.2.1
  refine vTo_takeMarks_4 rfl ⟨fun q => ?_, fun q => nTo_fail tN (fun O pO tO => vTo_takeMarks_27 ?_), fun q => ?_⟩
  · rw [n1] at q
    refine sTo_letters tN (vTo_takeMarks_36 rfl ⟨fun r => ?_, fun r => nTo_fail tN (fun O pO tO => vTo_takeMarks_46 ?_)⟩)
    · have := h N pN
      have r' : 0 ≤ tLt T t 112 6 a := r
      rw [tkM, tkMv, if_neg q.1, if_pos q.2, if_pos r', if_neg q.1, if_pos q.2, if_pos r'] at this
      exact this tN
    · have := h O (pt_tr pN pO)
      have r' : ¬ 0 ≤ tLt T t 112 6 a := r
      rw [tkM, tkMv, if_neg q.1, if_pos q.2, if_neg r', if_neg q.1, if_pos q.2, if_neg r'] at this
      exact this tO
  · rw [n1] at q
    have := h O (pt_tr pN pO)
    rw [tkM, tkMv, if_neg q.1, if_neg q.2, if_neg q.1, if_neg q.2] at this
    exact this tO
  · rw [n1] at q
    have := h N pN
    rw [tkM, tkMv, if_pos q, if_pos q] at this
    exact this tN
theorem nTo_takeAnswer {K : Int32 → Mm → Prop} (td : TD M T t s) (h : ∀ N, PT M N → TD N T t (tkA T t (adv T t s)) → K (tkAv T t (adv T t s)) N) : CI mTo_takeAnswer [.ref 199] M K := by
  refine call_of rfl (Nat.le_of_ble_eq_true rfl) rfl (vTo_takeAnswer_0 rfl (nTo_advance td (fun N pN tN => ?_)))
  generalize adv T t s = a at h tN
  have n1 := tN.2.1
  refine vTo_takeAnswer_4 rfl ⟨fun q => ?_, fun q => nTo_fail tN (fun O pO tO => vTo_takeAnswer_17 ?_)⟩
  · rw [n1] at q
    refine sTo_among (j := 1) tN (by decide) (vTo_takeAnswer_24 rfl ⟨fun r => ?_, fun r => nTo_fail tN (fun O pO tO => vTo_takeAnswer_34 ?_)⟩)
    · have := h N pN
      rw [tkA, tkAv, if_pos q, if_pos r, if_pos q, if_pos r] at this
      exact this tN
    · have := h O (pt_tr pN pO)
      rw [tkA, tkAv, if_pos q, if_neg r, if_pos q, if_neg r] at this
      exact this tO
  · rw [n1] at q
    have := h O (pt_tr pN pO)
    rw [tkA, tkAv, if_neg q, if_neg q] at this
    exact this tO
theorem nTo_takeOneOf {j : Nat} {K : Int32 → Mm → Prop} (td : TD M T t s) (hj : j < 6) (h : ∀ N, PT M N → TD N T t (tk1 T t j (adv T t s)) → K (tk1v T t j (adv T t s)) N) : CI mTo_takeOneOf [.ref 199, .ref (64 * j + 63)] M K := by
  refine call_of rfl (Nat.le_of_ble_eq_true rfl) rfl (vTo_takeOneOf_0 rfl hj (nTo_advance td (fun N pN tN => ?_)))
  generalize adv T t s = a at h tN
  have n1 := tN.2.1
  have b21 : ∀ v, v = tk1n T t j a → X mTo_takeOneOf 21 [(0, .ref 199)] [.int v] N (mC mTo_takeOneOf, mS mTo_takeOneOf) (QI K) := by
    rintro v rfl
    refine vTo_takeOneOf_21 rfl ⟨fun r => ?_, fun r => nTo_fail tN (fun O pO tO => vTo_takeOneOf_31 ?_)⟩
    · have := h N pN
      rw [tk1, tk1v, if_pos r, if_pos r] at this
      exact this tN
    · have := h O (pt_tr pN pO)
      rw [tk1, tk1v, if_neg r, if_neg r] at this
      exact this tO
  refine vTo_takeOneOf_4 rfl hj ⟨fun q => b21 _ ?_, fun q => sTo_among tN hj (vTo_takeOneOf_17 (b21 _ ?_))⟩
  · rw [n1] at q; rw [tk1n, if_neg q]
  · rw [n1] at q; rw [tk1n, if_pos q]
theorem nTo_closeLine {K : Mm → Prop} (td : TD M T t s) (h : ∀ N, PT M N → TD N T t (tkC T t s) → K N) : CV mTo_closeLine [.ref 199] M K := by
  have t5 := td.2.2.2.2.2.1
  refine call_of rfl (Nat.le_of_ble_eq_true rfl) rfl (vTo_closeLine_0 rfl ⟨fun q => ?_, fun q => ?_⟩)
  · rw [t5] at q
    refine nTo_advance td (fun N pN tN => ?_)
    have n1 := tN.2.1
    refine vTo_closeLine_12 rfl ⟨fun r => ?_, fun r => nTo_fail tN (fun O pO tO => vTo_closeLine_25 ?_)⟩
    · rw [n1] at r
      have h' := fun O => h O
      rw [tkC, if_pos q, if_pos r] at h'
      generalize adv T t s = a at h' tN
      exact nTo_advance tN (fun O pO tO => vTo_closeLine_31 (h' O (pt_tr pN pO) tO))
    · rw [n1] at r
      have h' := fun O => h O
      rw [tkC, if_pos q, if_neg r] at h'
      exact h' O (pt_tr pN pO) tO
  · rw [t5] at q
    have h' := fun O => h O
    rw [tkC, if_neg q] at h'
    exact h' M (pt_rf M) td
theorem nTo_begin {v : Int32} {K : Mm → Prop} (tc : TC M T t) (h4 : gi M 199 4 = v) (h : ∀ N, PT M N → TD N T t (0, 0, 0, v, 0, 0) → K N) : CV mTo_begin [.ref 199] M K := by
  refine call_of rfl (Nat.le_of_ble_eq_true rfl) rfl (vTo_begin_0 rfl (h _ (pt_tr pt_si (pt_tr pt_si (pt_tr pt_si (pt_tr pt_si pt_si)))) ?_))
  refine ⟨tc_pt (pt_tr pt_si (pt_tr pt_si (pt_tr pt_si (pt_tr pt_si pt_si)))) tc, ?_, ?_, ?_, ?_, ?_, ?_, Nat.le_refl _, Nat.zero_le _⟩
  · rw [g1 _ _ _ _ (by decide), g1 _ _ _ _ (by decide), g1 _ _ _ _ (by decide), g1 _ _ _ _ (by decide), g1s]
  · rw [g1 _ _ _ _ (by decide), g1 _ _ _ _ (by decide), g1 _ _ _ _ (by decide), g1s]; rfl
  · rw [g1 _ _ _ _ (by decide), g1 _ _ _ _ (by decide), g1s]; rfl
  · rw [g1 _ _ _ _ (by decide), g1 _ _ _ _ (by decide), g1 _ _ _ _ (by decide), g1 _ _ _ _ (by decide), g1 _ _ _ _ (by decide)]; exact h4
  · rw [g1 _ _ _ _ (by decide), g1s]
  · rw [g1s]
end CT6
/-! ===== bounds of what is taken ===== -/
theorem vlf_nn {M : Mm} {T : Nat → Int32} {t : Nat} (tc : TC M T t) {p d : Nat} (hd : d ≤ 3) (hF : ∀ k, k < d → isF (lk T t (p + k)) = true) : ∃ n, n < 10 ^ d ∧ vlf T t p d = nI n := by
  induction d with
  | zero => exact ⟨0, by decide, rfl⟩
  | succ d ih =>
    obtain ⟨n, hn, e⟩ := ih (by omega) (fun k hk => hF k (by omega))
    have hf := hF d (by omega)
    obtain ⟨c, hc, ec⟩ : ∃ c, (48 ≤ c ∧ c ≤ 57) ∧ lk T t (p + d) = nI c := by
      rcases lk_c tc (p + d) with ⟨e, -⟩ | ⟨-, c, hc, e⟩
      · rw [e] at hf; exact absurd hf (by decide)
      · rw [e] at hf
        have : ∀ c, c < 256 → isF (nI c) = true → 48 ≤ c ∧ c ≤ 57 := by decide +kernel
        exact ⟨c, this c hc hf, e⟩
    refine ⟨10 * n + (c - 48), ?_, ?_⟩
    · have : 10 ^ (d + 1) = 10 * 10 ^ d := by rw [Nat.pow_succ, Nat.mul_comm]
      omega
    · rw [vlf, if_pos (by omega), e, ec, n10, nadd, show (48 : Int32) = nI 48 from rfl, nsub (by omega)]
      congr 1; omega
/-- letters are bits below ma -/
theorem ltc_b {M : Mm} {T : Nat → Int32} {t : Nat} (tc : TC M T t) {fi ma : Nat} (hfi : fi < 256) (hma : ma ≤ 8) : ∀ n i b, b < 2 ^ ma → ltc T t (nI fi) (nI ma) n i (nI b) = -1 ∨ ∃ c, c < 2 ^ ma ∧ ltc T t (nI fi) (nI ma) n i (nI b) = nI c
  | 0, _, b, hb => Or.inr ⟨b, hb, rfl⟩
  | n + 1, i, b, hb => by
    rw [ltc]
    by_cases c : (lk T t i - nI fi < 0 ∨ nI ma ≤ lk T t i - nI fi) ∨ ((ushr (nI b) (lk T t i - nI fi)) &&& 1) = 1
    · rw [if_pos c]; exact Or.inl rfl
    · rw [if_neg c]
      have c1 : ¬ (lk T t i - nI fi < 0 ∨ nI ma ≤ lk T t i - nI fi) := fun z => c (Or.inl z)
      obtain ⟨d, hd, e⟩ := rng (n := ma) rfl (by omega) (fun z => c1 (Or.inl z)) (fun z => c1 (Or.inr z))
      rw [e]
      have : ∀ ma, ma ≤ 8 → ∀ d, d < ma → ∀ b, b < 2 ^ ma → (b ||| 2 ^ d) < 2 ^ ma ∧ nI b ||| ((1 : Int32) <<< (nI d &&& 31)) = nI (b ||| 2 ^ d) := by decide +kernel
      obtain ⟨h1, h2⟩ := this ma hma d hd b hb
      rw [h2]
      exact ltc_b tc hfi hma n (i + 1) _ h1
section CT7
variable {M : Mm} {T : Nat → Int32} {t : Nat} {s : Tst}
theorem tfl_ne {c : Int32} (hc : ¬ c = 0) : ¬ (tfl c s).2.2.2.2.1 = 0 := by
  unfold tfl
  by_cases q : s.2.2.2.2.1 = 0
  · rw [if_pos q]; exact hc
  · rw [if_neg q]; exact q
theorem adv0_f : (adv0 T t s).2.2.2.2.1 = s.2.2.2.2.1 := by
  unfold adv0
  split
  · rfl
  split
  · rfl
  split
  · rfl
  · rfl
theorem adv_ok (h : (adv T t s).2.2.2.2.1 = 0) : ¬ (adv0 T t s).1 = 0 ∧ s.2.2.2.2.1 = 0 ∧ adv T t s = adv0 T t s := by
  unfold adv at h ⊢
  by_cases q : (adv0 T t s).1 = 0
  · rw [if_pos q] at h; exact absurd h (tfl_ne (by decide))
  · rw [if_neg q] at h ⊢
    exact ⟨q, adv0_f.symm.trans h, rfl⟩
/-- a number that is taken -/
theorem tkN_ok {g : Nat} (hg : g < 2 ^ 31) (tc : TC M T t) (h : (tkN (nI g) (adv T t s)).2.2.2.2.1 = 0) : (∃ n, n ≤ g ∧ tkNv (nI g) (adv T t s) = nI n) ∧ tkN (nI g) (adv T t s) = adv T t s ∧ (adv T t s).1 = 3 := by
  unfold tkN at h ⊢
  unfold tkNv
  by_cases q : (adv T t s).1 = 3
  · rw [if_pos q] at h ⊢
    rw [if_pos q]
    by_cases r : (adv T t s).2.2.2.1 ≤ nI g
    · rw [if_pos r] at h ⊢
      rw [if_pos r]
      refine ⟨?_, rfl, q⟩
      obtain ⟨a, b, c⟩ := adv_ok h
      rw [c] at q r ⊢
      have hn : ∃ n, n < 1000 ∧ (adv0 T t s).2.2.2.1 = nI n := by
        unfold adv0 at q ⊢
        by_cases c1 : lk T t (nx1 T t s.2.2.1) < 0
        · rw [if_pos c1] at q; exact absurd (show (1 : Int32) = 3 from q) (by decide)
        rw [if_neg c1] at q ⊢
        by_cases c2 : isA (lk T t (nx1 T t s.2.2.1)) = true
        · rw [if_pos c2] at q; exact absurd (show (2 : Int32) = 3 from q) (by decide)
        rw [if_neg c2] at q ⊢
        by_cases c3 : isF (lk T t (nx1 T t s.2.2.1)) = true
        · rw [if_pos c3]
          have m3 := Nat.min_le_right (rn isF T t 401 (nx1 T t s.2.2.1) - nx1 T t s.2.2.1) 3
          obtain ⟨n, hn, e⟩ := vlf_nn tc (p := nx1 T t s.2.2.1) m3 (fun k hk => rn_in isF T t 401 _ k (by have := Nat.min_le_left (rn isF T t 401 (nx1 T t s.2.2.1) - nx1 T t s.2.2.1) 3; omega))
          refine ⟨n, Nat.lt_of_lt_of_le hn (Nat.le_trans (Nat.pow_le_pow_right (by decide) m3) (by decide)), e⟩
        · rw [if_neg c3] at q
          exfalso
          by_cases c4 : lk T t (nx1 T t s.2.2.1) = 45
          · have q' : (4 : Int32) = 3 := by rw [if_pos c4] at q; exact q
            exact absurd q' (by decide)
          · by_cases c5 : lk T t (nx1 T t s.2.2.1) = 59
            · have q' : (5 : Int32) = 3 := by rw [if_neg c4, if_pos c5] at q; exact q
              exact absurd q' (by decide)
            · have q' : (0 : Int32) = 3 := by rw [if_neg c4, if_neg c5] at q; exact q
              exact absurd q' (by decide)
      obtain ⟨n, hn, e⟩ := hn
      rw [e] at r ⊢
      rw [nle hg (by omega)] at r
      exact ⟨n, r, rfl⟩
    · rw [if_neg r] at h; exact absurd h (tfl_ne (by decide))
  · rw [if_neg q] at h; exact absurd h (tfl_ne (by decide))
theorem tkM_ok (tc : TC M T t) {a : Tst} (h : (tkM T t a).2.2.2.2.1 = 0) : (∃ n, n < 64 ∧ tkMv T t a = nI n) ∧ tkM T t a = a := by
  unfold tkM at h ⊢
  unfold tkMv
  by_cases q : a.1 = 4
  · rw [if_pos q, if_pos q]; exact ⟨⟨0, by decide, rfl⟩, rfl⟩
  · rw [if_neg q] at h ⊢
    rw [if_neg q]
    by_cases r : a.1 = 2
    · rw [if_pos r] at h ⊢
      rw [if_pos r]
      by_cases l : 0 ≤ tLt T t 112 6 a
      · rw [if_pos l]
        rw [if_pos l]
        refine ⟨?_, rfl⟩
        rcases ltc_b tc (fi := 112) (ma := 6) (by decide) (by decide) (a.2.2.1 - a.2.1) a.2.1 0 (by decide) with e | ⟨c, hc, e⟩
        · have : tLt T t 112 6 a = -1 := e
          rw [this] at l; exact absurd l (by decide)
        · exact ⟨c, hc, e⟩
      · rw [if_neg l] at h; exact absurd h (tfl_ne (by decide))
    · rw [if_neg r] at h; exact absurd h (tfl_ne (by decide))
theorem tkDv_c (tc : TC M T t) (a : Tst) : tkDv T t a = -1 ∨ ∃ n, n < 256 ∧ tkDv T t a = nI n := by
  unfold tkDv
  by_cases q : a.1 = 2
  · rw [if_pos q]
    by_cases l : 0 ≤ tLt T t 97 8 a
    · rw [if_pos l]
      rcases ltc_b tc (fi := 97) (ma := 8) (by decide) (by decide) (a.2.2.1 - a.2.1) a.2.1 0 (by decide) with e | ⟨c, hc, e⟩
      · exact Or.inl e
      · exact Or.inr ⟨c, hc, e⟩
    · rw [if_neg l]; exact Or.inl rfl
  · rw [if_neg q]; exact Or.inl rfl
theorem ntz_8 : ∀ n, n < 256 → bc32 (nI n) = 1 → ∃ d, d < 8 ∧ ntz (nI n) = nI d := by decide +kernel
theorem tkOv_c (tc : TC M T t) (a : Tst) : tkOv T t a = -1 ∨ ∃ d, d < 8 ∧ tkOv T t a = nI d := by
  unfold tkOv
  by_cases q : 0 ≤ tkDv T t a
  · rw [if_pos q]
    by_cases r : bc32 (tkDv T t a) = 1
    · rw [if_pos r]
      rcases tkDv_c tc a with e | ⟨n, hn, e⟩
      · rw [e] at q; exact absurd q (by decide)
      · rw [e] at r ⊢
        exact Or.inr (ntz_8 n hn r)
    · rw [if_neg r]; exact Or.inl rfl
  · rw [if_neg q]; exact Or.inl rfl
end CT7
end MG37
section MG38
/-! ===== the class's reader of a library: a word ===== -/
theorem td_si {M : Mm} {T : Nat → Int32} {t : Nat} {s : Tst} {a j : Nat} {v : Int32} (h1 : a ≠ 199) (h2 : a ≠ 70) (h3 : a ≠ 145) (td : TD M T t s) : TD (si M a j v) T t s := by
  obtain ⟨⟨m1, m2, m3, m4, m5⟩, r⟩ := td
  have e1 : gi (si M a j v) 199 = gi M 199 := gi_ne (Ne.symm h1)
  have e2 : gi (si M a j v) 70 = gi M 70 := gi_ne (Ne.symm h2)
  have e3 : gi (si M a j v) 145 = gi M 145 := gi_ne (Ne.symm h3)
  unfold TD TC
  rw [e1, e2, e3]
  exact ⟨⟨m1, m2, m3, m4, m5⟩, r⟩
/-- the tokens and one cell may change -/
def PX (x : Nat) (M N : Mm) : Prop := gr N = gr M ∧ gl N = gl M ∧ ∀ a, a ≠ 199 → a ≠ x → gi N a = gi M a
theorem px_pt {x : Nat} {M N : Mm} (f : PT M N) : PX x M N := ⟨f.1, f.2.1, fun a h _ => f.2.2 a h⟩
theorem px_tr {x : Nat} {M N O : Mm} (f : PX x M N) (g : PX x N O) : PX x M O := ⟨g.1.trans f.1, g.2.1.trans f.2.1, fun a h h2 => (g.2.2 a h h2).trans (f.2.2 a h h2)⟩
theorem px_si {x j : Nat} {M : Mm} {v : Int32} : PX x M (si M x j v) := ⟨rfl, rfl, fun a _ h => gi_ne h⟩
theorem gxs (M : Mm) (x k i : Nat) (v : Int32) : gi (si M x k v) x i = if i = k then v else gi M x i := by
  rw [gi_si]
  by_cases h : i = k
  · rw [if_pos ⟨rfl, h⟩, if_pos h]
  · rw [if_neg (fun q => h q.2), if_neg h]
section CT8
variable (T : Nat → Int32) (t : Nat) (k : Int32) (s : Tst)
abbrev k13 : Prop := k = 1 ∨ k = 2 ∨ k = 3
def sy1 : Tst := tkM T t (adv T t s)
def sy2 : Tst := tkM T t (adv T t (sy1 T t s))
def sy3 : Tst := if (tkMv T t (adv T t s) &&& tkMv T t (adv T t (sy1 T t s))) = 0 then sy2 T t s else tfl 4 (sy2 T t s)
def sy4 : Tst := if (sy3 T t s).2.2.2.2.1 = 0 then tkA T t (adv T t (sy3 T t s)) else sy3 T t s
def syE : Tst := if k13 k then tkN 23 (adv T t s) else if k = 4 then sy1 T t s else if (sy1 T t s).2.2.2.2.1 = 0 then sy4 T t s else sy1 T t s
/-- the row of a word behind what it says -/
def syr (R : Nat → Int32) (i : Nat) : Int32 := if k13 k then (if i = 7 then nI (syE T t k s).2.1 else if i = 6 then tkNv 23 (adv T t s) else R i) else
  if k = 4 then (if i = 3 then tkMv T t (adv T t s) else R i) else
  (if i = 5 then tkAv T t (adv T t (sy3 T t s)) else if i = 4 then tkMv T t (adv T t (sy1 T t s)) else if i = 3 then tkMv T t (adv T t s) else R i)
end CT8
theorem nLr_tellSaying {M : Mm} {T : Nat → Int32} {t : Nat} {k : Int32} {s : Tst} {x : Nat} {K : Mm → Prop} (kx : x % 64 = 9) (g0 : gr M 258 0 = some 199) (td : TD M T t s) (hk : gi M x 0 = k) (h : ∀ N, PX x M N → TD N T t (syE T t k s) → ((syE T t k s).2.2.2.2.1 = 0 → ∀ i, gi N x i = syr T t k s (gi M x) i) → K N) : CV mLr_tellSaying [.ref 258, .ref x] M K := by
  have x1 : x ≠ 199 := by omega
  have x2 : x ≠ 70 := by omega
  have x3 : x ≠ 145 := by omega
  refine call_of rfl (Nat.le_of_ble_eq_true rfl) rfl (vLr_tellSaying_0 kx rfl g0 ⟨fun q => ?_, fun q => ?_⟩)
  · rw [hk] at q
    have c : k13 k := q.imp id (fun q => q.imp (fun q => q.2) (fun q => q.2.2))
    have e : syE T t k s = tkN 23 (adv T t s) := by unfold syE; rw [if_pos c]
    refine nTo_takeNumber td (fun N pN tN => vLr_tellSaying_34 kx rfl kx (by rw [pN.1]; exact g0) ?_)
    rw [← e] at tN
    have e2 : gi (si N x 6 (tkNv 23 (adv T t s))) 199 2 = nI (syE T t k s).2.1 := by rw [gi_ne (Ne.symm x1)]; exact tN.2.2.1
    rw [e2]
    refine h _ (px_tr (px_pt pN) (px_tr px_si px_si)) (td_si x1 x2 x3 (td_si x1 x2 x3 tN)) (fun _ i => ?_)
    rw [gxs, gxs, pN.2.2 x x1]
    unfold syr
    rw [if_pos c]
  · rw [hk] at q
    have c : ¬ k13 k := fun z => z.elim q.1 (fun z => z.elim q.2.1 q.2.2)
    refine nTo_takeMarks td (fun N pN tN => ?_)
    have tN1 : TD N T t (sy1 T t s) := by unfold sy1; exact tN
    clear tN
    have tA := td_si (j := 3) (v := tkMv T t (adv T t s)) x1 x2 x3 tN1
    have pA : PX x M (si N x 3 (tkMv T t (adv T t s))) := px_tr (px_pt pN) px_si
    have eA : ∀ i, gi (si N x 3 (tkMv T t (adv T t s))) x i = if i = 3 then tkMv T t (adv T t s) else gi M x i := fun i => by rw [gxs, pN.2.2 x x1]
    refine vLr_tellSaying_57 kx kx rfl (by rw [pN.1]; exact g0) ?_
    generalize si N x 3 (tkMv T t (adv T t s)) = A at tA pA eA ⊢
    have a0 : gi A x 0 = k := by rw [eA, if_neg (by decide)]; exact hk
    have a5 := tA.2.2.2.2.2.1
    have gA : gr A 258 0 = some 199 := by rw [pA.1]; exact g0
    rw [a0, a5]
    refine ⟨fun r => ?_, fun r => ?_⟩
    · by_cases k4 : k = 4
      · have e : syE T t k s = sy1 T t s := by unfold syE; rw [if_neg c, if_pos k4]
        refine h A pA (by rw [e]; exact tA) (fun _ i => ?_)
        rw [eA]; unfold syr; rw [if_neg c, if_pos k4]
      · have f1 : ¬ (sy1 T t s).2.2.2.2.1 = 0 := by
          rcases r with r | r
          · exact absurd r k4
          · exact r.2
        have e : syE T t k s = sy1 T t s := by unfold syE; rw [if_neg c, if_neg k4, if_neg f1]
        exact h A pA (by rw [e]; exact tA) (fun z => absurd (by rw [e] at z; exact z) f1)
    · have e : syE T t k s = sy4 T t s := by unfold syE; rw [if_neg c, if_neg r.1, if_pos r.2]
      have er : ∀ R i, syr T t k s R i = if i = 5 then tkAv T t (adv T t (sy3 T t s)) else if i = 4 then tkMv T t (adv T t (sy1 T t s)) else if i = 3 then tkMv T t (adv T t s) else R i := fun R i => by unfold syr; rw [if_neg c, if_neg r.1]
      simp only [er] at h
      rw [e] at h
      refine nTo_takeMarks tA (fun B pB tB => ?_)
      have tB2 : TD B T t (sy2 T t s) := by unfold sy2; exact tB
      clear tB
      have tC := td_si (j := 4) (v := tkMv T t (adv T t (sy1 T t s))) x1 x2 x3 tB2
      have pC : PX x M (si B x 4 (tkMv T t (adv T t (sy1 T t s)))) := px_tr pA (px_tr (px_pt pB) px_si)
      have eC : ∀ i, gi (si B x 4 (tkMv T t (adv T t (sy1 T t s)))) x i = if i = 4 then tkMv T t (adv T t (sy1 T t s)) else if i = 3 then tkMv T t (adv T t s) else gi M x i := fun i => by rw [gxs, pB.2.2 x x1, eA]
      refine vLr_tellSaying_87 kx rfl kx (by rw [pB.1]; exact gA) ?_
      generalize si B x 4 (tkMv T t (adv T t (sy1 T t s))) = C at tC pC eC ⊢
      have gC : gr C 258 0 = some 199 := by rw [pC.1]; exact g0
      have c5 := tC.2.2.2.2.2.1
      have c3 : gi C x 3 = tkMv T t (adv T t s) := by rw [eC, if_neg (by decide), if_pos rfl]
      have c4 : gi C x 4 = tkMv T t (adv T t (sy1 T t s)) := by rw [eC, if_pos rfl]
      rw [c5, c3, c4]
      have b121 : ∀ D, PT C D → TD D T t (sy3 T t s) → X mLr_tellSaying 121 [(0, .ref 258), (1, .ref x)] [] D (mC mLr_tellSaying, mS mLr_tellSaying) (QV K) := by
        intro D pD tD
        have d5 := tD.2.2.2.2.2.1
        refine vLr_tellSaying_121 rfl (by rw [pD.1]; exact gC) ⟨fun z => ?_, fun z => ?_⟩
        · rw [d5] at z
          have e4 : sy4 T t s = sy3 T t s := by unfold sy4; rw [if_neg z]
          exact h D (px_tr pC (px_pt pD)) (by rw [e4]; exact tD) (fun y => absurd (by rw [e4] at y; exact y) z)
        · rw [d5] at z
          have e4 : sy4 T t s = tkA T t (adv T t (sy3 T t s)) := by unfold sy4; rw [if_pos z]
          refine nTo_takeAnswer tD (fun E pE tE => vLr_tellSaying_139 kx (h _ (px_tr pC (px_tr (px_pt pD) (px_tr (px_pt pE) px_si))) (by rw [e4]; exact td_si x1 x2 x3 tE) (fun _ i => ?_)))
          rw [gxs, pE.2.2 x x1, pD.2.2 x x1, eC]
      refine ⟨fun z => b121 C (pt_rf C) ?_, fun z => nTo_fail tC (fun D pD tD => vLr_tellSaying_120 (b121 D pD ?_))⟩
      · unfold sy3
        by_cases y : (tkMv T t (adv T t s) &&& tkMv T t (adv T t (sy1 T t s))) = 0
        · rw [if_pos y]; exact tC
        · rw [if_neg y]
          have f2 : ¬ (sy2 T t s).2.2.2.2.1 = 0 := by
            rcases z with z | z
            · exact z
            · exact absurd z.2 y
          unfold tfl; rw [if_neg f2]; exact tC
      · unfold sy3; rw [if_neg z.2]; exact tD
section CT9
variable (T : Nat → Int32) (t : Nat) (k : Int32) (s : Tst)
def tw1 : Tst := if k = 5 then tkN 999 (adv T t s) else tkO T t (adv T t s)
def tw2 : Tst := if (tw1 T t k s).2.2.2.2.1 = 0 then syE T t k (tw1 T t k s) else tw1 T t k s
/-- a word's row as it begins -/
def wb0 (b : Int32) (i : Nat) : Int32 := if i = 0 then k else if i = 2 then b else if i = 1 ∨ i = 5 ∨ i = 6 ∨ i = 8 then -4 else 0
def wb1 (b : Int32) (i : Nat) : Int32 := if k = 5 then (if i = 8 then tkNv 999 (adv T t s) else wb0 k b i) else (if i = 1 then tkOv T t (adv T t s) else wb0 k b i)
def wb2 (b : Int32) : Nat → Int32 := syr T t k (tw1 T t k s) (wb1 T t k s b)
end CT9
theorem nLr_tellWord {M : Mm} {T : Nat → Int32} {t D r : Nat} {k : Int32} {s : Tst} {K : Mm → Prop} (hl : LR M r) (hr : 145 < r) (g0 : gr M 258 0 = some 199) (td : TD M T t s) (hD : gi M r 1 = nI D) (hD2 : D ≤ 24)
    (h5 : D = 24 → ∀ N, PT M N → TD N T t (tfl 5 s) → K N)
    (h0 : D < 24 → ∀ N, PX (r + 776 + 64 * D) M N → TD N T t (tw2 T t k s) → ¬ (tw2 T t k s).2.2.2.2.1 = 0 → K (si N r 1 (nI D)))
    (h1 : D < 24 → ∀ N, PX (r + 776 + 64 * D) M N → TD N T t (tw2 T t k s) → (tw2 T t k s).2.2.2.2.1 = 0 → (∀ i, i < 11 → gi N (r + 776 + 64 * D) i = wb2 T t k s (gi M 258 1) i) → K (si N r 1 (nI (D + 1)))) : CV mLr_tellWord [.ref 258, .ref r, .int k] M K := by
  refine call_of rfl (Nat.le_of_ble_eq_true rfl) rfl (vLr_tellWord_0 hl.1 rfl (lr0 hl) g0 ⟨fun q => ?_, fun q => nTo_fail td (fun N pN tN => vLr_tellWord_17 (h5 ?_ N pN tN))⟩)
  · rw [hD] at q
    rw [show (24 : Int32) = nI 24 from rfl, nlt (by decide) (by omega)] at q
    have hx : (r + 776 + 64 * D) % 64 = 9 := by have := hl.1; omega
    have x1 : r + 776 + 64 * D ≠ 199 := by omega
    have x2 : r + 776 + 64 * D ≠ 70 := by omega
    have x3 : r + 776 + 64 * D ≠ 145 := by omega
    have x4 : r ≠ r + 776 + 64 * D := by omega
    have hg := hl.2.2 D q
    have h0' := h0 q
    have h1' := h1 q
    rw [hD]
    refine ⟨vin q (by decide), r + 776 + 64 * D, by rw [ncl (by omega)]; exact hg, call_of rfl (Nat.le_of_ble_eq_true rfl) rfl (vWo_begin_0 hx ?_)⟩
    generalize r + 776 + 64 * D = x at hx x1 x2 x3 x4 hg h0' h1' ⊢
    have pA : ∀ b : Int32, PX x M (si (si (si (si (si (si (si (si (si (si (si M x 0 k) x 1 (-4)) x 2 b) x 3 0) x 4 0) x 5 (-4)) x 6 (-4)) x 7 0) x 8 (-4)) x 9 0) x 10 0) := fun b => px_tr px_si (px_tr px_si (px_tr px_si (px_tr px_si (px_tr px_si (px_tr px_si (px_tr px_si (px_tr px_si (px_tr px_si (px_tr px_si px_si)))))))))
    have tA : ∀ b : Int32, TD (si (si (si (si (si (si (si (si (si (si (si M x 0 k) x 1 (-4)) x 2 b) x 3 0) x 4 0) x 5 (-4)) x 6 (-4)) x 7 0) x 8 (-4)) x 9 0) x 10 0) T t s := fun b => td_si x1 x2 x3 (td_si x1 x2 x3 (td_si x1 x2 x3 (td_si x1 x2 x3 (td_si x1 x2 x3 (td_si x1 x2 x3 (td_si x1 x2 x3 (td_si x1 x2 x3 (td_si x1 x2 x3 (td_si x1 x2 x3 (td_si x1 x2 x3 td))))))))))
    have eA : ∀ b : Int32, ∀ i, i < 11 → gi (si (si (si (si (si (si (si (si (si (si (si M x 0 k) x 1 (-4)) x 2 b) x 3 0) x 4 0) x 5 (-4)) x 6 (-4)) x 7 0) x 8 (-4)) x 9 0) x 10 0) x i = wb0 k b i := by
      intro b i hi
      simp only [gxs]
      unfold wb0
      match i, hi with
      | 0, _ => rfl
      | 1, _ => rfl
      | 2, _ => rfl
      | 3, _ => rfl
      | 4, _ => rfl
      | 5, _ => rfl
      | 6, _ => rfl
      | 7, _ => rfl
      | 8, _ => rfl
      | 9, _ => rfl
      | 10, _ => rfl
    have pA := pA (gi M 258 1)
    have tA := tA (gi M 258 1)
    have eA := eA (gi M 258 1)
    generalize si (si (si (si (si (si (si (si (si (si (si M x 0 k) x 1 (-4)) x 2 (gi M 258 1)) x 3 0) x 4 0) x 5 (-4)) x 6 (-4)) x 7 0) x 8 (-4)) x 9 0) x 10 0 = A at pA tA eA ⊢
    have gA : gr A 258 0 = some 199 := by rw [pA.1]; exact g0
    have b71 : ∀ N, PX x M N → TD N T t (tw1 T t k s) → (∀ i, i < 11 → gi N x i = wb1 T t k s (gi M 258 1) i) → X mLr_tellWord 71 [(0, .ref 258), (1, .ref r), (3, .ref x)] [] N (mC mLr_tellWord, mS mLr_tellWord) (QV K) := by
      intro N pN tN eN
      have n5 := tN.2.2.2.2.2.1
      have gN : gr N 258 0 = some 199 := by rw [pN.1]; exact g0
      have hr1 : r ≠ 199 := by have := hl.1; omega
      refine vLr_tellWord_71 rfl gN ⟨fun z => ?_, fun z => ?_⟩
      · rw [n5] at z
        have e : tw2 T t k s = tw1 T t k s := by unfold tw2; rw [if_neg z]
        refine vLr_tellWord_86 hl.1 rfl gN ?_
        rw [n5, if_neg z, pN.2.2 r hr1 x4, hD, Int32.add_zero]
        rw [← e] at tN z
        exact h0' N pN tN z
      · rw [n5] at z
        have e : tw2 T t k s = syE T t k (tw1 T t k s) := by unfold tw2; rw [if_pos z]
        have ek : gi N x 0 = k := by
          rw [eN 0 (by decide)]
          unfold wb1
          by_cases y : k = 5
          · rw [if_pos y, if_neg (by decide)]; rfl
          · rw [if_neg y, if_neg (by decide)]; rfl
        refine nLr_tellSaying hx gN tN ek (fun O pO tO hO => ?_)
        have gO : gr O 258 0 = some 199 := by rw [pO.1]; exact gN
        have o5 := tO.2.2.2.2.2.1
        have pMO := px_tr pN pO
        refine vLr_tellWord_86 hl.1 rfl gO ?_
        rw [o5, pMO.2.2 r hr1 x4, hD]
        rw [← e] at tO hO ⊢
        by_cases y : (tw2 T t k s).2.2.2.2.1 = 0
        · rw [if_pos y, nI_s]
          refine h1' O pMO tO y (fun i hi => ?_)
          rw [hO y]
          have sy : ∀ R R' : Nat → Int32, R i = R' i → syr T t k (tw1 T t k s) R i = syr T t k (tw1 T t k s) R' i := by
            intro R R' e
            unfold syr
            rw [e]
          exact sy _ _ (eN i hi)
        · rw [if_neg y, Int32.add_zero]
          exact h0' O pMO tO y
    refine vLr_tellWord_38 rfl gA ⟨fun z => nTo_takeDoctor tA (fun N pN tN => vLr_tellWord_68 hx (b71 _ (px_tr pA (px_tr (px_pt pN) px_si)) ?_ (fun i hi => ?_))), fun z => nTo_takeNumber tA (fun N pN tN => vLr_tellWord_54 hx (b71 _ (px_tr pA (px_tr (px_pt pN) px_si)) ?_ (fun i hi => ?_)))⟩
    · unfold tw1; rw [if_neg z]; exact td_si x1 x2 x3 tN
    · rw [gxs, pN.2.2 x x1, eA i hi]; unfold wb1; rw [if_neg z]
    · unfold tw1; rw [if_pos z]; exact td_si x1 x2 x3 tN
    · rw [gxs, pN.2.2 x x1, eA i hi]; unfold wb1; rw [if_pos z]
  · rw [hD] at q
    rw [show (24 : Int32) = nI 24 from rfl, nlt (by decide) (by omega)] at q
    omega
end MG38
section MG39
/-! ===== the class's reader of a library: copies, what words follow, lines ===== -/
section CT10
variable (T : Nat → Int32) (t : Nat) (v : Int32) (s : Tst)
def tc1 : Tst := if tkNv 7 (adv T t s) < 0 then tkN 7 (adv T t s) else if ((ushr v (tkNv 7 (adv T t s))) &&& 1) = 1 then tfl 4 (tkN 7 (adv T t s)) else tkN 7 (adv T t s)
def tcE : Tst := if (tc1 T t v s).2.2.2.2.1 = 0 then tkN 9 (adv T t (tc1 T t v s)) else tc1 T t v s
end CT10
theorem tc1_ok {T : Nat → Int32} {t : Nat} {v : Int32} {s : Tst} (h : (tc1 T t v s).2.2.2.2.1 = 0) : (tkN 7 (adv T t s)).2.2.2.2.1 = 0 ∧ tc1 T t v s = tkN 7 (adv T t s) := by
  unfold tc1 at h ⊢
  by_cases q : tkNv 7 (adv T t s) < 0
  · rw [if_pos q] at h ⊢; exact ⟨h, rfl⟩
  · rw [if_neg q] at h ⊢
    by_cases r : ((ushr v (tkNv 7 (adv T t s))) &&& 1) = 1
    · rw [if_pos r] at h; exact absurd h (tfl_ne (by decide))
    · rw [if_neg r] at h ⊢; exact ⟨h, rfl⟩
theorem nLr_tellCopies {M : Mm} {T : Nat → Int32} {t r : Nat} {v : Int32} {s : Tst} {K : Int32 → Mm → Prop} (hl : LR M r) (hr : 145 < r) (g0 : gr M 258 0 = some 199) (td : TD M T t s)
    (h0 : ∀ N, PT M N → TD N T t (tcE T t v s) → ¬ (tc1 T t v s).2.2.2.2.1 = 0 → K 0 N)
    (h1 : ∀ N i, PT M N → TD N T t (tcE T t v s) → (tc1 T t v s).2.2.2.2.1 = 0 → i < 8 → tkNv 7 (adv T t s) = nI i → K ((1 : Int32) <<< (nI i &&& 31)) (si N (r + 140) i (tkNv 9 (adv T t (tc1 T t v s))))) : CI mLr_tellCopies [.ref 258, .ref r, .int v] M K := by
  refine call_of rfl (Nat.le_of_ble_eq_true rfl) rfl (vLr_tellCopies_0 rfl g0 (nTo_takeNumber td (fun N pN tN => ?_)))
  have tcM := td.1
  have gN : gr N 258 0 = some 199 := by rw [pN.1]; exact g0
  have b31 : ∀ O, PT M O → TD O T t (tc1 T t v s) → X mLr_tellCopies 31 [(0, .ref 258), (1, .ref r), (3, .int (tkNv 7 (adv T t s)))] [] O (mC mLr_tellCopies, mS mLr_tellCopies) (QI K) := by
    intro O pO tO
    have o5 := tO.2.2.2.2.2.1
    have gO : gr O 258 0 = some 199 := by rw [pO.1]; exact g0
    have lO : gr O r 2 = some (r + 140) := by rw [pO.1]; exact lr2 hl
    refine vLr_tellCopies_31 rfl hl.1 gO lO ⟨fun q => ?_, fun q => ?_⟩
    · rw [o5] at q
      obtain ⟨i, hi, ei⟩ := (tkN_ok (g := 7) (by decide) tcM (tc1_ok q).1).1
      have e : tcE T t v s = tkN 9 (adv T t (tc1 T t v s)) := by unfold tcE; rw [if_pos q]
      refine nTo_takeNumber tO (fun P pP tP => ?_)
      rw [← e] at tP
      have ei' : tkNv 7 (adv T t s) = nI i := ei
      rw [ei']
      have := h1 P i (pt_tr pO pP) tP q (by omega) ei'
      refine vLr_tellCopies_57 (lrk hl 140 13 rfl (by decide)) ⟨vin (by omega) (by decide), ?_⟩
      rw [ncl (by omega)]; exact this
    · rw [o5] at q
      have e : tcE T t v s = tc1 T t v s := by unfold tcE; rw [if_neg q]
      exact h0 O pO (by rw [e]; exact tO) q
  refine vLr_tellCopies_9 ⟨fun q => b31 N pN ?_, fun q => sC_holds (vLr_tellCopies_19 rfl gN ⟨fun z => b31 N pN ?_, fun z => nTo_fail tN (fun O pO tO => vLr_tellCopies_30 (b31 O (pt_tr pN pO) ?_))⟩)⟩
  · unfold tc1; rw [if_pos q]; exact tN
  · have c : ¬ ((ushr v (tkNv 7 (adv T t s))) &&& 1) = 1 := fun y => by rw [if_pos y] at z; exact absurd z (by decide)
    unfold tc1; rw [if_neg q, if_neg c]; exact tN
  · have c : ((ushr v (tkNv 7 (adv T t s))) &&& 1) = 1 := by
      by_cases y : ((ushr v (tkNv 7 (adv T t s))) &&& 1) = 1
      · exact y
      · rw [if_neg y] at z; exact absurd rfl z
    unfold tc1; rw [if_neg q, if_pos c]; exact tO
/-- whether a word follows as it may -/
def mfc (M : Mm) (r D w : Nat) : Prop := ¬ gi M (r + 776 + 64 * w) 6 < 0 ∧ ¬ nI D ≤ gi M (r + 776 + 64 * w) 6 ∧ ¬ gi M (r + 776 + 64 * w) 6 = nI w ∧ ¬ gi M (r + 776 + 64 * (gi M (r + 776 + 64 * w) 6).toNatClampNeg) 0 = 5
theorem sLi_mayFollow {M : Mm} {r D w : Nat} {K : Int32 → Mm → Prop} (hl : LR M r) (hD : gi M r 1 = nI D) (hD2 : D ≤ 24) (hw : w < D) (h0 : ¬ mfc M r D w → K 0 M) (h1 : mfc M r D w → K 1 M) : CI mLi_mayFollow [.ref r, .int (nI w)] M K := by
  refine call_of rfl (Nat.le_of_ble_eq_true rfl) rfl (vLi_mayFollow_0 hl.1 (lr0 hl) ⟨vin (show w < 24 by omega) (by decide), r + 776 + 64 * w, by rw [ncl (by omega)]; exact hl.2.2 w (by omega), fun q => h0 (fun z => ?_), fun q => ?_⟩)
  · rw [hD] at q
    rcases q with q | q | q
    · exact z.1 q
    · exact z.2.1 q.2
    · exact z.2.2.1 q.2.2
  · rw [hD] at q
    obtain ⟨f, hf, ef⟩ := rng (n := D) rfl (by omega) q.1 q.2.1
    rw [ef]
    refine ⟨vin (show f < 24 by omega) (by decide), r + 776 + 64 * f, by rw [ncl (by omega)]; exact hl.2.2 f (by omega), fun z => h0 (fun y => ?_), fun z => h1 ⟨q.1, q.2.1, q.2.2, ?_⟩⟩
    · have := y.2.2.2
      rw [ef, ncl (by omega)] at this
      exact this z
    · rw [ef, ncl (by omega)]; exact z
def badc (M : Mm) (r D w : Nat) : Prop := ¬ gi M (r + 776 + 64 * w) 6 < 0 ∧ ¬ mfc M r D w
theorem sLr_findWrong {M : Mm} {T : Nat → Int32} {t r D : Nat} {s : Tst} {K : Mm → Prop} (hl : LR M r) (hr : 199 < r) (g0 : gr M 258 0 = some 199) (td : TD M T t s) (hD : s.2.2.2.2.1 = 0 → gi M r 1 = nI D ∧ D ≤ 24) (hf : ¬ s.2.2.2.2.1 = 0 → K M) (h0 : s.2.2.2.2.1 = 0 → (∀ w, w < D → ¬ badc M r D w) → K M) (h1 : s.2.2.2.2.1 = 0 → ∀ w, w < D → badc M r D w → (∀ v, v < w → ¬ badc M r D v) → ∀ N, PT M N → gi N 199 5 = 6 → gi N 199 6 = gi M (r + 776 + 64 * w) 7 → gi N 199 4 = s.2.2.2.1 → K N) : CV mLr_findWrongFollowers [.ref 258, .ref r] M K := by
  have t5 := td.2.2.2.2.2.1
  refine call_of rfl (Nat.le_of_ble_eq_true rfl) rfl (vLr_findWrongFollowers_0 ?_)
  by_cases z : s.2.2.2.2.1 = 0
  · obtain ⟨hD, hD2⟩ := hD z
    have key : ∀ n i, i + n = D → (∀ v, v < i → ¬ badc M r D v) → X mLr_findWrongFollowers 2 [(0, .ref 258), (1, .ref r), (2, .int (nI i))] [] M (mC mLr_findWrongFollowers, mS mLr_findWrongFollowers) (QV K) := by
      intro n
      induction n with
      | zero =>
        intro i hi hb
        rw [Nat.add_zero] at hi
        subst hi
        have l : gi M r 1 ≤ nI i := by rw [hD]; exact Int32.le_refl _
        exact vLr_findWrongFollowers_2 hl.1 rfl g0 (lr0 hl) ⟨fun _ => h0 z hb, fun q => absurd l q.1⟩
      | succ n ih =>
        intro i hi hb
        have hi2 : i < D := by omega
        have l : ¬ gi M r 1 ≤ nI i := by rw [hD]; exact nge rfl (by omega) hi2
        have go : ¬ badc M r D i → X mLr_findWrongFollowers 2 [(0, .ref 258), (1, .ref r), (2, .int (nI i + 1))] [] M (mC mLr_findWrongFollowers, mS mLr_findWrongFollowers) (QV K) := by
          intro nb
          rw [nI_s]
          refine ih (i + 1) (by omega) (fun v hv => ?_)
          by_cases e : v = i
          · rw [e]; exact nb
          · exact hb v (by omega)
        have gw : gr M (r + 81) (nI i).toNatClampNeg = some (r + 776 + 64 * i) := by rw [ncl (by omega)]; exact hl.2.2 i (by omega)
        refine vLr_findWrongFollowers_2 hl.1 rfl g0 (lr0 hl) ⟨fun q => ?_, fun _ => ⟨vin (show i < 24 by omega) (by decide), r + 776 + 64 * i, gw, fun q => go (fun b => b.1 q), fun q => sLi_mayFollow hl hD hD2 hi2 (fun m => ?_) (fun m => ?_)⟩⟩
        · exfalso
          rcases q with q | q
          · exact l q
          · exact q.2 (t5.trans z)
        · refine vLr_findWrongFollowers_37 rfl hl.1 g0 (lr0 hl) ⟨fun y => absurd rfl y, fun _ => ⟨vin (show i < 24 by omega) (by decide), r + 776 + 64 * i, gw, nTo_failAt td (fun N pN n5 n6 n4 => vLr_findWrongFollowers_58 ?_)⟩⟩
          rw [if_pos z] at n5 n6
          have k := h1 z i hi2 ⟨q, m⟩ hb N pN n5 n6 n4
          have gN : gr N 258 0 = some 199 := by rw [pN.1]; exact g0
          have lN : gr N r 0 = some (r + 81) := by rw [pN.1]; exact lr0 hl
          have nz : ¬ gi N 199 5 = 0 := by rw [n5]; decide
          have k2 : ∀ v, X mLr_findWrongFollowers 2 [(0, .ref 258), (1, .ref r), (2, .int v)] [] N (mC mLr_findWrongFollowers, mS mLr_findWrongFollowers) (QV K) := fun v => vLr_findWrongFollowers_2 hl.1 rfl gN lN ⟨fun _ => k, fun y => absurd y.2 nz⟩
          exact k2 _
        · exact vLr_findWrongFollowers_37 rfl hl.1 g0 (lr0 hl) ⟨fun _ => go (fun b => b.2 m), fun y => absurd y (by decide)⟩
    exact key D 0 (by omega) (fun v hv => absurd hv (by omega))
  · have nz : ¬ gi M 199 5 = 0 := by rw [t5]; exact z
    refine vLr_findWrongFollowers_2 hl.1 rfl g0 (lr0 hl) ⟨fun _ => hf z, fun q => absurd q.2 nz⟩
/-- a word's row is as it should be -/
def WK (F : Nat) (M : Mm) (x : Nat) : Prop := (∃ b, b < 8 ∧ gi M x 2 = nI b) ∧ (gi M x 1 < 0 ∨ ∃ d, d < 8 ∧ gi M x 1 = nI d) ∧ (∃ m, m < 64 ∧ gi M x 3 = nI m) ∧ (gi M x 6 < 0 ∨ ∃ f, f < F ∧ gi M x 6 = nI f)
/-- what the reading of a library may change -/
def PC (r : Nat) (M N : Mm) : Prop := gr N = gr M ∧ gl N = gl M ∧ ∀ a, a ≠ 199 → a ≠ 258 → ¬ (r ≤ a ∧ a < r + 2304) → gi N a = gi M a
theorem pc_pt {r : Nat} {M N : Mm} (f : PT M N) : PC r M N := ⟨f.1, f.2.1, fun a h _ _ => f.2.2 a h⟩
theorem pc_px {r x : Nat} {M N : Mm} (h : r ≤ x ∧ x < r + 2304) (f : PX x M N) : PC r M N := ⟨f.1, f.2.1, fun a h1 _ h3 => f.2.2 a h1 (fun e => h3 (by omega))⟩
theorem pc_tr {r : Nat} {M N O : Mm} (f : PC r M N) (g : PC r N O) : PC r M O := ⟨g.1.trans f.1, g.2.1.trans f.2.1, fun a h h2 h3 => (g.2.2 a h h2 h3).trans (f.2.2 a h h2 h3)⟩
theorem pc_si {r x j : Nat} {M : Mm} {v : Int32} (h : x = 258 ∨ (r ≤ x ∧ x < r + 2304)) : PC r M (si M x j v) := ⟨rfl, rfl, fun a _ h2 h3 => gi_ne (fun e => by subst e; exact h.elim h2 h3)⟩
theorem lr_gr {M N : Mm} {r : Nat} (h : LR M r) (e : gr N = gr M) : LR N r := ⟨h.1, fun q hq => by rw [e]; exact h.2.1 q hq, fun w hw => by rw [e]; exact h.2.2 w hw⟩
theorem wk_eq {F : Nat} {M N : Mm} {x : Nat} (h : gi N x = gi M x) (w : WK F M x) : WK F N x := by unfold WK; rw [h]; exact w
/-- the row of a word that was told without a fault -/
theorem wb2_ok {M : Mm} {T : Nat → Int32} {t : Nat} {k b0 : Int32} {s : Tst} {b : Nat} (tc : TC M T t) (hb : b < 8) (eb : b0 = nI b) (h : (tw2 T t k s).2.2.2.2.1 = 0) : (∃ b, b < 8 ∧ wb2 T t k s b0 2 = nI b) ∧ (wb2 T t k s b0 1 < 0 ∨ ∃ d, d < 8 ∧ wb2 T t k s b0 1 = nI d) ∧ (∃ m, m < 64 ∧ wb2 T t k s b0 3 = nI m) ∧ (wb2 T t k s b0 6 < 0 ∨ ∃ f, f < 24 ∧ wb2 T t k s b0 6 = nI f) := by
  have h1 : (tw1 T t k s).2.2.2.2.1 = 0 := by
    unfold tw2 at h
    by_cases q : (tw1 T t k s).2.2.2.2.1 = 0
    · exact q
    · rw [if_neg q] at h; exact h
  unfold tw2 at h
  rw [if_pos h1] at h
  have w1 : ∀ i, i ≠ 8 → i ≠ 1 → wb1 T t k s b0 i = wb0 k b0 i := by
    intro i a c
    unfold wb1
    by_cases q : k = 5
    · rw [if_pos q, if_neg a]
    · rw [if_neg q, if_neg c]
  unfold wb2
  generalize tw1 T t k s = u at h h1
  have sy : ∀ i, i = 1 ∨ i = 2 → syr T t k u (wb1 T t k s b0) i = wb1 T t k s b0 i := by
    intro i hi
    unfold syr
    rcases hi with rfl | rfl
    · by_cases q : k13 k
      · rw [if_pos q, if_neg (by decide), if_neg (by decide)]
      · rw [if_neg q]
        by_cases q4 : k = 4
        · rw [if_pos q4, if_neg (by decide)]
        · rw [if_neg q4, if_neg (by decide), if_neg (by decide), if_neg (by decide)]
    · by_cases q : k13 k
      · rw [if_pos q, if_neg (by decide), if_neg (by decide)]
      · rw [if_neg q]
        by_cases q4 : k = 4
        · rw [if_pos q4, if_neg (by decide)]
        · rw [if_neg q4, if_neg (by decide), if_neg (by decide), if_neg (by decide)]
  refine ⟨⟨b, hb, ?_⟩, ?_, ?_, ?_⟩
  · rw [sy 2 (Or.inr rfl), w1 2 (by decide) (by decide)]; exact eb
  · rw [sy 1 (Or.inl rfl)]
    unfold wb1
    by_cases q : k = 5
    · rw [if_pos q, if_neg (by decide)]; exact Or.inl (by show (-4 : Int32) < 0; decide)
    · rw [if_neg q, if_pos rfl]
      rcases tkOv_c tc (adv T t s) with e | e
      · rw [e]; exact Or.inl (by decide)
      · exact Or.inr e
  · unfold syE at h
    unfold syr
    by_cases q : k13 k
    · rw [if_pos q, if_neg (by decide), if_neg (by decide), w1 3 (by decide) (by decide)]
      exact ⟨0, by decide, rfl⟩
    · rw [if_neg q] at h ⊢
      have f1 : (sy1 T t u).2.2.2.2.1 = 0 := by
        by_cases q4 : k = 4
        · rw [if_pos q4] at h; exact h
        · rw [if_neg q4] at h
          by_cases y : (sy1 T t u).2.2.2.2.1 = 0
          · exact y
          · rw [if_neg y] at h; exact h
      obtain ⟨m, hm, em⟩ := (tkM_ok tc f1).1
      refine ⟨m, hm, ?_⟩
      by_cases q4 : k = 4
      · rw [if_pos q4, if_pos rfl]; exact em
      · rw [if_neg q4, if_neg (by decide), if_neg (by decide), if_pos rfl]; exact em
  · unfold syE at h
    unfold syr
    by_cases q : k13 k
    · rw [if_pos q] at h ⊢
      rw [if_neg (by decide), if_pos rfl]
      obtain ⟨f, hf, ef⟩ := (tkN_ok (g := 23) (by decide) tc h).1
      exact Or.inr ⟨f, by omega, ef⟩
    · rw [if_neg q]
      left
      by_cases q4 : k = 4
      · rw [if_pos q4, if_neg (by decide), w1 6 (by decide) (by decide)]; show (-4 : Int32) < 0; decide
      · rw [if_neg q4, if_neg (by decide), if_neg (by decide), if_neg (by decide), w1 6 (by decide) (by decide)]; show (-4 : Int32) < 0; decide
end MG39
section MG40
/-! ===== the class's readers: a library, a rule ===== -/
theorem tc_gi {M N : Mm} {T : Nat → Int32} {t : Nat} (h1 : gr N = gr M) (h2 : gi N 70 = gi M 70) (h3 : gi N 145 = gi M 145) (h : TC M T t) : TC N T t := by
  unfold TC; rw [h1, h2, h3]; exact h
/-- a library that was told without a fault -/
def LD (M : Mm) (r D : Nat) : Prop := LR M r ∧ gi M r 1 = nI D ∧ D ≤ 24 ∧ ∀ w, w < D → WK D M (r + 776 + 64 * w)
/-- a rule's notes are told or not -/
def RN (M : Mm) (r : Nat) : Prop := gi M r 2 = 0 ∨ gi M r 2 = 1
end MG40
