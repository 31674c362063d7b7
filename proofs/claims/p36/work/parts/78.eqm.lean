/-! ===== words speak: pure, and the class ===== -/
def anyb (f : Nat → Bool) : Nat → Bool
  | 0 => false
  | n + 1 => anyb f n || f n
theorem anyb_t (f : Nat → Bool) : ∀ n, anyb f n = true ↔ ∃ v, v < n ∧ f v = true
  | 0 => by
    rw [anyb]
    exact ⟨fun h => absurd h (by decide), fun ⟨v, h, _⟩ => absurd h (by omega)⟩
  | n + 1 => by
    rw [anyb, Bool.or_eq_true, anyb_t f n]
    constructor
    · rintro (⟨v, h1, h2⟩ | h)
      · exact ⟨v, by omega, h2⟩
      · exact ⟨n, by omega, h⟩
    · rintro ⟨v, h1, h2⟩
      by_cases e : v = n
      · subst e; exact Or.inr h2
      · exact Or.inl ⟨v, by omega, h2⟩
def csw (g : Nat → Nat → Int32) (w c : Nat) : Bool := decide ((nI c &&& g w 3) = g w 3 ∧ (nI c &&& g w 4) = 0)
def lky (g : Nat → Nat → Int32) (Y : Nat → Nat → Bool) (w : Nat) : Bool := anyb (fun v => bt (fowg g w) v && Y v (g w 3).toNatClampNeg) w
def sayY (g : Nat → Nat → Int32) (Y Z : Nat → Nat → Bool) (w c : Nat) : Bool :=
  if g w 0 = 4 then csw g w c && (lky g Y w && !lky g Z w) else if g w 0 = 0 ∨ g w 0 = 5 then csw g w c && decide (g w 5 = 1) else if g w 0 = 2 then Z (g w 6).toNatClampNeg c else Y (g w 6).toNatClampNeg c
def sayN (g : Nat → Nat → Int32) (Y Z : Nat → Nat → Bool) (w c : Nat) : Bool :=
  if g w 0 = 4 then csw g w c && (lky g Z w && !lky g Y w) else if g w 0 = 0 ∨ g w 0 = 5 then csw g w c && decide (¬ g w 5 = 1) else if g w 0 = 2 then Y (g w 6).toNatClampNeg c else Z (g w 6).toNatClampNeg c
def upb (Y : Nat → Nat → Bool) (w : Nat) (f : Nat → Bool) (v : Nat) : Nat → Bool := if v = w then f else Y v
/-- a word's row, as it must stand for speaking: its sort, what it follows, its marks, its answer -/
def RS6 (g : Nat → Nat → Int32) (D w : Nat) : Prop := (((g w 0 = 0 ∨ g w 0 = 4 ∨ g w 0 = 5) ∧ g w 6 = -4) ∨ (¬ (g w 0 = 0 ∨ g w 0 = 4 ∨ g w 0 = 5) ∧ ∃ f, f < D ∧ f ≠ w ∧ g w 6 = nI f)) ∧ (∃ m, m < 64 ∧ g w 3 = nI m) ∧ ((g w 0 = 0 ∨ g w 0 = 5) → (g w 5 = 0 ∨ g w 5 = 1))
/-- what words say, as the class has it -/
def CY (N : Mm) (r : Nat) (Y Z : Nat → Nat → Bool) : Prop := ∀ c, c < 64 → ∀ v, v < 32 → bt (gi N (r + 205) c) v = Y v c ∧ bt (gi N (r + 269) c) v = Z v c
/-- what a word's speaking may change -/
def F4 (r w : Nat) (M N : Mm) : Prop := gr N = gr M ∧ gl N = gl M ∧ (∀ a, a ≠ r + 205 → a ≠ r + 269 → a ≠ r + 776 + 64 * w → gi N a = gi M a) ∧ ∀ k, k ≠ 10 → gi N (r + 776 + 64 * w) k = gi M (r + 776 + 64 * w) k
theorem f4_rf (r w : Nat) (M : Mm) : F4 r w M M := ⟨rfl, rfl, fun _ _ _ _ => rfl, fun _ _ => rfl⟩
theorem f4_st {r w : Nat} {M N : Mm} (f : F4 r w M N) (hw : w < 24) : ST r M N := by
  obtain ⟨f1, f2, f3, f4⟩ := f
  refine ⟨f1, f2, by rw [f3 r (by omega) (by omega) (by omega)], fun v hv i hi => ?_, fun a ha => f3 a (by omega) (by omega) (by omega), f3 _ (by omega) (by omega) (by omega)⟩
  by_cases e : v = w
  · subst e; exact f4 i (by omega)
  · rw [f3 _ (by omega) (by omega) (by omega)]
theorem f4_si {r w x j : Nat} {M N : Mm} {v : Int32} (h : x = r + 205 ∨ x = r + 269) (f : F4 r w M N) : F4 r w M (si N x j v) := by
  obtain ⟨f1, f2, f3, f4⟩ := f
  refine ⟨f1, f2, fun a n1 n2 n3 => ?_, fun k hk => ?_⟩
  · rw [gi_ne (by omega)]; exact f3 a n1 n2 n3
  · rw [giR _ _ _ _ _ _ (by omega)]; exact f4 k hk
/-- the steps of a word that speaks -/
def S10 (M N : Mm) (r : Nat) (g : Nat → Nat → Int32) (w : Nat) : Prop := (g w 6 = -4 → gi N (r + 776 + 64 * w) 10 = gi M (r + 776 + 64 * w) 10) ∧ ∀ f, f < 24 → g w 6 = nI f → gi N (r + 776 + 64 * w) 10 = gi M (r + 776 + 64 * f) 10 + 1
theorem s10_si {M N : Mm} {r : Nat} {g : Nat → Nat → Int32} {w x j : Nat} {v : Int32} (h : x < r + 776) (s : S10 M N r g w) : S10 M (si N x j v) r g w := by
  unfold S10
  rw [giR _ _ _ _ _ _ (by omega)]
  exact s
def vl2 (y z : Bool) : Int32 := if y = true then 1 else if z = true then 0 else -4
theorem fsv (y z : Bool) (h : ¬ (y = true ∧ z = true)) : (vl2 y z = 1 ↔ y = true) ∧ (vl2 y z = 0 ↔ z = true) ∧ (vl2 y z = -4 ↔ y = false ∧ z = false) ∧ (¬ vl2 y z = -4 → ((1 - vl2 y z = 1 ↔ z = true) ∧ (1 - vl2 y z = 0 ↔ y = true))) := by
  cases y <;> cases z
  · decide
  · decide
  · decide
  · exact absurd ⟨rfl, rfl⟩ h
theorem nz_b {x : Int32} : ¬ x = 0 ↔ ∃ v, v < 32 ∧ bt x v = true := by
  constructor
  · intro h
    by_cases e : ∃ v, v < 32 ∧ bt x v = true
    · exact e
    · exfalso
      refine h (b_ext (fun i hi => ?_))
      rw [b_0]
      by_cases z : bt x i = true
      · exact absurd ⟨i, hi, z⟩ e
      · exact Bool.not_eq_true _ ▸ z
  · rintro ⟨v, -, hv⟩ z
    rw [z, b_0] at hv
    exact absurd hv (by decide)
section EQM
variable {M : Mm} {r D : Nat}
theorem eS_speak {K : Mm → Prop} {g : Nat → Nat → Int32} {Y Z : Nat → Nat → Bool} {w : Nat} (l : LD M r D) (hw : w < D) (eg : ∀ i, i < 7 → gi M (r + 776 + 64 * w) i = g w i) (rs : RS6 g D w) (fo : gi M (r + 651) w = fowg g w) (cy : CY M r Y Z) (fb : ∀ v, v < 32 → bt (fowg g w) v = true → g w 0 = 4 → v < w) (y0 : ∀ c, Y w c = false ∧ Z w c = false) (xc : ∀ v c, ¬ (Y v c = true ∧ Z v c = true))
    (h : ∀ N, F4 r w M N → CY N r (upb Y w (sayY g Y Z w)) (upb Z w (sayN g Y Z w)) → S10 M N r g w → K N) : CV mLi_speak [.ref r, .int (nI w)] M K := by
  have hl := l.1
  have hD := l.2.2.1
  have hw24 : w < 24 := by omega
  have cw : (nI w).toNatClampNeg = w := ncl (by omega)
  obtain ⟨r6, ⟨m, hm, em⟩, r5⟩ := rs
  have vm : vp_in (gi M (r + 776 + 64 * w) 3) 64 := by rw [eg 3 (by decide), em]; exact vin hm (by decide)
  -- the cases, one after the other
  have b84 : ∀ N v, F4 r w M N → S10 M N r g w → CY N r Y Z → (g w 6 = -4 → ∀ c, c < 64 → (sayY g Y Z w c = true ↔ csw g w c = true ∧ v = 1) ∧ (sayN g Y Z w c = true ↔ csw g w c = true ∧ v = 0)) → X mLi_speak 84 [(0, .ref r), (1, .int (nI w)), (2, .ref (r + 776 + 64 * w)), (3, .int v), (4, .int 0)] [] N (mC mLi_speak, mS mLi_speak) (QV K) := by
    intro N v fN sN cN hv
    refine lp 64 (P := fun c => ∀ N, F4 r w M N → S10 M N r g w → (∀ c', c' < 64 → ∀ u, u < 32 → bt (gi N (r + 205) c') u = (if c' < c then upb Y w (sayY g Y Z w) u c' else Y u c') ∧ bt (gi N (r + 269) c') u = (if c' < c then upb Z w (sayN g Y Z w) u c' else Z u c')) → X mLi_speak 84 [(0, .ref r), (1, .int (nI w)), (2, .ref (r + 776 + 64 * w)), (3, .int v), (4, .int (nI c))] [] N (mC mLi_speak, mS mLi_speak) (QV K)) (fun c hc ih N fN sN bN => ?_) (fun N fN sN bN => ?_) N fN sN (fun c' hc' u hu => by rw [if_neg (Nat.not_lt_zero _), if_neg (Nat.not_lt_zero _)]; exact cN c' hc' u hu)
    · have lN := ld_st (f4_st fN hw24) l
      have cc : (nI c).toNatClampNeg = c := ncl (by omega)
      have row_ : ∀ k, k < 7 → gi N (r + 776 + 64 * w) k = g w k := fun k hk => by rw [fN.2.2.2 k (by omega)]; exact eg k hk
      have b115 : ∀ x, (x = 1 ↔ sayY g Y Z w c = true) → (x = 0 ↔ sayN g Y Z w c = true) → X mLi_speak 115 [(0, .ref r), (1, .int (nI w)), (2, .ref (r + 776 + 64 * w)), (3, .int v), (4, .int (nI c))] [.int x] N (mC mLi_speak, mS mLi_speak) (QV K) := by
        intro x ex1 ex0
        have vc := vin hc (show 64 < 2 ^ 31 by decide)
        refine vLi_speak_115 hl.1 (lr3 lN.1) (lr4 lN.1) ⟨vc, vc, vc, vc, ?_⟩
        have e2 : ∀ y, gi (si N (r + 205) c y) (r + 269) c = gi N (r + 269) c := fun y => giR _ _ _ _ _ _ (by omega)
        rw [nI_s, cc, e2]
        refine ih _ (f4_si (Or.inr rfl) (f4_si (Or.inl rfl) fN)) (s10_si (by omega) (s10_si (by omega) sN)) (fun c' hc' u hu => ?_)
        obtain ⟨b1, b2⟩ := bN c' hc' u hu
        rw [giR _ _ _ _ _ _ (show r + 205 ≠ r + 269 by omega), gxs, gxs, giR _ _ _ _ _ _ (show r + 269 ≠ r + 205 by omega)]
        by_cases e : c' = c
        · subst e
          rw [if_neg (Nat.lt_irrefl _)] at b1 b2
          rw [if_pos rfl, if_pos rfl, if_pos (Nat.lt_succ_self _), if_pos (Nat.lt_succ_self _)]
          unfold upb
          constructor
          · rw [Bool.eq_iff_iff, bt_orp _ (by omega) hu, b1]
            by_cases eu : u = w
            · subst eu
              rw [if_pos rfl, (y0 c').1, ex1]
              exact ⟨fun q => q.elim (fun q => absurd q (by decide)) (fun q => q.1), fun q => Or.inr ⟨q, rfl⟩⟩
            · rw [if_neg eu]
              exact ⟨fun q => q.elim id (fun q => absurd q.2 eu), Or.inl⟩
          · rw [Bool.eq_iff_iff, bt_orp _ (by omega) hu, b2]
            by_cases eu : u = w
            · subst eu
              rw [if_pos rfl, (y0 c').2, ex0]
              exact ⟨fun q => q.elim (fun q => absurd q (by decide)) (fun q => q.1), fun q => Or.inr ⟨q, rfl⟩⟩
            · rw [if_neg eu]
              exact ⟨fun q => q.elim id (fun q => absurd q.2 eu), Or.inl⟩
        · rw [if_neg e, if_neg e, b1, b2]
          by_cases lc : c' < c
          · rw [if_pos lc, if_pos lc, if_pos (by omega), if_pos (by omega)]; exact ⟨rfl, rfl⟩
          · rw [if_neg lc, if_neg lc, if_neg (by omega), if_neg (by omega)]; exact ⟨rfl, rfl⟩
      refine vLi_speak_84 (wkk l w) hl.1 ⟨fun q => absurd q (nge rfl (by decide) hc), fun q => ?_, fun q => ?_⟩
      · have e6 : g w 6 = -4 := by
          rw [row_ 6 (by decide)] at q
          rcases r6 with z | ⟨-, f, hf, -, ef⟩
          · exact z.2
          · exfalso
            rw [ef] at q
            exact n0 f (by omega) q.2
        obtain ⟨k1, k0⟩ := hv e6 c hc
        refine call_of rfl (Nat.le_of_ble_eq_true rfl) rfl (vLi_ownSaying_0 (wkk l w) ?_)
        rw [row_ 3 (by decide), row_ 4 (by decide)]
        refine ⟨fun p => b115 _ ?_ ?_, fun p => b115 _ ?_ ?_⟩
        · have nc : ¬ csw g w c = true := fun z => by
            have z' := of_decide_eq_true z
            rcases p with p | p
            · exact p z'.1
            · exact p.2 z'.2
          exact ⟨fun z => absurd z (by decide), fun z => absurd (k1.mp z).1 nc⟩
        · have nc : ¬ csw g w c = true := fun z => by
            have z' := of_decide_eq_true z
            rcases p with p | p
            · exact p z'.1
            · exact p.2 z'.2
          exact ⟨fun z => absurd z (by decide), fun z => absurd (k0.mp z).1 nc⟩
        · have yc : csw g w c = true := decide_eq_true p
          exact ⟨fun z => k1.mpr ⟨yc, z⟩, fun z => (k1.mp z).2⟩
        · have yc : csw g w c = true := decide_eq_true p
          exact ⟨fun z => k0.mpr ⟨yc, z⟩, fun z => (k0.mp z).2⟩
      · rw [row_ 6 (by decide)] at q
        obtain ⟨nk, f, hf, fw, ef⟩ : ¬ (g w 0 = 0 ∨ g w 0 = 4 ∨ g w 0 = 5) ∧ ∃ f, f < D ∧ f ≠ w ∧ g w 6 = nI f := by
          rcases r6 with z | z
          · exfalso; rw [z.2] at q; exact q.2 (by decide)
          · exact z
        have cf6 : (g w 6).toNatClampNeg = f := by rw [ef]; exact ncl (by omega)
        have k4 : ¬ g w 0 = 4 := fun z => nk (Or.inr (Or.inl z))
        have k05 : ¬ (g w 0 = 0 ∨ g w 0 = 5) := fun z => nk (z.elim Or.inl (fun z => Or.inr (Or.inr z)))
        have eY : sayY g Y Z w c = if g w 0 = 2 then Z f c else Y f c := by unfold sayY; rw [if_neg k4, if_neg k05, cf6]
        have eN : sayN g Y Z w c = if g w 0 = 2 then Y f c else Z f c := by unfold sayN; rw [if_neg k4, if_neg k05, cf6]
        obtain ⟨b1, b2⟩ := bN c hc f (by omega)
        rw [if_neg (Nat.lt_irrefl _)] at b1 b2
        have sv : sav N r (g w 6) c = if Y f c = true then 1 else if Z f c = true then 0 else -4 := by
          unfold sav
          rw [ef]
          by_cases y1 : Y f c = true
          · rw [if_pos y1, if_pos ((bitu _ (by omega)).mpr (b1.trans y1))]
          · rw [if_neg y1, if_neg (fun z => y1 (b1.symm.trans ((bitu _ (by omega)).mp z)))]
            by_cases y2 : Z f c = true
            · rw [if_pos y2, if_pos ((bitu _ (by omega)).mpr (b2.trans y2))]
            · rw [if_neg y2, if_neg (fun z => y2 (b2.symm.trans ((bitu _ (by omega)).mp z)))]
        refine call_of rfl (Nat.le_of_ble_eq_true rfl) rfl (vLi_followedSaying_0 (wkk l w) hl.1 ?_)
        rw [row_ 6 (by decide)]
        refine sLi_saying lN.1 hc (vLi_followedSaying_9 (wkk l w) ?_)
        rw [sv, row_ 0 (by decide)]
        have ex := xc f c
        obtain ⟨t1, t2, t3, t4⟩ := fsv (Y f c) (Z f c) ex
        have vd : (if Y f c = true then (1 : Int32) else if Z f c = true then 0 else -4) = vl2 (Y f c) (Z f c) := rfl
        rw [vd]
        refine ⟨fun p => vLi_speak_105 (b115 _ ?_ ?_), fun p => vLi_speak_105 (b115 _ ?_ ?_)⟩
        · rw [eY]
          by_cases k2 : g w 0 = 2
          · rw [if_pos k2]
            have e4 : vl2 (Y f c) (Z f c) = -4 := p.elim id (fun p => absurd k2 p.2)
            have := t3.mp e4
            rw [e4, this.2]; decide
          · rw [if_neg k2]; exact t1
        · rw [eN]
          by_cases k2 : g w 0 = 2
          · rw [if_pos k2]
            have e4 : vl2 (Y f c) (Z f c) = -4 := p.elim id (fun p => absurd k2 p.2)
            have := t3.mp e4
            rw [e4, this.1]; decide
          · rw [if_neg k2]; exact t2
        · rw [eY, if_pos p.2]; exact (t4 p.1).1
        · rw [eN, if_pos p.2]; exact (t4 p.1).2
    · have lN := ld_st (f4_st fN hw24) l
      exact vLi_speak_84 (wkk l w) hl.1 ⟨fun _ => h N fN (fun c hc u hu => by have := bN c hc u hu; rwa [if_pos hc, if_pos hc] at this) sN, fun q => absurd (nself rfl) q.1, fun q => absurd (nself rfl) q.1⟩
  have b56 : ∀ v, (g w 6 = -4 → ∀ c, c < 64 → (sayY g Y Z w c = true ↔ csw g w c = true ∧ v = 1) ∧ (sayN g Y Z w c = true ↔ csw g w c = true ∧ v = 0)) → X mLi_speak 56 [(0, .ref r), (1, .int (nI w)), (2, .ref (r + 776 + 64 * w)), (3, .int v)] [] M (mC mLi_speak, mS mLi_speak) (QV K) := by
    intro v hv
    refine vLi_speak_56 (wkk l w) hl.1 (lr0 hl) ⟨fun q => vLi_speak_81 (b84 M v (f4_rf r w M) ⟨fun _ => rfl, fun f hf ef => ?_⟩ cy hv), fun q => ?_⟩
    · exfalso
      rw [eg 6 (by decide), ef] at q
      exact n0 f (by omega) q
    rw [eg 6 (by decide)] at q ⊢
    obtain ⟨nk, f, hf, fw, ef⟩ : ¬ (g w 0 = 0 ∨ g w 0 = 4 ∨ g w 0 = 5) ∧ ∃ f, f < D ∧ f ≠ w ∧ g w 6 = nI f := by
      rcases r6 with z | z
      · exfalso; rw [z.2] at q; exact q (by decide)
      · exact z
    refine ⟨by rw [ef]; exact vin (show f < 24 by omega) (by decide), r + 776 + 64 * f, by rw [ef]; exact ld_gw l (by omega), vLi_speak_81 (b84 _ v ⟨rfl, rfl, fun a _ _ n => gi_ne n, fun k hk => by rw [gxs, if_neg hk]⟩ ⟨fun z => ?_, fun f' hf' ef' => ?_⟩ (fun c hc u hu => ?_) hv)⟩
    · exact absurd (ef.symm.trans z) (nI4 (by omega))
    · have : f = f' := (ninj (by omega) (by omega)).mp (ef.symm.trans ef')
      subst this
      rw [gxs, if_pos rfl]
    rw [giR _ _ _ _ _ _ (by omega), giR _ _ _ _ _ _ (by omega)]; exact cy c hc u hu
  have e0 := eg 0 (by decide)
  have e3 := eg 3 (by decide)
  have c3 : (g w 3).toNatClampNeg = m := by rw [em]; exact ncl (by omega)
  refine call_of rfl (Nat.le_of_ble_eq_true rfl) rfl (vLi_speak_0 hl.1 (lr0 hl) (lr3 hl) (lr14 hl) (lr4 hl) ⟨ld_v l hw, r + 776 + 64 * w, ld_gw l (by omega), fun _ => vm, fun _ => ld_v l hw, fun _ => vm, fun _ => ld_v l hw, fun q => b56 _ (fun e6 c hc => ?_), fun q => sC_agreed (vLi_speak_55 (b56 _ (fun e6 c hc => ?_)))⟩)
  · rw [e0] at q
    have k05 : g w 0 = 0 ∨ g w 0 = 5 := by
      rcases r6 with z | ⟨-, f, hf, -, ef⟩
      · rcases z.1 with z | z | z
        · exact Or.inl z
        · exact absurd z q
        · exact Or.inr z
      · exact absurd (ef.symm.trans e6) (nI4 (by omega))
    rw [eg 5 (by decide)]
    unfold sayY sayN
    rw [if_neg q, if_pos k05, if_neg q, if_pos k05, Bool.and_eq_true, Bool.and_eq_true, decide_eq_true_eq, decide_eq_true_eq]
    refine ⟨Iff.rfl, ⟨fun z => ⟨z.1, (r5 k05).resolve_right z.2⟩, fun z => ⟨z.1, fun y => ?_⟩⟩⟩
    rw [z.2] at y
    exact absurd y (by decide)
  · rw [e0] at q
    rw [e3, c3, cw, fo]
    have ly : ∀ (x : Int32) (Q : Nat → Nat → Bool), (∀ v, v < 32 → bt x v = Q v m) → (¬ (x &&& fowg g w) = 0 ↔ lky g Q w = true) := by
      intro x Q hx
      rw [nz_b]
      unfold lky
      rw [anyb_t, c3]
      constructor
      · rintro ⟨v, hv, e⟩
        rw [b_and, Bool.and_eq_true, hx v hv] at e
        exact ⟨v, fb v hv e.2 q, by rw [e.2, e.1]; rfl⟩
      · rintro ⟨v, hv, e⟩
        rw [Bool.and_eq_true] at e
        exact ⟨v, by omega, by rw [b_and, hx v (by omega), e.1, e.2]; rfl⟩
    have lY := ly (gi M (r + 205) m) Y (fun v hv => (cy m hm v hv).1)
    have lZ := ly (gi M (r + 269) m) Z (fun v hv => (cy m hm v hv).2)
    unfold sayY sayN
    rw [if_pos q, if_pos q]
    by_cases a : (gi M (r + 205) m &&& fowg g w) = 0
    · have y0 : lky g Y w = false := by
        by_cases z : lky g Y w = true
        · exact absurd a (lY.mpr z)
        · exact Bool.not_eq_true _ ▸ z
      by_cases b : (gi M (r + 269) m &&& fowg g w) = 0
      · have z0 : lky g Z w = false := by
          by_cases z : lky g Z w = true
          · exact absurd b (lZ.mpr z)
          · exact Bool.not_eq_true _ ▸ z
        rw [if_pos b, if_pos a, y0, z0]
        cases csw g w c <;> decide
      · rw [if_neg b, if_pos a, y0, lZ.mp b]
        cases csw g w c <;> decide
    · by_cases b : (gi M (r + 269) m &&& fowg g w) = 0
      · have z0 : lky g Z w = false := by
          by_cases z : lky g Z w = true
          · exact absurd b (lZ.mpr z)
          · exact Bool.not_eq_true _ ▸ z
        rw [if_pos b, if_neg a, z0, lY.mp a]
        cases csw g w c <;> decide
      · rw [if_neg b, if_neg a, lZ.mp b, lY.mp a]
        cases csw g w c <;> decide
end EQM
