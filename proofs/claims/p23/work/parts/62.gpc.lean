/-! ===== the reference: findSaid, keepLibrary ===== -/
def fs1 (q : Int32 × Mm) (w : Nat) : Int32 × Mm := if ((q.1 >>> (nI w &&& 31)) &&& 1) = 0 ∧ ¬ uns q.2 w ∧ (fow q.2 w &&& (q.1 ^^^ (-1))) = 0 then (q.1 ||| ((1 : Int32) <<< (nI w &&& 31)), sl (sl q.2 6874 w (swv q.2 w).1) 6938 w (swv q.2 w).2) else q
def fsr (q : Int32 × Mm) : Nat → Int32 × Mm
  | 0 => q
  | w + 1 => fs1 (fsr q w) w
def fsR (q : Int32 × Mm) (W : Nat) : Nat → Int32 × Mm
  | 0 => q
  | r + 1 => fsr (fsR q W r) W
def zl (M : Mm) (i : Nat) : Mm := (M.1, gi M, (fun a k => if (a = 6874 ∨ a = 6938) ∧ k < i then 0 else gl M a k), gr M)
theorem gl_zl (M : Mm) (i a k : Nat) : gl (zl M i) a k = if (a = 6874 ∨ a = 6938) ∧ k < i then 0 else gl M a k := rfl
theorem zl_0 (M : Mm) : zl M 0 = M := by
  refine mm_ext rfl (fun _ _ => rfl) (fun a k => ?_) (fun _ _ => rfl)
  rw [gl_zl, if_neg (by omega)]
theorem zl_s (M : Mm) (i : Nat) : sl (sl (zl M i) 6874 i 0) 6938 i 0 = zl M (i + 1) := by
  refine mm_ext rfl (fun _ _ => rfl) (fun a k => ?_) (fun _ _ => rfl)
  rw [gl_sl, gl_sl, gl_zl, gl_zl]
  by_cases h1 : a = 6938 ∧ k = i
  · rw [if_pos h1, if_pos ⟨Or.inr h1.1, by omega⟩]
  · rw [if_neg h1]
    by_cases h2 : a = 6874 ∧ k = i
    · rw [if_pos h2, if_pos ⟨Or.inl h2.1, by omega⟩]
    · rw [if_neg h2]
      by_cases h3 : (a = 6874 ∨ a = 6938) ∧ k < i
      · rw [if_pos h3, if_pos ⟨h3.1, by omega⟩]
      · rw [if_neg h3, if_neg (fun q => h3 ⟨q.1, by omega⟩)]
/-- what findSaid changes: what words say -/
def FS (M N : Mm) : Prop := N.1 = M.1 ∧ gi N = gi M ∧ gr N = gr M ∧ ∀ a j, ¬ (a = 6874 ∨ a = 6938) → gl N a j = gl M a j
theorem fs_rf (M : Mm) : FS M M := ⟨rfl, rfl, rfl, fun _ _ _ => rfl⟩
theorem fs_tr {M N O : Mm} (f : FS M N) (g : FS N O) : FS M O := ⟨g.1.trans f.1, g.2.1.trans f.2.1, g.2.2.1.trans f.2.2.1, fun a j h => (g.2.2.2 a j h).trans (f.2.2.2 a j h)⟩
theorem fs_fs1 (q : Int32 × Mm) (w : Nat) : FS q.2 (fs1 q w).2 := by
  unfold fs1
  split
  · refine ⟨rfl, rfl, rfl, fun a j h => ?_⟩
    rw [gl_sl, if_neg (fun e => h (Or.inr e.1)), gl_sl, if_neg (fun e => h (Or.inl e.1))]
  · exact fs_rf _
theorem fs_fsr (q : Int32 × Mm) : ∀ w, FS q.2 (fsr q w).2
  | 0 => fs_rf _
  | w + 1 => fs_tr (fs_fsr q w) (fs_fs1 _ w)
theorem fs_fsR (q : Int32 × Mm) (W : Nat) : ∀ r, FS q.2 (fsR q W r).2
  | 0 => fs_rf _
  | r + 1 => fs_tr (fs_fsR q W r) (fs_fsr _ W)
theorem fs_zl (M : Mm) (i : Nat) : FS M (zl M i) := ⟨rfl, rfl, rfl, fun a j h => by rw [gl_zl, if_neg (fun e => h e.1)]⟩
/-- a word that follows another has one to follow -/
def KF (M : Mm) (W : Nat) : Prop := ∀ w, w < W → ¬ wd M w 0 = 0 → ¬ wd M w 0 = 4 → ¬ wd M w 0 = 5 → ∃ f, f < 25 ∧ f ≠ w ∧ wd M w 6 = nI f
def fsM (M : Mm) (W : Nat) : Mm := (fsR (0, zl M W) W W).2
theorem fs_fsM (M : Mm) (W : Nat) : FS M (fsM M W) := fs_tr (fs_zl M W) (fs_fsR _ W W)
theorem sM_findSaid {M : Mm} {W : Nat} {K : Mm → Prop} (hm : MR M) (hW : gi M 6027 0 = nI W) (hW2 : W ≤ 24) (hk : KF M W) (h : K (fsM M W)) : CV mM_findSaid [.ref 6027] M K := by
  have le : ∀ {x : Int32} {i}, x = nI W → i < W → ¬ x ≤ nI i := fun e hi => by rw [e]; exact nge rfl (by omega) hi
  have se : ∀ {x : Int32}, x = nI W → x ≤ nI W := fun e => by rw [e]; exact Int32.le_refl _
  have k2 : X mM_findSaid 34 [(0, .ref 6027), (1, .int 0), (2, .int 0)] [] (zl M W) (mC mM_findSaid, mS mM_findSaid) (QV K) := by
    have key := lp W (P := fun r => X mM_findSaid 34 [(0, .ref 6027), (1, .int (fsR (0, zl M W) W r).1), (2, .int (nI r))] [] (fsR (0, zl M W) W r).2 (mC mM_findSaid, mS mM_findSaid) (QV K)) (fun r hr ih => ?_) ?_
    · exact key
    · have f0 := fs_tr (fs_zl M W) (fs_fsR (0, zl M W) W r)
      rw [fsR] at ih
      generalize fsR (0, zl M W) W r = q0 at ih f0 ⊢
      have e0 : gi q0.2 6027 0 = nI W := by rw [f0.2.1, hW]
      refine vM_findSaid_34 rfl ⟨fun q => absurd q (le e0 hr), fun _ => ?_⟩
      have key2 := lp W (P := fun w => X mM_findSaid 44 [(0, .ref 6027), (1, .int (fsr q0 w).1), (2, .int (nI r)), (3, .int (nI w))] [] (fsr q0 w).2 (mC mM_findSaid, mS mM_findSaid) (QV K)) (fun w hw ih2 => ?_) ?_
      · exact key2
      · have f1 := fs_tr f0 (fs_fsr q0 w)
        rw [fsr] at ih2
        generalize fsr q0 w = q1 at ih2 f1 ⊢
        have e1 : gi q1.2 6027 0 = nI W := by rw [f1.2.1, hW]
        have m1 : MR q1.2 := mr_w hm f1.2.2.1
        have no : ¬ (((q1.1 >>> (nI w &&& 31)) &&& 1) = 0 ∧ ¬ uns q1.2 w ∧ (fow q1.2 w &&& (q1.1 ^^^ (-1))) = 0) → X mM_findSaid 84 [(0, .ref 6027), (1, .int q1.1), (2, .int (nI r)), (3, .int (nI w))] [] q1.2 (mC mM_findSaid, mS mM_findSaid) (QV K) := by
          intro n
          refine vM_findSaid_84 (vM_findSaid_85 rfl ⟨fun _ => ?_, fun q => absurd rfl q⟩)
          have e : fs1 q1 w = q1 := by unfold fs1; rw [if_neg n]
          rw [e] at ih2
          rw [nI_s]; exact ih2
        refine vM_findSaid_44 rfl ⟨fun q => absurd q (le e1 hw), fun q => no (fun n => q.2 n.1), fun q => sM_isUnsound (vM_findSaid_65 rfl ⟨fun u => no (fun n => ?_), fun u => sM_followed m1 (by omega) (vM_findSaid_73 ⟨fun p => no (fun n => p n.2.2), fun p => vM_findSaid_85 rfl ⟨fun z => absurd z (by decide), fun _ => ?_⟩⟩)⟩)⟩
        · rw [if_neg n.2.1] at u; exact u rfl
        · have u' : ¬ uns q1.2 w := fun z => by rw [if_pos z] at u; exact absurd u (by decide)
          have e : fs1 q1 w = (q1.1 ||| ((1 : Int32) <<< (nI w &&& 31)), sl (sl q1.2 6874 w (swv q1.2 w).1) 6938 w (swv q1.2 w).2) := by unfold fs1; rw [if_pos ⟨q.2, u', p⟩]
          rw [e] at ih2
          have ew : ∀ v k, wd q1.2 v k = wd M v k := fun v k => by unfold wd; rw [f1.2.1]
          refine sM_sayWord m1 (by omega) (fun a b c => ?_) (vM_findSaid_97 ?_)
          · rw [ew] at a b c ⊢
            exact hk w hw a b c
          · rw [nI_s]; exact ih2
      · have f1 := fs_tr f0 (fs_fsr q0 W)
        generalize fsr q0 W = q1 at ih f1 ⊢
        have e1 : gi q1.2 6027 0 = nI W := by rw [f1.2.1, hW]
        refine vM_findSaid_44 rfl ⟨fun _ => ?_, fun q => absurd (se e1) q.1, fun q => absurd (se e1) q.1⟩
        rw [nI_s]; exact ih
    · have f0 := fs_tr (fs_zl M W) (fs_fsR (0, zl M W) W W)
      have e0 : gi (fsR (0, zl M W) W W).2 6027 0 = nI W := by rw [f0.2.1, hW]
      exact vM_findSaid_34 rfl ⟨fun _ => h, fun q => absurd (se e0) q⟩
  refine call_of rfl (Nat.le_of_ble_eq_true rfl) rfl (vM_findSaid_0 ?_)
  have key := lp W (P := fun i => X mM_findSaid 4 [(0, .ref 6027), (1, .int 0), (2, .int (nI i))] [] (zl M i) (mC mM_findSaid, mS mM_findSaid) (QV K)) (fun i hi ih => ?_) ?_
  · rw [zl_0] at key; exact key
  · have mz : MR (zl M i) := mr_w hm rfl
    refine vM_findSaid_4 rfl (mr25 mz) (mr26 mz) ⟨fun q => absurd q (le hW hi), fun _ => ⟨vin (show i < 25 by omega) (by decide), vin (show i < 25 by omega) (by decide), ?_⟩⟩
    rw [ncl (by omega), zl_s, nI_s]; exact ih
  · have mz : MR (zl M W) := mr_w hm rfl
    exact vM_findSaid_4 rfl (mr25 mz) (mr26 mz) ⟨fun _ => k2, fun q => absurd (se hW) q⟩
/-- what is kept of what was told -/
def kbM (M : Mm) (W : Nat) : Mm := fsM (ffM (kb2 M) W) W
theorem gr_ffM (M : Mm) (W : Nat) : gr (ffM M W) = gr M := rfl
theorem gl_ffM (M : Mm) (W : Nat) : gl (ffM M W) = gl M := rfl
theorem ffM_ne (M : Mm) (W a : Nat) (h1 : a ≠ 6027) (h2 : a ≠ 6807) : gi (ffM M W) a = gi M a := by
  unfold ffM
  rw [gi_ne h1, gi_ne h1]
  funext k
  rw [rwmR _ _ _ _ _ _ h2]
theorem ffM_f (M : Mm) (W k : Nat) (h1 : k ≠ 23) (h2 : k ≠ 24) : gi (ffM M W) 6027 k = gi M 6027 k := by
  unfold ffM
  rw [g6 _ _ _ _ h2, g6 _ _ _ _ h1, rwmR _ _ _ _ _ _ (by decide)]
theorem kb1_ne (M : Mm) (a k : Nat) (h1 : a ≠ 6101) (h2 : a ≠ 6027) : gi (kb1 M) a k = gi M a k := by
  unfold kb1; rw [rwmR _ _ _ _ _ _ h1, giR _ _ _ _ _ _ h2]
theorem kb2_ne (M : Mm) (a k : Nat) (h1 : a ≠ 6101) (h2 : a ≠ 6027) (h3 : a ≠ 6157) : gi (kb2 M) a k = gi M a k := by
  unfold kb2; rw [giR _ _ _ _ _ _ h2, rwmR _ _ _ _ _ _ h3, kb1_ne _ _ _ h1 h2]
theorem kb2_t (M : Mm) (k : Nat) (h : k < 250) : gi (kb2 M) 6101 k = gi M 6229 k := by
  unfold kb2; rw [giR _ _ _ _ _ _ (by decide), rwmR _ _ _ _ _ _ (by decide), kb1, gi_rwm, if_pos ⟨rfl, h⟩]
theorem kb2_c (M : Mm) (k : Nat) (h : k < 8) : gi (kb2 M) 6157 k = gi M 6285 k := by
  unfold kb2; rw [giR _ _ _ _ _ _ (by decide), gi_rwm, if_pos ⟨rfl, h⟩]
theorem kb2_f (M : Mm) (k : Nat) (h1 : k ≠ 0) (h2 : k ≠ 9) : gi (kb2 M) 6027 k = gi M 6027 k := by
  unfold kb2; rw [g6 _ _ _ _ h2, rwmR _ _ _ _ _ _ (by decide), kb1, rwmR _ _ _ _ _ _ (by decide), g6 _ _ _ _ h1]
theorem kb2_0 (M : Mm) : gi (kb2 M) 6027 0 = gi M 6027 3 := by
  unfold kb2; rw [g6 _ _ _ _ (by decide), rwmR _ _ _ _ _ _ (by decide), kb1, rwmR _ _ _ _ _ _ (by decide), g6s]
theorem kb2_9 (M : Mm) : gi (kb2 M) 6027 9 = 255 := by unfold kb2; rw [g6s]
theorem sM_keepLibrary {M : Mm} {W : Nat} {K : Mm → Prop} (hm : MR M) (hz : gi M 6027 3 = nI W) (hW2 : W ≤ 24) (hk : KF (kb2 M) W) (h : K (kbM M W)) : CV mM_keepLibrary [.ref 6027] M K := by
  refine call_of rfl (Nat.le_of_ble_eq_true rfl) rfl ?_
  refine vM_keepLibrary_0 rfl ?_
  have k2 : X mM_keepLibrary 37 [(0, .ref 6027), (1, .int 0)] [] (kb1 M) (mC mM_keepLibrary, mS mM_keepLibrary) (QV K) := by
    have key := lp 8 (P := fun i => X mM_keepLibrary 37 [(0, .ref 6027), (1, .int (nI i))] [] (rwm (kb1 M) 6157 i (gi M 6285)) (mC mM_keepLibrary, mS mM_keepLibrary) (QV K)) (fun i hi ih => ?_) ?_
    · rw [rwm_0] at key
      exact key
    · have hm := mr_w hm (show gr (rwm (kb1 M) 6157 i (gi M 6285)) = gr M from by rw [gr_rwm, gr_kb1])
      refine vM_keepLibrary_37 rfl (mr2 hm) (mr5 hm) ⟨fun _ => vin hi (by decide), fun q => absurd q (nge rfl (by decide) hi), fun _ => ⟨vin hi (by decide), ?_⟩⟩
      rw [ncl (by omega), nI_s, rwmR _ _ _ _ _ _ (by decide)]
      rw [show gi (kb1 M) 6285 i = gi M 6285 i from rwmR _ _ _ _ _ _ (by decide), rwm_s]
      exact ih
    · have hm1 := mr_w hm (show gr (rwm (kb1 M) 6157 8 (gi M 6285)) = gr M from by rw [gr_rwm, gr_kb1])
      refine vM_keepLibrary_37 rfl (mr2 hm1) (mr5 hm1) ⟨fun q => absurd (nself rfl) q, fun _ => ?_, fun q => absurd (nself rfl) q⟩
      have e : gi (kb2 M) 6027 0 = nI W := (kb2_0 M).trans hz
      have m2 := mr_w hm (gr_kb2 M)
      refine sM_findFollowing (M := kb2 M) m2 e hW2 ?_
      refine vM_keepLibrary_72 rfl ?_
      have ew : ∀ v k, wd (ffM (kb2 M) W) v k = wd (kb2 M) v k := fun v k => by unfold wd; rw [ffM_ne _ _ _ (by decide) (by decide)]
      refine sM_findSaid (M := ffM (kb2 M) W) (mr_w m2 (gr_ffM _ _)) ((ffM_f _ _ _ (by decide) (by decide)).trans e) hW2 (fun w hw a b c => ?_) ?_
      · rw [ew] at a b c ⊢
        exact hk w hw a b c
      · exact vM_keepLibrary_76 h
  have key := lp 250 (P := fun i => X mM_keepLibrary 10 [(0, .ref 6027), (1, .int (nI i))] [] (rwm (si M 6027 0 (gi M 6027 3)) 6101 i (gi M 6229)) (mC mM_keepLibrary, mS mM_keepLibrary) (QV K)) (fun i hi ih => ?_) ?_
  · rw [rwm_0] at key
    exact key
  · refine vM_keepLibrary_10 rfl (mr1 hm) (mr4 hm) ⟨fun _ => vin hi (by decide), fun q => absurd q (nge rfl (by decide) hi), fun _ => ⟨vin hi (by decide), ?_⟩⟩
    rw [ncl (by omega), nI_s, rwmR _ _ _ _ _ _ (by decide), giR _ _ _ _ _ _ (by decide), rwm_s]
    exact ih
  · exact vM_keepLibrary_10 rfl (mr1 hm) (mr4 hm) ⟨fun q => absurd (nself rfl) q, fun _ => k2, fun q => absurd (nself rfl) q⟩
/-- the words that are kept may be asked -/
theorem kb_jw {M : Mm} {W : Nat} (hm : MR M) (lb : LB M W) (nb : ∀ w, w < W → ¬ bad M W w) : KF (kb2 M) W ∧ JW (kbM M W) W ∧ UM (kbM M W) W := by
  obtain ⟨h3, hW, -, hr⟩ := lb
  have e2 : ∀ w k, w < W → k < 10 → wd (kb2 M) w k = gi M 6229 (10 * w + k) := fun w k hw hk => kb2_t M _ (by omega)
  have fol : ∀ w, w < W → (wd (kb2 M) w 6 = -4 ∧ (wd (kb2 M) w 0 = 0 ∨ wd (kb2 M) w 0 = 4 ∨ wd (kb2 M) w 0 = 5)) ∨ ∃ f, f < W ∧ f ≠ w ∧ wd (kb2 M) w 6 = nI f ∧ ¬ wd (kb2 M) w 0 = 4 := by
    intro w hw
    obtain ⟨-, k, hk, ek, h⟩ := hr w hw
    have ek' : wd (kb2 M) w 0 = nI k := (e2 w 0 hw (by decide)).trans ek
    rcases h with ⟨n, e⟩ | ⟨n, f, hf, e⟩
    · left
      refine ⟨(e2 w 6 hw (by decide)).trans e, ?_⟩
      rw [ek']
      match k, hk, n with
      | 0, _, _ => exact Or.inl rfl
      | 4, _, _ => exact Or.inr (Or.inl rfl)
      | 5, _, _ => exact Or.inr (Or.inr rfl)
      | 1, _, n => exact absurd (by omega) n
      | 2, _, n => exact absurd (by omega) n
      | 3, _, n => exact absurd (by omega) n
    · right
      have nbw := nb w hw
      have c : f < W ∧ f ≠ w := by
        constructor
        · by_cases l : f < W
          · exact l
          · exfalso
            refine nbw ⟨by rw [e]; exact nI4 (by omega), Or.inl ?_⟩
            rw [e, nle (by omega) (by omega)]; omega
        · intro z
          refine nbw ⟨by rw [e]; exact nI4 (by omega), Or.inr (Or.inl ?_)⟩
          rw [e, z]
      refine ⟨f, c.1, c.2, (e2 w 6 hw (by decide)).trans e, ?_⟩
      rw [ek', show (4 : Int32) = nI 4 from rfl, ninj (by omega) (by decide)]
      omega
  have eg : gi (kbM M W) = gi (ffM (kb2 M) W) := (fs_fsM _ W).2.1
  have ew : ∀ v k, wd (kbM M W) v k = wd (kb2 M) v k := fun v k => by unfold wd; rw [eg, ffM_ne _ _ _ (by decide) (by decide)]
  have e24 : gi (kbM M W) 6027 24 = ug (ffR (kb2 M) W) (rg (ffR (kb2 M) W) W) W := by rw [eg]; unfold ffM; rw [g6s]
  refine ⟨fun w hw a b c => ?_, ⟨mr_w hm ?_, ?_, by omega, fun w hw => ⟨?_, fun u => ?_⟩⟩, ?_⟩
  · rcases fol w hw with ⟨-, z | z | z⟩ | ⟨f, hf, n, e, -⟩
    · exact absurd z a
    · exact absurd z b
    · exact absurd z c
    · exact ⟨f, by omega, n, e⟩
  · exact (fs_fsM _ W).2.2.1.trans ((gr_ffM _ _).trans (gr_kb2 M))
  · rw [eg, ffM_f _ _ _ (by decide) (by decide), kb2_0, h3]
  · obtain ⟨⟨b, hb, e⟩, -⟩ := hr w hw
    exact ⟨b, hb, by rw [ew, e2 w 2 hw (by decide), e]⟩
  · have hs : ¬ bt (ug (ffR (kb2 M) W) (rg (ffR (kb2 M) W) W) W) w = true := by
      intro z
      apply u
      unfold uns
      rw [e24]
      exact (bit1 _ (by omega)).mpr z
    have ch : chn (kbM M W) W 24 w := by
      refine chn_of (R := ffR (kb2 M) W) (fun v hv => ?_) (fun v hv x a y b => wlr_t _ W (by omega) v hv x a y b) 24 w hw (sound_b hW hw hs) (Nat.le_trans (bcn_le _ _) hW)
      rcases fol v hv with ⟨e, -⟩ | ⟨f, hf, n, e, n4⟩
      · exact Or.inl (by rw [ew]; exact e)
      · refine Or.inr ⟨f, hf, by rw [ew]; exact e, ?_⟩
        refine wlr_0 _ W (by omega) v f ?_
        unfold fow
        rw [if_neg n4, e, if_neg (nI4 (by omega)), b_one f (by omega) f (by omega), decide_eq_true rfl]
    have up : ∀ n v, chn (kbM M W) W n v → chn (kbM M W) W (n + 1) v := by
      intro n
      induction n with
      | zero => intro v q; exact Or.inl q
      | succ n ih => intro v q; exact q.imp id (fun ⟨f, a, b, c⟩ => ⟨f, a, b, ih f c⟩)
    exact up 24 w ch
  · unfold UM
    rw [e24]
    exact um_of hW (fun i hi z => ug_lt hW hi z)
