/-! ===== the reference at any state: doctors, laws, what holds ===== -/
/-- what the queries stand on is the same, for W words -/
def SM (W : Nat) (M N : Mm) : Prop := gr N = gr M ∧ (∀ k, k < 10 * W → gi N 6101 k = gi M 6101 k) ∧ gi N 6543 = gi M 6543 ∧ gi N 6157 = gi M 6157 ∧ gi N 6027 0 = gi M 6027 0 ∧ gi N 6027 9 = gi M 6027 9 ∧ gi N 6027 24 = gi M 6027 24 ∧ (∀ k, k < W → gl N 6874 k = gl M 6874 k) ∧ ∀ k, k < W → gl N 6938 k = gl M 6938 k
section SMS
variable {M N : Mm} {W : Nat}
theorem wd_sm (s : SM W M N) {w k : Nat} (hw : w < W) (hk : k < 10) : wd N w k = wd M w k := s.2.1 _ (by omega)
theorem uns_sm (s : SM W M N) (w : Nat) : uns N w ↔ uns M w := by unfold uns; rw [s.2.2.2.2.2.2.1]
theorem cw_sm (s : SM W M N) {w : Nat} (hw : w < W) : cw N w = cw M w := by
  unfold cw
  rw [wd_sm s hw (k := 0) (by decide), wd_sm s hw (k := 1) (by decide), wd_sm s hw (k := 2) (by decide), s.2.2.1, s.2.2.2.1, s.2.2.2.2.2.1]
theorem en_sm (s : SM W M N) (hW : W ≤ 25) : ∀ n v, v < W → chn M W n v → en N n v = en M n v ∧ en M n v < W
  | 0, _, hv, _ => ⟨rfl, hv⟩
  | n + 1, v, hv, q => by
    rw [en, en, wd_sm s hv (by decide)]
    rcases q with q | ⟨f, hf, e, q⟩
    · rw [if_pos q, if_pos q]; exact ⟨rfl, hv⟩
    · have n4 : ¬ wd M v 6 = -4 := by rw [e]; exact nI4 (by omega)
      rw [if_neg n4, if_neg n4, e, ncl (by omega)]
      exact en_sm s hW n f hf q
theorem wt_sm (s : SM W M N) (hW : W ≤ 25) {w : Nat} (hw : w < W) (hc : ¬ uns M w → chn M W 25 w) : wt N w = wt M w := by
  unfold wt
  by_cases u : uns M w
  · rw [if_pos u, if_pos ((uns_sm s w).mpr u)]
  · rw [if_neg u, if_neg (fun q => u ((uns_sm s w).mp q))]
    obtain ⟨e1, e2⟩ := en_sm s hW 25 w hw (hc u)
    rw [e1, wd_sm s e2 (by decide), wd_sm s e2 (by decide)]
theorem chn_sm (s : SM W M N) : ∀ n v, v < W → chn M W n v → chn N W n v
  | 0, v, hv, q => by rw [chn, wd_sm s hv (by decide)]; exact q
  | n + 1, v, hv, q => by
    rw [chn, wd_sm s hv (by decide)]
    exact q.imp id (fun ⟨f, hf, e, q⟩ => ⟨f, hf, e, chn_sm s n f hf q⟩)
end SMS
/-- the words are such as may be asked -/
def JW (M : Mm) (W : Nat) : Prop := MR M ∧ gi M 6027 0 = nI W ∧ W ≤ 25 ∧ ∀ w, w < W → (∃ b, b < 8 ∧ wd M w 2 = nI b) ∧ (¬ uns M w → chn M W 25 w)
theorem jw_sm {M N : Mm} {W : Nat} (s : SM W M N) (j : JW M W) : JW N W := by
  refine ⟨mr_w j.1 s.1, s.2.2.2.2.1.trans j.2.1, j.2.2.1, fun w hw => ?_⟩
  obtain ⟨⟨b, hb, e⟩, c⟩ := j.2.2.2 w hw
  exact ⟨⟨b, hb, (wd_sm s hw (by decide)).trans e⟩, fun u => chn_sm s _ _ hw (c (fun q => u ((uns_sm s w).mpr q)))⟩
def twv (M : Mm) (d c : Int32) (i : Nat) : Int32 := if wd M i 1 = d ∧ ¬ cw M i = 0 then td (gl M 6874 i) (gl M 6938 i) c else -4
def twt (M : Mm) (i : Nat) : Int32 := if gi M 6543 3 = 1 then nI i else wt M i
def tw (M : Mm) (d c : Int32) : Nat → Int32 × Int32 × Int32
  | 0 => (-4, -1, 0)
  | i + 1 => if twv M d c i = -4 ∨ twt M i < (tw M d c i).2.1 then tw M d c i else (twv M d c i, twt M i, if twt M i = (tw M d c i).2.1 ∧ (¬ (tw M d c i).2.2 = 0 ∨ ¬ twv M d c i = (tw M d c i).1) then 1 else 0)
def o2 (M : Mm) (W : Nat) (d c : Int32) : Int32 := if gi M 6543 3 ≤ 0 then -4 else if (tw M d c W).2.2 = 0 then (tw M d c W).1 else -4
section SMS
variable {M N : Mm} {W : Nat}
theorem twv_sm (s : SM W M N) (d c : Int32) {i : Nat} (hi : i < W) : twv N d c i = twv M d c i := by
  unfold twv; rw [wd_sm s hi (by decide), cw_sm s hi, s.2.2.2.2.2.2.2.1 i hi, s.2.2.2.2.2.2.2.2 i hi]
theorem twt_sm (s : SM W M N) (j : JW M W) {i : Nat} (hi : i < W) : twt N i = twt M i := by unfold twt; rw [wt_sm s j.2.2.1 hi (j.2.2.2 i hi).2, s.2.2.1]
theorem tw_sm (s : SM W M N) (j : JW M W) (d c : Int32) : ∀ i, i ≤ W → tw N d c i = tw M d c i
  | 0, _ => rfl
  | i + 1, hi => by rw [tw, tw, twv_sm s d c hi, twt_sm s j hi, tw_sm s j d c i (by omega)]
theorem o2_sm (s : SM W M N) (j : JW M W) (d c : Int32) : o2 N W d c = o2 M W d c := by unfold o2; rw [tw_sm s j d c W (Nat.le_refl W), s.2.2.1]
end SMS
theorem sM_ofTwo {M : Mm} {W : Nat} {d c : Int32} {K : Int32 → Mm → Prop} (j : JW M W) (h : K (o2 M W d c) M) : CI mM_ofTwo [.ref 6027, .int d, .int c] M K := by
  obtain ⟨hm, hW, hW2, hw⟩ := j
  refine call_of rfl (Nat.le_of_ble_eq_true rfl) rfl (vM_ofTwo_0 ?_)
  by_cases r3 : gi M 6543 3 ≤ 0
  · refine vM_ofTwo_12 rfl (mr18 hm) ⟨fun _ => ?_, fun q => absurd r3 q.2⟩
    rw [if_pos rfl]
    rwa [o2, if_pos r3] at h
  · rw [o2, if_neg r3] at h
    have key := lp W (P := fun i => X mM_ofTwo 12 [(0, .ref 6027), (1, .int d), (2, .int c), (3, .int (tw M d c i).1), (4, .int (tw M d c i).2.1), (5, .int (tw M d c i).2.2), (6, .int (nI i))] [] M (mC mM_ofTwo, mS mM_ofTwo) (QI K)) (fun i hi ih => ?_) ?_
    · exact key
    · obtain ⟨⟨b, hb, eb⟩, hc⟩ := hw i hi
      have hi2 : i < 25 := by omega
      have nW : ¬ gi M 6027 0 ≤ nI i := by rw [hW]; exact nge rfl (by omega) hi
      have g : ∀ v t, v = twv M d c i → t = twt M i → X mM_ofTwo 96 [(0, .ref 6027), (1, .int d), (2, .int c), (3, .int (tw M d c i).1), (4, .int (tw M d c i).2.1), (5, .int (tw M d c i).2.2), (6, .int (nI i)), (7, .int v)] [.int t] M (mC mM_ofTwo, mS mM_ofTwo) (QI K) := by
        rintro v t rfl rfl
        refine vM_ofTwo_96 ⟨fun q => ?_, fun q => vM_ofTwo_135 ?_, fun q => vM_ofTwo_135 ?_⟩
        · have e : tw M d c (i + 1) = tw M d c i := by rw [tw, if_pos (q.imp id (fun q => q.2))]
          rw [e] at ih
          rw [nI_s]; exact ih
        · have n1 : ¬ (twv M d c i = -4 ∨ twt M i < (tw M d c i).2.1) := by
            rcases q with ⟨a, b, -⟩ | ⟨a, b, -⟩ <;> exact fun p => p.elim a b
          have n2 : ¬ (twt M i = (tw M d c i).2.1 ∧ (¬ (tw M d c i).2.2 = 0 ∨ ¬ twv M d c i = (tw M d c i).1)) := by
            rcases q with ⟨-, -, a⟩ | ⟨-, -, -, a, b⟩
            · exact fun p => a p.1
            · exact fun p => p.2.elim (fun n => n a) (fun n => n b)
          have e : tw M d c (i + 1) = (twv M d c i, twt M i, 0) := by rw [tw, if_neg n1, if_neg n2]
          rw [e] at ih
          rw [nI_s]; exact ih
        · have n1 : ¬ (twv M d c i = -4 ∨ twt M i < (tw M d c i).2.1) := by
            rcases q with ⟨a, b, -⟩ | ⟨a, b, -⟩ <;> exact fun p => p.elim a b
          have n2 : twt M i = (tw M d c i).2.1 ∧ (¬ (tw M d c i).2.2 = 0 ∨ ¬ twv M d c i = (tw M d c i).1) := by
            rcases q with ⟨-, -, a, b⟩ | ⟨-, -, a, -, b⟩
            · exact ⟨a, Or.inl b⟩
            · exact ⟨a, Or.inr b⟩
          have e : tw M d c (i + 1) = (twv M d c i, twt M i, 1) := by rw [tw, if_neg n1, if_pos n2]
          rw [e] at ih
          rw [nI_s]; exact ih
      have fin : ∀ v, v = twv M d c i → X mM_ofTwo 73 [(0, .ref 6027), (1, .int d), (2, .int c), (3, .int (tw M d c i).1), (4, .int (tw M d c i).2.1), (5, .int (tw M d c i).2.2), (6, .int (nI i))] [.int v] M (mC mM_ofTwo, mS mM_ofTwo) (QI K) := by
        intro v hv
        refine vM_ofTwo_73 rfl (mr18 hm) ⟨fun p => sM_weightOf hm hi2 hW2 hc (g v _ hv ?_), fun p => g v _ hv ?_⟩
        · rw [twt, if_neg p]
        · rw [twt, if_pos p]
      refine vM_ofTwo_12 rfl (mr18 hm) ⟨fun q => ?_, fun q => sM_of (k := 1) hm hi2 rfl (by decide) (vM_ofTwo_37 rfl ⟨fun p => vM_ofTwo_71 (fin _ ?_), fun p => sM_counts hm hi2 eb hb (vM_ofTwo_47 rfl (mr25 hm) (mr26 hm) ⟨fun _ => vin hi2 (by decide), fun _ => vin hi2 (by decide), fun p2 => vM_ofTwo_71 (fin _ ?_), fun p2 => sM_told (vM_ofTwo_68 (fin _ ?_))⟩)⟩)⟩
      · rcases q with q | q
        · exact absurd q nW
        · exact absurd q.2 r3
      · rw [twv, if_neg (fun n => p n.1)]
      · rw [twv, if_neg (fun n => n.2 p2)]
      · rw [twv, if_pos ⟨p, p2⟩, ncl (by omega)]
    · refine vM_ofTwo_12 rfl (mr18 hm) ⟨fun _ => h, fun q => absurd ?_ q.1⟩
      rw [hW]; exact nself rfl
def lav (M : Mm) (c : Int32) (i : Nat) : Int32 := if wd M i 0 = 5 then td (gl M 6874 i) (gl M 6938 i) c else -4
abbrev lab (M : Mm) (i : Nat) (s : Int32 × Int32 × Int32) : Prop := s.1 = -4 ∨ (gi M 6543 6 = 1 ∧ ¬ wd M i 7 ≤ s.2.1) ∨ (¬ gi M 6543 6 = 1 ∧ ¬ s.2.1 ≤ wd M i 7)
def laS (M : Mm) (c : Int32) : Nat → Int32 × Int32 × Int32
  | 0 => (-4, 0, 0)
  | i + 1 => if lav M c i = -4 ∨ (¬ lab M i (laS M c i) ∧ ¬ wd M i 7 = (laS M c i).2.1) then laS M c i else (lav M c i, wd M i 7, if lab M i (laS M c i) ∨ ((laS M c i).2.2 = 0 ∧ lav M c i = (laS M c i).1) then 0 else 1)
def laV (M : Mm) (W : Nat) (c : Int32) : Int32 := if gi M 6543 6 ≤ 0 then -4 else if (laS M c W).2.2 = 0 then (laS M c W).1 else -4
section SMS
variable {M N : Mm} {W : Nat}
theorem lav_sm (s : SM W M N) (c : Int32) {i : Nat} (hi : i < W) : lav N c i = lav M c i := by
  unfold lav; rw [wd_sm s hi (by decide), s.2.2.2.2.2.2.2.1 i hi, s.2.2.2.2.2.2.2.2 i hi]
theorem laS_sm (s : SM W M N) (c : Int32) : ∀ i, i ≤ W → laS N c i = laS M c i
  | 0, _ => rfl
  | i + 1, hi => by
    simp only [laS, lav_sm s c (show i < W from hi), laS_sm s c i (by omega), lab, wd_sm s (show i < W from hi) (show 7 < 10 by decide), s.2.2.1]
theorem laV_sm (s : SM W M N) (c : Int32) : laV N W c = laV M W c := by unfold laV; rw [laS_sm s c W (Nat.le_refl W), s.2.2.1]
end SMS
theorem sM_lawOf {M : Mm} {W : Nat} {c : Int32} {K : Int32 → Mm → Prop} (j : JW M W) (h : K (laV M W c) M) : CI mM_lawOf [.ref 6027, .int c] M K := by
  obtain ⟨hm, hW, hW2, hw⟩ := j
  refine call_of rfl (Nat.le_of_ble_eq_true rfl) rfl (vM_lawOf_0 ?_)
  by_cases r6 : gi M 6543 6 ≤ 0
  · refine vM_lawOf_11 rfl (mr18 hm) ⟨fun _ => ?_, fun q => absurd r6 q.2⟩
    rw [if_pos rfl]
    rwa [laV, if_pos r6] at h
  · rw [laV, if_neg r6] at h
    have key := lp W (P := fun i => X mM_lawOf 11 [(0, .ref 6027), (1, .int c), (2, .int (laS M c i).1), (3, .int (laS M c i).2.1), (4, .int (laS M c i).2.2), (5, .int (nI i))] [] M (mC mM_lawOf, mS mM_lawOf) (QI K)) (fun i hi ih => ?_) ?_
    · exact key
    · have hi2 : i < 25 := by omega
      have nW : ¬ gi M 6027 0 ≤ nI i := by rw [hW]; exact nge rfl (by omega) hi
      have b115 : ∀ v x, v = lav M c i → (x = 0 ∨ x = 1) → (x = 1 ↔ lab M i (laS M c i)) → X mM_lawOf 115 [(0, .ref 6027), (1, .int c), (2, .int (laS M c i).1), (3, .int (laS M c i).2.1), (4, .int (laS M c i).2.2), (5, .int (nI i)), (6, .int v)] [.int x] M (mC mM_lawOf, mS mM_lawOf) (QI K) := by
        rintro v x rfl hx hb
        have b141 : ¬ lav M c i = -4 → (lab M i (laS M c i) ∨ wd M i 7 = (laS M c i).2.1) → X mM_lawOf 141 [(0, .ref 6027), (1, .int c), (2, .int (laS M c i).1), (4, .int (laS M c i).2.2), (5, .int (nI i)), (6, .int (lav M c i)), (7, .int x)] [] M (mC mM_lawOf, mS mM_lawOf) (QI K) := by
          intro n1 n2
          have n3 : ¬ (lav M c i = -4 ∨ (¬ lab M i (laS M c i) ∧ ¬ wd M i 7 = (laS M c i).2.1)) := fun p => p.elim n1 (fun p => n2.elim p.1 p.2)
          refine vM_lawOf_141 ⟨fun q => vM_lawOf_162 rfl (sM_of (k := 7) hm hi2 rfl (by decide) (vM_lawOf_175 ?_)), fun q => vM_lawOf_162 rfl (sM_of (k := 7) hm hi2 rfl (by decide) (vM_lawOf_175 ?_))⟩
          · have n4 : lab M i (laS M c i) ∨ ((laS M c i).2.2 = 0 ∧ lav M c i = (laS M c i).1) := by
              rcases q with q | q
              · exact Or.inl (hb.mp (hx.resolve_left q))
              · exact Or.inr q.2
            have e : laS M c (i + 1) = (lav M c i, wd M i 7, 0) := by rw [laS, if_neg n3, if_pos n4]
            rw [e] at ih
            rw [nI_s]; exact ih
          · have n4 : ¬ (lab M i (laS M c i) ∨ ((laS M c i).2.2 = 0 ∧ lav M c i = (laS M c i).1)) := by
              have x0 : x = 0 := by rcases q with q | q <;> exact q.1
              rintro (n | n)
              · have := hb.mpr n
                rw [x0] at this
                exact absurd this (by decide)
              · rcases q with q | q
                · exact q.2 n.1
                · exact q.2.2 n.2
            have e : laS M c (i + 1) = (lav M c i, wd M i 7, 1) := by rw [laS, if_neg n3, if_neg n4]
            rw [e] at ih
            rw [nI_s]; exact ih
        refine vM_lawOf_115 rfl ⟨fun q => ?_, fun q => b141 q.1 (Or.inl (hb.mp (hx.resolve_left q.2))), fun q => sM_of (k := 7) hm hi2 rfl (by decide) (vM_lawOf_137 ⟨fun p => ?_, fun p => b141 q.1 (Or.inr p)⟩)⟩
        · have e : laS M c (i + 1) = laS M c i := by rw [laS, if_pos (Or.inl q)]
          rw [e] at ih
          rw [nI_s]; exact ih
        · have n : ¬ lab M i (laS M c i) := fun n => by
            have := hb.mpr n
            rw [q.2] at this
            exact absurd this (by decide)
          have e : laS M c (i + 1) = laS M c i := by rw [laS, if_pos (Or.inr ⟨n, p⟩)]
          rw [e] at ih
          rw [nI_s]; exact ih
      have b64 : ∀ v, v = lav M c i → X mM_lawOf 64 [(0, .ref 6027), (1, .int c), (2, .int (laS M c i).1), (3, .int (laS M c i).2.1), (4, .int (laS M c i).2.2), (5, .int (nI i))] [.int v] M (mC mM_lawOf, mS mM_lawOf) (QI K) := by
        intro v hv
        refine vM_lawOf_64 rfl (mr18 hm) ⟨fun q => vM_lawOf_110 (b115 v 1 hv (Or.inr rfl) ⟨fun _ => Or.inl q, fun _ => rfl⟩), fun q => sM_of (k := 7) hm hi2 rfl (by decide) (vM_lawOf_106 ⟨fun p => vM_lawOf_114 (b115 v 0 hv (Or.inl rfl) ⟨fun n => absurd n (by decide), fun n => ?_⟩), fun p => vM_lawOf_110 (b115 v 1 hv (Or.inr rfl) ⟨fun _ => Or.inr (Or.inr ⟨q.2, p⟩), fun _ => rfl⟩)⟩), fun q => sM_of (k := 7) hm hi2 rfl (by decide) (vM_lawOf_91 ⟨fun p => vM_lawOf_114 (b115 v 0 hv (Or.inl rfl) ⟨fun n => absurd n (by decide), fun n => ?_⟩), fun p => vM_lawOf_110 (b115 v 1 hv (Or.inr rfl) ⟨fun _ => Or.inr (Or.inl ⟨q.2, p⟩), fun _ => rfl⟩)⟩)⟩
        · rcases n with n | n | n
          · exact absurd n q.1
          · exact absurd n.1 q.2
          · exact absurd p n.2
        · rcases n with n | n | n
          · exact absurd n q.1
          · exact absurd p n.2
          · exact absurd q.2 n.1
      refine vM_lawOf_11 rfl (mr18 hm) ⟨fun q => ?_, fun q => sM_of (k := 0) hm hi2 rfl (by decide) (vM_lawOf_37 rfl (mr25 hm) (mr26 hm) ⟨fun _ => vin hi2 (by decide), fun _ => vin hi2 (by decide), fun p => b64 _ ?_, fun p => sM_told (vM_lawOf_59 (b64 _ ?_))⟩)⟩
      · rcases q with q | q
        · exact absurd q nW
        · exact absurd q.2 r6
      · rw [lav, if_neg p]
      · rw [lav, if_pos p, ncl (by omega)]
    · refine vM_lawOf_11 rfl (mr18 hm) ⟨fun _ => h, fun q => absurd ?_ q.1⟩
      rw [hW]; exact nself rfl
