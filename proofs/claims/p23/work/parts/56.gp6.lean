/-! ===== the reference's reader: answers, marks, one of some names ===== -/
section GP6
variable {M : Mm} {T : Nat → Int32} {t : Nat} {s : Rst}
/-- the name that stands there, if there is no fault -/
def nmk (T : Nat → Int32) (t : Nat) (s : Rst) : Int32 := if (nam s).2.2.2.2.1 = 0 then nmv T t s.1 s.2.1 else -4
theorem nam_rs {N : Mm} (rN : RD N T t (nam s)) : RS N T t s.1 s.2.1 := by
  have rs := rs_rd rN
  unfold nam at rs
  rw [wts_1, wts_p] at rs
  exact rs
def ras (T : Nat → Int32) (t : Nat) (s : Rst) : Rst := nxs T t (wts (if nmk T t s = 22 ∨ nmk T t s = 23 then 1 else 0) 3 (nam s))
theorem nM_readAnswer {K : Int32 → Mm → Prop} (rd : RD M T t s) (h : ∀ N, PF M N → RD N T t (ras T t s) → K (if nmk T t s = 22 then 1 else 0) N) : CI mM_readAnswer [.ref 6027] M K := by
  have r16 := rd.2.2.2.2.2.1
  have r14 := rd.2.2.2.1
  have b25 : ∀ N, PF M N → RD N T t (nam s) → X mM_readAnswer 25 [(0, .ref 6027)] [] N (mC mM_readAnswer, mS mM_readAnswer) (QI K) := by
    intro N pf rN
    have n16 := rN.2.2.2.2.2.1
    have b41 : X mM_readAnswer 41 [(0, .ref 6027)] [.int (nmk T t s)] N (mC mM_readAnswer, mS mM_readAnswer) (QI K) := by
      have b71 : ∀ O, PF M O → RD O T t (wts (if nmk T t s = 22 ∨ nmk T t s = 23 then 1 else 0) 3 (nam s)) → X mM_readAnswer 71 [(0, .ref 6027), (1, .int (nmk T t s))] [] O (mC mM_readAnswer, mS mM_readAnswer) (QI K) := fun O pf2 rO => vM_readAnswer_71 rfl (nM_next rO (fun P pf3 rP => vM_readAnswer_75 (h P (pf_tr pf2 pf3) rP)))
      refine vM_readAnswer_41 rfl ⟨fun q => b71 N pf ?_, fun q => vM_readAnswer_67 rfl (nM_wants rN (by decide) (fun O pf2 rO => b71 O (pf_tr pf pf2) ?_)), fun q => vM_readAnswer_67 rfl (nM_wants rN (by decide) (fun O pf2 rO => b71 O (pf_tr pf pf2) ?_))⟩
      · rw [n16] at q
        rw [wts_f q]; exact rN
      · rw [if_pos (q.imp (fun q => q.2) (fun q => q.2.2))]; exact rO
      · rw [if_neg (fun z => z.elim q.2.1 q.2.2)]; exact rO
    refine vM_readAnswer_25 rfl ⟨fun q => ?_, fun q => ?_⟩
    · rw [n16] at q
      have e : nmk T t s = -4 := by rw [nmk, if_neg q]
      rw [e] at b41; exact b41
    · rw [n16] at q
      have e : nmk T t s = nmv T t s.1 s.2.1 := by rw [nmk, if_pos q]
      rw [e] at b41
      exact sM_nameNow (nam_rs rN) (vM_readAnswer_36 b41)
  refine call_of rfl (Nat.le_of_ble_eq_true rfl) rfl (vM_readAnswer_0 rfl ⟨fun q => b25 M (pf_rf M) ?_, fun q => vM_readAnswer_21 rfl (nM_wants rd (by decide) (fun N pf rN => b25 N pf ?_)), fun q => vM_readAnswer_21 rfl (nM_wants rd (by decide) (fun N pf rN => b25 N pf ?_))⟩)
  · rw [r16] at q
    rw [nam, wts_f q]; exact rd
  · rw [r14] at q
    rw [nam, if_neg q.2]; exact rN
  · rw [r14] at q
    rw [nam, if_pos q.2]; exact rN
def oos (T : Nat → Int32) (t : Nat) (a b c : Int32) (s : Rst) : Rst := nxs T t (wts (if nmk T t s = a ∨ nmk T t s = b ∨ nmk T t s = c then 1 else 0) 2 (nam s))
theorem nM_oneOf {a o1 b o2 c o3 : Int32} {K : Int32 → Mm → Prop} (rd : RD M T t s) (h : ∀ N, PF M N → RD N T t (oos T t a b c s) → K (if nmk T t s = a then o1 else if nmk T t s = b then o2 else o3) N) : CI mM_oneOf [.ref 6027, .int a, .int o1, .int b, .int o2, .int c, .int o3] M K := by
  have r16 := rd.2.2.2.2.2.1
  have r14 := rd.2.2.2.1
  have b25 : ∀ N, PF M N → RD N T t (nam s) → X mM_oneOf 25 [(0, .ref 6027), (1, .int a), (2, .int o1), (3, .int b), (4, .int o2), (5, .int c), (6, .int o3)] [] N (mC mM_oneOf, mS mM_oneOf) (QI K) := by
    intro N pf rN
    have n16 := rN.2.2.2.2.2.1
    have b41 : X mM_oneOf 41 [(0, .ref 6027), (1, .int a), (2, .int o1), (3, .int b), (4, .int o2), (5, .int c), (6, .int o3)] [.int (nmk T t s)] N (mC mM_oneOf, mS mM_oneOf) (QI K) := by
      have b79 : ∀ O, PF M O → RD O T t (wts (if nmk T t s = a ∨ nmk T t s = b ∨ nmk T t s = c then 1 else 0) 2 (nam s)) → X mM_oneOf 79 [(0, .ref 6027), (1, .int a), (2, .int o1), (3, .int b), (4, .int o2), (6, .int o3), (7, .int (nmk T t s))] [] O (mC mM_oneOf, mS mM_oneOf) (QI K) := fun O pf2 rO => vM_oneOf_79 rfl (nM_next rO (fun P pf3 rP => vM_oneOf_83 (h P (pf_tr pf2 pf3) rP)))
      refine vM_oneOf_41 rfl ⟨fun q => b79 N pf ?_, fun q => vM_oneOf_75 rfl (nM_wants rN (by decide) (fun O pf2 rO => b79 O (pf_tr pf pf2) ?_)), fun q => vM_oneOf_75 rfl (nM_wants rN (by decide) (fun O pf2 rO => b79 O (pf_tr pf pf2) ?_))⟩
      · rw [n16] at q
        rw [wts_f q]; exact rN
      · have y : nmk T t s = a ∨ nmk T t s = b ∨ nmk T t s = c := by
          rcases q with q | q | q
          · exact Or.inl q.2
          · exact Or.inr (Or.inl q.2.2)
          · exact Or.inr (Or.inr q.2.2.2)
        rw [if_pos y]; exact rO
      · rw [if_neg (fun z => z.elim q.2.1 (fun z => z.elim q.2.2.1 q.2.2.2))]; exact rO
    refine vM_oneOf_25 rfl ⟨fun q => ?_, fun q => ?_⟩
    · rw [n16] at q
      have e : nmk T t s = -4 := by rw [nmk, if_neg q]
      rw [e] at b41; exact b41
    · rw [n16] at q
      have e : nmk T t s = nmv T t s.1 s.2.1 := by rw [nmk, if_pos q]
      rw [e] at b41
      exact sM_nameNow (nam_rs rN) (vM_oneOf_36 b41)
  refine call_of rfl (Nat.le_of_ble_eq_true rfl) rfl (vM_oneOf_0 rfl ⟨fun q => b25 M (pf_rf M) ?_, fun q => vM_oneOf_21 rfl (nM_wants rd (by decide) (fun N pf rN => b25 N pf ?_)), fun q => vM_oneOf_21 rfl (nM_wants rd (by decide) (fun N pf rN => b25 N pf ?_))⟩)
  · rw [r16] at q
    rw [nam, wts_f q]; exact rd
  · rw [r14] at q
    rw [nam, if_neg q.2]; exact rN
  · rw [r14] at q
    rw [nam, if_pos q.2]; exact rN
/-- marks -/
def mk1 (s : Rst) : Rst := wts (if s.2.2.1 = 1 ∨ s.2.2.1 = 3 then 1 else 0) 2 s
def mkv (T : Nat → Int32) (t : Nat) (s : Rst) : Int32 := if s.2.2.1 = 1 then ltr T t 112 6 (s.2.1 - s.1) s.1 0 else 0
def mks (T : Nat → Int32) (t : Nat) (no : Int32) (s : Rst) : Rst := nxs T t (wts (if (mkv T t s &&& no) = 0 then 1 else 0) 4 (wts (if mkv T t s = -4 then 0 else 1) 3 (mk1 s)))
theorem nM_readMarks {no : Int32} {K : Int32 → Mm → Prop} (rd : RD M T t s) (h : ∀ N, PF M N → RD N T t (mks T t no s) → K (mkv T t s) N) : CI mM_readMarks [.ref 6027, .int no] M K := by
  have r16 := rd.2.2.2.2.2.1
  have r14 := rd.2.2.2.1
  have b33 : ∀ N, PF M N → RD N T t (mk1 s) → X mM_readMarks 33 [(0, .ref 6027), (1, .int no)] [] N (mC mM_readMarks, mS mM_readMarks) (QI K) := by
    intro N pf rN
    have n16 := rN.2.2.2.2.2.1
    have n14 : gi N 6027 14 = s.2.2.1 := by
      have := rN.2.2.2.1
      unfold mk1 at this
      rwa [wts_o] at this
    have b53 : X mM_readMarks 53 [(0, .ref 6027), (1, .int no)] [.int (mkv T t s)] N (mC mM_readMarks, mS mM_readMarks) (QI K) := by
      have b77 : ∀ O, PF M O → RD O T t (wts (if mkv T t s = -4 then 0 else 1) 3 (mk1 s)) → X mM_readMarks 77 [(0, .ref 6027), (1, .int no), (2, .int (mkv T t s))] [] O (mC mM_readMarks, mS mM_readMarks) (QI K) := by
        intro O pfO rO
        have o16 := rO.2.2.2.2.2.1
        have b100 : ∀ P, PF M P → RD P T t (wts (if (mkv T t s &&& no) = 0 then 1 else 0) 4 (wts (if mkv T t s = -4 then 0 else 1) 3 (mk1 s))) → X mM_readMarks 100 [(0, .ref 6027), (2, .int (mkv T t s))] [] P (mC mM_readMarks, mS mM_readMarks) (QI K) := fun P pf2 rP => vM_readMarks_100 rfl (nM_next rP (fun R pf3 rR => vM_readMarks_104 (h R (pf_tr pf2 pf3) rR)))
        refine vM_readMarks_77 rfl ⟨fun q => b100 O pfO ?_, fun q => vM_readMarks_96 rfl (nM_wants rO (by decide) (fun P pf2 rP => b100 P (pf_tr pfO pf2) ?_)), fun q => vM_readMarks_96 rfl (nM_wants rO (by decide) (fun P pf2 rP => b100 P (pf_tr pfO pf2) ?_))⟩
        · rw [o16] at q
          rw [wts_f (g := if (mkv T t s &&& no) = 0 then 1 else 0) q]; exact rO
        · rw [if_neg q.2]; exact rP
        · rw [if_pos q.2]; exact rP
      refine vM_readMarks_53 rfl ⟨fun q => b77 N pf ?_, fun q => vM_readMarks_73 rfl (nM_wants rN (by decide) (fun O pf2 rO => b77 O (pf_tr pf pf2) ?_)), fun q => vM_readMarks_73 rfl (nM_wants rN (by decide) (fun O pf2 rO => b77 O (pf_tr pf pf2) ?_))⟩
      · rw [n16] at q
        rw [wts_f q]; exact rN
      · rw [if_pos q.2]; exact rO
      · rw [if_neg q.2]; exact rO
    refine vM_readMarks_33 rfl ⟨fun q => ?_, fun q => ?_⟩
    · rw [n14] at q
      have e : mkv T t s = 0 := by rw [mkv, if_neg q]
      rw [e] at b53; exact b53
    · rw [n14] at q
      have e : mkv T t s = ltr T t 112 6 (s.2.1 - s.1) s.1 0 := by rw [mkv, if_pos q]
      have rs := rs_rd rN
      unfold mk1 at rs
      rw [wts_1, wts_p] at rs
      rw [e] at b53
      exact sM_letters rs (vM_readMarks_49 b53)
  refine call_of rfl (Nat.le_of_ble_eq_true rfl) rfl (vM_readMarks_0 rfl ⟨fun q => b33 M (pf_rf M) ?_, fun q => vM_readMarks_29 rfl (nM_wants rd (by decide) (fun N pf rN => b33 N pf ?_)), fun q => vM_readMarks_29 rfl (nM_wants rd (by decide) (fun N pf rN => b33 N pf ?_))⟩)
  · rw [r16] at q
    rw [mk1, wts_f q]; exact rd
  · rw [r14] at q
    rw [mk1, if_pos (q.imp (fun q => q.2) (fun q => q.2.2))]; exact rN
  · rw [r14] at q
    rw [mk1, if_neg (fun z => z.elim q.2.1 q.2.2)]; exact rN
end GP6
