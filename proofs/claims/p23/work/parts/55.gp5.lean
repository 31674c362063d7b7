/-! ===== the reference's reader: what a line is made of ===== -/
theorem wts_1 (g c : Int32) (s : Rst) : (wts g c s).1 = s.1 := by unfold wts; split <;> rfl
theorem wts_p (g c : Int32) (s : Rst) : (wts g c s).2.1 = s.2.1 := by unfold wts; split <;> rfl
section GP5
variable {M : Mm} {T : Nat → Int32} {t : Nat} {s : Rst}
theorem rs_rd (rd : RD M T t s) : RS M T t s.1 s.2.1 := ⟨rd.1, rd.2.1, rd.2.2.1, rd.2.2.2.2.2.2.2.1, Nat.le_trans rd.2.2.2.2.2.2.2.2.1 rd.1.2.2.1⟩
def eln (T : Nat → Int32) (t : Nat) (s : Rst) : Rst := nxs T t (wts (if s.2.2.1 = 4 then 1 else 0) 2 s)
theorem nM_endLine {K : Mm → Prop} (rd : RD M T t s) (h : ∀ N, PF M N → RD N T t (eln T t s) → K N) : CV mM_endLine [.ref 6027] M K := by
  have r16 := rd.2.2.2.2.2.1
  have r14 := rd.2.2.2.1
  have b25 : ∀ N, PF M N → RD N T t (wts (if s.2.2.1 = 4 then 1 else 0) 2 s) → X mM_endLine 25 [(0, .ref 6027)] [] N (mC mM_endLine, mS mM_endLine) (QV K) := fun N pf rN => vM_endLine_25 rfl (nM_next rN (fun O pf2 rO => vM_endLine_29 (h O (pf_tr pf pf2) rO)))
  refine call_of rfl (Nat.le_of_ble_eq_true rfl) rfl (vM_endLine_0 rfl ⟨fun q => b25 M (pf_rf M) ?_, fun q => vM_endLine_21 rfl (nM_wants rd (by decide) (fun N pf rN => b25 N pf ?_)), fun q => vM_endLine_21 rfl (nM_wants rd (by decide) (fun N pf rN => b25 N pf ?_))⟩)
  · rw [r16] at q
    rw [wts_f q]; exact rd
  · rw [r14] at q
    rw [if_neg q.2]; exact rN
  · rw [r14] at q
    rw [if_pos q.2]; exact rN
/-- letters as bits -/
def ltr (T : Nat → Int32) (t : Nat) (fi ma : Int32) : Nat → Nat → Int32 → Int32
  | 0, _, b => b
  | n + 1, i, b => if (lk T t i - fi < 0 ∨ ma - 1 < lk T t i - fi) ∨ ((b >>> ((lk T t i - fi) &&& 31)) &&& 1) = 1 then -4 else ltr T t fi ma n (i + 1) (b ||| ((1 : Int32) <<< ((lk T t i - fi) &&& 31)))
theorem sM_letters {f p : Nat} {fi ma : Int32} {K : Int32 → Mm → Prop} (rs : RS M T t f p) (h : K (ltr T t fi ma (p - f) f 0) M) : CI mM_letters [.ref 6027, .int fi, .int ma] M K := by
  obtain ⟨tp, r13, r12, r1, r2⟩ := rs
  refine call_of rfl (Nat.le_of_ble_eq_true rfl) rfl (vM_letters_0 rfl ?_)
  rw [r13]
  have key : ∀ n i b, i + n = p → K (ltr T t fi ma n i b) M → X mM_letters 8 [(0, .ref 6027), (1, .int fi), (2, .int ma), (3, .int b), (4, .int (nI i))] [] M (mC mM_letters, mS mM_letters) (QI K) := by
    intro n
    induction n with
    | zero =>
      intro i b hi h2
      rw [Nat.add_zero] at hi
      rw [hi]
      exact vM_letters_8 rfl ⟨fun _ => h2, fun q => absurd (by rw [r12]; exact Int32.le_refl _) q⟩
    | succ n ih =>
      intro i b hi h
      rw [ltr] at h
      refine vM_letters_8 rfl ⟨fun q => ?_, fun _ => sM_look tp (by omega) (vM_letters_23 (sM_in (l := 0) (m := ma - 1) rfl rfl (fun q => vM_letters_38 ⟨fun _ => ?_, fun z => absurd rfl z.1⟩) (fun q1 q2 => vM_letters_38 ⟨fun z => ?_, fun z => ?_⟩)))⟩
      · rw [r12, nle (by omega) (by omega)] at q; omega
      · rwa [if_pos (Or.inl q)] at h
      · rcases z with z | z
        · exact absurd z (by decide)
        · rwa [if_pos (Or.inr z.2)] at h
      · rw [if_neg (fun y => y.elim (fun y => y.elim q1 q2) z.2)] at h
        rw [nI_s]
        exact ih (i + 1) _ (by omega) h
  exact key (p - f) f 0 (by omega) h
/-- the token is a name -/
def nam (s : Rst) : Rst := wts (if s.2.2.1 = 1 then 1 else 0) 2 s
def rmv (T : Nat → Int32) (t : Nat) (s : Rst) : Int32 := if (nam s).2.2.2.2.1 = 0 then ltr T t 97 8 (s.2.1 - s.1) s.1 0 else 0
def rms (T : Nat → Int32) (t : Nat) (s : Rst) : Rst := nxs T t (wts (if rmv T t s = -4 then 0 else 1) 3 (nam s))
theorem nM_readMain {K : Int32 → Mm → Prop} (rd : RD M T t s) (h : ∀ N, PF M N → RD N T t (rms T t s) → K (rmv T t s) N) : CI mM_readMain [.ref 6027] M K := by
  have r16 := rd.2.2.2.2.2.1
  have r14 := rd.2.2.2.1
  have b25 : ∀ N, PF M N → RD N T t (nam s) → X mM_readMain 25 [(0, .ref 6027)] [] N (mC mM_readMain, mS mM_readMain) (QI K) := by
    intro N pf rN
    have n16 := rN.2.2.2.2.2.1
    have b44 : X mM_readMain 44 [(0, .ref 6027)] [.int (rmv T t s)] N (mC mM_readMain, mS mM_readMain) (QI K) := by
      have b68 : ∀ O, PF M O → RD O T t (wts (if rmv T t s = -4 then 0 else 1) 3 (nam s)) → X mM_readMain 68 [(0, .ref 6027), (1, .int (rmv T t s))] [] O (mC mM_readMain, mS mM_readMain) (QI K) := fun O pf2 rO => vM_readMain_68 rfl (nM_next rO (fun P pf3 rP => vM_readMain_72 (h P (pf_tr pf2 pf3) rP)))
      refine vM_readMain_44 rfl ⟨fun q => b68 N pf ?_, fun q => vM_readMain_64 rfl (nM_wants rN (by decide) (fun O pf2 rO => b68 O (pf_tr pf pf2) ?_)), fun q => vM_readMain_64 rfl (nM_wants rN (by decide) (fun O pf2 rO => b68 O (pf_tr pf pf2) ?_))⟩
      · rw [n16] at q
        rw [wts_f q]; exact rN
      · rw [if_pos q.2]; exact rO
      · rw [if_neg q.2]; exact rO
    refine vM_readMain_25 rfl ⟨fun q => ?_, fun q => ?_⟩
    · rw [n16] at q
      have e : rmv T t s = 0 := by rw [rmv, if_neg q]
      rw [e] at b44; exact b44
    · rw [n16] at q
      have e : rmv T t s = ltr T t 97 8 (s.2.1 - s.1) s.1 0 := by rw [rmv, if_pos q]
      have rs := rs_rd rN
      unfold nam at rs
      rw [wts_1, wts_p] at rs
      rw [e] at b44
      exact sM_letters rs (vM_readMain_40 b44)
  refine call_of rfl (Nat.le_of_ble_eq_true rfl) rfl (vM_readMain_0 rfl ⟨fun q => b25 M (pf_rf M) ?_, fun q => vM_readMain_21 rfl (nM_wants rd (by decide) (fun N pf rN => b25 N pf ?_)), fun q => vM_readMain_21 rfl (nM_wants rd (by decide) (fun N pf rN => b25 N pf ?_))⟩)
  · rw [r16] at q
    rw [nam, wts_f q]; exact rd
  · rw [r14] at q
    rw [nam, if_neg q.2]; exact rN
  · rw [r14] at q
    rw [nam, if_pos q.2]; exact rN
def rdv (T : Nat → Int32) (t : Nat) (s : Rst) : Int32 := lk T t s.1 - 97
def rds (T : Nat → Int32) (t : Nat) (s : Rst) : Rst := nxs T t (wts (if nI (s.2.1 - s.1) = 1 ∧ ¬ rdv T t s < 0 ∧ ¬ 7 < rdv T t s then 1 else 0) 3 (nam s))
theorem nM_readDoctor {K : Int32 → Mm → Prop} (rd : RD M T t s) (h : ∀ N, PF M N → RD N T t (rds T t s) → K (rdv T t s) N) : CI mM_readDoctor [.ref 6027] M K := by
  have r16 := rd.2.2.2.2.2.1
  have r14 := rd.2.2.2.1
  have b25 : ∀ N, PF M N → RD N T t (nam s) → X mM_readDoctor 25 [(0, .ref 6027)] [] N (mC mM_readDoctor, mS mM_readDoctor) (QI K) := by
    intro N pf rN
    have n16 := rN.2.2.2.2.2.1
    have rs := rs_rd rN
    unfold nam at rs
    rw [wts_1, wts_p] at rs
    obtain ⟨tpN, n13, n12, m1, m2⟩ := rs
    refine vM_readDoctor_25 rfl ?_
    rw [n13]
    refine sM_look tpN (by omega) ?_
    have b79 : ∀ O, PF M O → RD O T t (wts (if nI (s.2.1 - s.1) = 1 ∧ ¬ rdv T t s < 0 ∧ ¬ 7 < rdv T t s then 1 else 0) 3 (nam s)) → X mM_readDoctor 79 [(0, .ref 6027), (1, .int (lk T t s.1 - 97))] [] O (mC mM_readDoctor, mS mM_readDoctor) (QI K) := fun O pf2 rO => vM_readDoctor_79 rfl (nM_next rO (fun P pf3 rP => vM_readDoctor_83 (h P (pf_tr pf2 pf3) rP)))
    have b75 : ∀ g : Int32, g = (if nI (s.2.1 - s.1) = 1 ∧ ¬ rdv T t s < 0 ∧ ¬ 7 < rdv T t s then 1 else 0) → X mM_readDoctor 75 [(0, .ref 6027), (1, .int (lk T t s.1 - 97))] [.int g, .ref 6027] N (mC mM_readDoctor, mS mM_readDoctor) (QI K) := fun g hg => vM_readDoctor_75 rfl (nM_wants rN (by decide) (fun O pf2 rO => b79 O (pf_tr pf pf2) (by rw [← hg]; exact rO)))
    refine vM_readDoctor_33 rfl ⟨fun q => b79 N pf ?_, fun q => vM_readDoctor_74 (b75 0 ?_), fun q => sM_in (l := 0) (m := 7) rfl rfl (fun y => vM_readDoctor_67 ⟨fun _ => vM_readDoctor_74 (b75 0 ?_), fun z => absurd rfl z⟩) (fun y1 y2 => vM_readDoctor_67 ⟨fun z => absurd z (by decide), fun _ => b75 1 ?_⟩)⟩
    · rw [n16] at q
      rw [wts_f q]; exact rN
    · rw [n12, n13, nsub m1] at q
      rw [if_neg (fun z => q.2 z.1)]
    · rw [if_neg (fun z => y.elim z.2.1 z.2.2)]
    · rw [n12, n13, nsub m1] at q
      rw [if_pos ⟨q.2, y1, y2⟩]
  refine call_of rfl (Nat.le_of_ble_eq_true rfl) rfl (vM_readDoctor_0 rfl ⟨fun q => b25 M (pf_rf M) ?_, fun q => vM_readDoctor_21 rfl (nM_wants rd (by decide) (fun N pf rN => b25 N pf ?_)), fun q => vM_readDoctor_21 rfl (nM_wants rd (by decide) (fun N pf rN => b25 N pf ?_))⟩)
  · rw [r16] at q
    rw [nam, wts_f q]; exact rd
  · rw [r14] at q
    rw [nam, if_neg q.2]; exact rN
  · rw [r14] at q
    rw [nam, if_pos q.2]; exact rN
end GP5
