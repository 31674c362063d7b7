/-! ===== the reference's reader: it goes on; a line ===== -/
def GE (s u : Rst) : Prop := s.2.1 ≤ u.2.1 ∧ (u.2.2.2.2.1 = 0 → s.2.2.2.2.1 = 0)
def GO (s u : Rst) : Prop := s.2.1 ≤ u.2.1 ∧ (u.2.2.2.2.1 = 0 → s.2.2.2.2.1 = 0 ∧ (¬ u.2.2.1 = 0 → s.2.1 < u.2.1))
theorem ge_rf (s : Rst) : GE s s := ⟨Nat.le_refl _, id⟩
theorem go_ge {s u : Rst} (h : GO s u) : GE s u := ⟨h.1, fun q => (h.2 q).1⟩
theorem ge_go {s u v : Rst} (a : GE s u) (b : GO u v) : GO s v := ⟨Nat.le_trans a.1 b.1, fun q => ⟨a.2 (b.2 q).1, fun n => Nat.lt_of_le_of_lt a.1 ((b.2 q).2 n)⟩⟩
theorem ge_tr {s u v : Rst} (a : GE s u) (b : GE u v) : GE s v := ⟨Nat.le_trans a.1 b.1, fun q => a.2 (b.2 q)⟩
theorem ge_wts {g c : Int32} {s : Rst} (hc : ¬ c = 0) : GE s (wts g c s) := ⟨Nat.le_of_eq (wts_p g c s).symm, fun q => (wts_ok hc q).2.1⟩
theorem ge_isn {lo hi : Int32} {s : Rst} : GE s (isn lo hi s) := by unfold isn; exact ge_tr (ge_wts (by decide)) (ge_wts (by decide))
theorem go_nxs {T : Nat → Int32} {t : Nat} {s : Rst} : GO s (nxs T t s) := by
  have g : s.2.1 ≤ nx1 T t s.2.1 := rn_ge _ _ _ _ _
  have r : ∀ f : Int32 → Bool, nx1 T t s.2.1 ≤ rn f T t 401 (nx1 T t s.2.1) := fun f => rn_ge _ _ _ _ _
  have r1 : ∀ f : Int32 → Bool, f (lk T t (nx1 T t s.2.1)) = true → nx1 T t s.2.1 + 1 ≤ rn f T t 401 (nx1 T t s.2.1) := fun f e => by rw [rn, if_pos e]; exact rn_ge _ _ _ _ _
  refine ⟨?_, fun q => ⟨nxs_ok q, ?_⟩⟩
  · unfold nxs
    by_cases z : s.2.2.2.2.1 = 0
    · rw [if_pos z]
      split
      · exact g
      · split
        · exact Nat.le_trans g (r isA)
        · split
          · exact Nat.le_trans g (r isF)
          · exact Nat.le_trans g (Nat.le_succ _)
    · rw [if_neg z]; exact Nat.le_refl _
  · have z := nxs_ok q
    unfold nxs
    rw [if_pos z]
    by_cases c1 : lk T t (nx1 T t s.2.1) < 0
    · rw [if_pos c1]; exact fun n => absurd rfl n
    · rw [if_neg c1]
      by_cases c2 : isA (lk T t (nx1 T t s.2.1)) = true
      · rw [if_pos c2]; exact fun _ => Nat.lt_of_le_of_lt g (r1 isA c2)
      · rw [if_neg c2]
        by_cases c3 : isF (lk T t (nx1 T t s.2.1)) = true
        · rw [if_pos c3]; exact fun _ => Nat.lt_of_le_of_lt g (r1 isF c3)
        · rw [if_neg c3]; exact fun _ => Nat.lt_succ_of_le g
section GP9
variable {T : Nat → Int32} {t : Nat} {s : Rst}
theorem go_rds : GO s (rds T t s) := by unfold rds nam; exact ge_go (ge_tr (ge_wts (by decide)) (ge_wts (by decide))) go_nxs
theorem go_rms : GO s (rms T t s) := by unfold rms nam; exact ge_go (ge_tr (ge_wts (by decide)) (ge_wts (by decide))) go_nxs
theorem go_ras : GO s (ras T t s) := by unfold ras nam; exact ge_go (ge_tr (ge_wts (by decide)) (ge_wts (by decide))) go_nxs
theorem go_oos {a b c : Int32} : GO s (oos T t a b c s) := by unfold oos nam; exact ge_go (ge_tr (ge_wts (by decide)) (ge_wts (by decide))) go_nxs
theorem go_mks {no : Int32} : GO s (mks T t no s) := by unfold mks mk1; exact ge_go (ge_tr (ge_tr (ge_wts (by decide)) (ge_wts (by decide))) (ge_wts (by decide))) go_nxs
theorem go_rn {lo hi : Int32} : GO s (nxs T t (isn lo hi s)) := ge_go ge_isn go_nxs
theorem go_rcs {c : Int32} : GO s (rcs T t c s) := by unfold rcs rc3 rc2; exact ge_go (ge_tr (ge_tr ge_isn (ge_wts (by decide))) (go_ge go_nxs)) go_rn
theorem ge_eln : GE s (eln T t s) := by unfold eln; exact ge_tr (ge_wts (by decide)) (go_ge go_nxs)
theorem eln_ok (h : (eln T t s).2.2.2.2.1 = 0) : s.2.2.1 = 4 ∧ s.2.2.2.2.1 = 0 := by
  unfold eln at h
  obtain ⟨a, b, -⟩ := wts_ok (by decide) (nxs_ok h)
  refine ⟨?_, b⟩
  by_cases q : s.2.2.1 = 4
  · exact q
  · rw [if_neg q] at a; exact absurd rfl a
theorem ge_rw1 {k : Int32} : GE s (rw1 T t k s) := by
  unfold rw1
  split
  · exact go_ge go_rn
  · exact ge_rf s
theorem go_rw2 {k : Int32} : GO s (rw2 T t k s) := by
  unfold rw2
  split
  · rename_i q
    unfold rw1; rw [if_pos q]; exact go_rn
  · exact ge_go ge_rw1 go_rds
theorem go_rw3 {k : Int32} : GO s (rw3 T t k s) := by
  unfold rw3
  split
  · exact ge_go (go_ge go_rw2) go_mks
  · exact go_rw2
theorem go_rw4 {k : Int32} : GO s (rw4 T t k s) := by
  unfold rw4
  split
  · exact ge_go (go_ge go_rw3) go_mks
  · exact go_rw3
theorem go_rw5 {k : Int32} : GO s (rw5 T t k s) := by
  unfold rw5
  split
  · exact ge_go (go_ge go_rw4) go_ras
  · exact go_rw4
theorem go_rw6 {k : Int32} : GO s (rw6 T t k s) := by
  unfold rw6
  split
  · exact ge_go (go_ge go_rw5) go_rn
  · exact go_rw5
end GP9
section GP9b
variable (T : Nat → Int32) (t D : Nat) (cp : Nat → Int32) (s : Rst)
/-- the name that a line begins with -/
def lnk : Int32 := if s.2.2.1 = 1 then nmv T t s.1 s.2.1 else -4
def ln1 : Rst := wts (if 5 < lnk T t s ∨ D < 24 then 1 else 0) 5 (wts (if (¬ lnk T t s < 0 ∧ ¬ 5 < lnk T t s) ∨ lnk T t s = 10 ∨ lnk T t s = 11 then 1 else 0) 2 s)
def ln2 : Rst := nxs T t (ln1 T t D s)
def ln3 : Rst := if lnk T t s = 10 then nxs T t (isn 0 7 (ln2 T t D s)) else if lnk T t s = 11 then rcs T t (cp (ln2 T t D s).2.2.2.1.toNatClampNeg) (ln2 T t D s) else rw6 T t (lnk T t s) (ln2 T t D s)
def ln4 : Rst := eln T t (ln3 T t D cp s)
end GP9b
theorem ge_ln1 {T : Nat → Int32} {t D : Nat} {s : Rst} : GE s (ln1 T t D s) := by unfold ln1; exact ge_tr (ge_wts (by decide)) (ge_wts (by decide))
theorem go_ln2 {T : Nat → Int32} {t D : Nat} {s : Rst} : GO s (ln2 T t D s) := by unfold ln2; exact ge_go ge_ln1 go_nxs
theorem go_ln3 {T : Nat → Int32} {t D : Nat} {cp : Nat → Int32} {s : Rst} : GO s (ln3 T t D cp s) := by
  unfold ln3
  split
  · exact ge_go (go_ge go_ln2) go_rn
  · split
    · exact ge_go (go_ge go_ln2) go_rcs
    · exact ge_go (go_ge go_ln2) go_rw6
/-- a line without a fault goes on -/
theorem go_ln4 {T : Nat → Int32} {t D : Nat} {cp : Nat → Int32} {s : Rst} (h : (ln4 T t D cp s).2.2.2.2.1 = 0) : s.2.1 < (ln4 T t D cp s).2.1 := by
  unfold ln4 at h ⊢
  obtain ⟨a, b⟩ := eln_ok h
  exact Nat.lt_of_lt_of_le ((go_ln3.2 b).2 (by rw [a]; decide)) ge_eln.1
/-- what a line may change -/
def PL (M N : Mm) : Prop := gr N = gr M ∧ gl N = gl M ∧ (∀ a, ¬ (a = 6027 ∨ a = 6423 ∨ a = 6229 ∨ a = 6285 ∨ a = 6360) → gi N a = gi M a) ∧ ∀ k, ¬ ((12 ≤ k ∧ k ≤ 17) ∨ k = 3 ∨ k = 8) → gi N 6027 k = gi M 6027 k
theorem pl_pf {M N : Mm} (f : PF M N) : PL M N := ⟨f.1, f.2.1, fun a h => f.2.2.1 a (fun e => h (by omega)), fun k h => f.2.2.2 k (fun e => h (by omega))⟩
theorem pl_pw {D : Nat} {M N : Mm} (f : PW D M N) : PL M N := ⟨f.1, f.2.1, fun a h => f.2.2.1 a (fun e => h (by omega)) (fun e => h (by omega)), fun k h => f.2.2.2.1 k (fun e => h (by omega))⟩
theorem pl_tr {M N O : Mm} (f : PL M N) (g : PL N O) : PL M O := ⟨g.1.trans f.1, g.2.1.trans f.2.1, fun a h => (g.2.2.1 a h).trans (f.2.2.1 a h), fun k h => (g.2.2.2 k h).trans (f.2.2.2 k h)⟩
theorem pl_si {M : Mm} {a j : Nat} {v : Int32} (h : (a = 6423 ∨ a = 6229 ∨ a = 6285 ∨ a = 6360) ∨ (a = 6027 ∧ (j = 3 ∨ j = 8))) : PL M (si M a j v) := by
  refine ⟨rfl, rfl, fun b n => gi_ne (fun e => n (by omega)), fun k n => ?_⟩
  rw [gi_si, if_neg (fun e => n (by omega))]
theorem pl_r8 {M : Mm} {D : Nat} {v : Nat → Int32} : PL M (r8 M D v) := by
  refine ⟨rfl, rfl, fun a h => r8_ne _ _ _ _ (fun e => h (by omega)), fun k h => ?_⟩
  rw [r8_ne _ _ _ _ (by decide)]
theorem rd_3 {M : Mm} {T : Nat → Int32} {t : Nat} {s : Rst} {j : Nat} {v : Int32} (h : j = 3 ∨ j = 8) (rd : RD M T t s) : RD (si M 6027 j v) T t s := by
  obtain ⟨⟨m1, m2, m3, m4⟩, r⟩ := rd
  have e : ∀ i, 11 ≤ i → gi (si M 6027 j v) 6027 i = gi M 6027 i := fun i hi => g6 _ _ _ _ (by omega)
  unfold RD
  rw [e 13 (by decide), e 12 (by decide), e 14 (by decide), e 15 (by decide), e 16 (by decide), e 17 (by decide)]
  exact ⟨⟨mr_w m1 rfl, by rw [e 11 (by decide)]; exact m2, m3, by rw [gi_ne (by decide)]; exact m4⟩, r⟩
theorem rd_r8 {M : Mm} {T : Nat → Int32} {t : Nat} {s : Rst} {D : Nat} {v : Nat → Int32} (rd : RD M T t s) : RD (r8 M D v) T t s := by
  unfold r8
  exact rd_si (by decide) (by decide) (rd_si (by decide) (by decide) (rd_si (by decide) (by decide) (rd_si (by decide) (by decide) (rd_si (by decide) (by decide) (rd_si (by decide) (by decide) (rd_si (by decide) (by decide) (rd_si (by decide) (by decide) rd)))))))
theorem nM_readLine {M : Mm} {T : Nat → Int32} {t : Nat} {s : Rst} {D : Nat} {K : Mm → Prop} (rd : RD M T t s) (hD : gi M 6027 3 = nI D) (hD2 : D ≤ 24)
    (hF : ∀ N, PL M N → RD N T t (ln4 T t D (gi M 6360) s) → ¬ (ln4 T t D (gi M 6360) s).2.2.2.2.1 = 0 → K N)
    (hI : ∀ N O, PF M N → PF (si N 6027 8 (ln2 T t D s).2.2.2.1) O → RD O T t (ln4 T t D (gi M 6360) s) → (ln4 T t D (gi M 6360) s).2.2.2.2.1 = 0 → lnk T t s = 10 → K O)
    (hC : ∀ N O i, PF M N → PF (si (si N 6360 i 1) 6285 i (rc3 T t (gi M 6360 (ln2 T t D s).2.2.2.1.toNatClampNeg) (ln2 T t D s)).2.2.2.1) O → RD O T t (ln4 T t D (gi M 6360) s) → (ln4 T t D (gi M 6360) s).2.2.2.2.1 = 0 → lnk T t s = 11 → i < 8 → (ln2 T t D s).2.2.2.1 = nI i → K O)
    (hW : ∀ N O, PW D M N → PF (si (r8 N D (rwr T t (lnk T t s) (ln2 T t D s) (gi M 6027 8))) 6027 3 (nI (D + 1))) O → RD O T t (ln4 T t D (gi M 6360) s) → (ln4 T t D (gi M 6360) s).2.2.2.2.1 = 0 → ¬ lnk T t s = 10 → ¬ lnk T t s = 11 → (kCN (lnk T t s) → gi N 6423 D = nI (rw5 T t (lnk T t s) (ln2 T t D s)).1) → K O) : CV mM_readLine [.ref 6027] M K := by
  have r14 := rd.2.2.2.1
  have hk : ∀ k3, k3 = ln3 T t D (gi M 6360) s → eln T t k3 = ln4 T t D (gi M 6360) s := fun k3 e => by rw [e, ln4]
  have f4 : ¬ (ln3 T t D (gi M 6360) s).2.2.2.2.1 = 0 → ¬ (ln4 T t D (gi M 6360) s).2.2.2.2.1 = 0 := fun a b => a (by unfold ln4 at b; exact (eln_ok b).2)
  generalize e4 : ln4 T t D (gi M 6360) s = s4 at *
  have b118 : ∀ N, RD N T t (ln3 T t D (gi M 6360) s) → (∀ O, PF N O → RD O T t s4 → K O) → X mM_readLine 118 [(0, .ref 6027)] [] N (mC mM_readLine, mS mM_readLine) (QV K) := by
    intro N rN h
    refine vM_readLine_118 rfl (nM_endLine rN (fun O pf rO => vM_readLine_122 (h O pf ?_)))
    rw [hk _ rfl] at rO; exact rO
  have b80 : ∀ N, PF M N → RD N T t (ln2 T t D s) → X mM_readLine 80 [(0, .ref 6027), (1, .int (lnk T t s))] [] N (mC mM_readLine, mS mM_readLine) (QV K) := by
    intro N pf rN
    have n3 : gi N 6027 3 = nI D := (pf.2.2.2 3 (by decide)).trans hD
    have n8 : gi N 6027 8 = gi M 6027 8 := pf.2.2.2 8 (by decide)
    have n6360 : gi N 6360 = gi M 6360 := pf.2.2.1 6360 (by decide)
    refine vM_readLine_80 rfl ⟨fun q => ?_, fun q => ?_, fun q => ?_⟩
    · have e3 : ln3 T t D (gi M 6360) s = rw6 T t (lnk T t s) (ln2 T t D s) := by unfold ln3; rw [if_neg q.1, if_neg q.2]
      refine nM_readWord rN n3 hD2 (fun O pw rO nf => b118 O (by rw [e3]; exact rO) (fun P pP rP => hF P (pl_tr (pl_pf pf) (pl_tr (pl_pw pw) (pl_pf pP))) rP (f4 (by rw [e3]; exact nf)))) (fun O pw rO hp nf => b118 _ (by rw [e3]; exact rd_3 (Or.inl rfl) (rd_r8 rO)) (fun P pP rP => ?_))
      by_cases z : s4.2.2.2.2.1 = 0
      · rw [n8] at pP
        exact hW O P (pw_tr (pw_pf pf) pw) pP rP z q.1 q.2 hp
      · exact hF P (pl_tr (pl_pf pf) (pl_tr (pl_pw pw) (pl_tr pl_r8 (pl_tr (pl_si (by decide)) (pl_pf pP))))) rP z
    · have e3 : ln3 T t D (gi M 6360) s = rcs T t (gi M 6360 (ln2 T t D s).2.2.2.1.toNatClampNeg) (ln2 T t D s) := by unfold ln3; rw [if_neg q.1, if_pos q.2]
      refine nM_readCopies rN (fun O pO rO nf => ?_) (fun O i pO rO nf hi ei => ?_)
      · rw [n6360] at rO nf
        exact vM_readLine_110 (b118 O (by rw [e3]; exact rO) (fun P pP rP => hF P (pl_tr (pl_pf pf) (pl_tr (pl_pf pO) (pl_pf pP))) rP (f4 (by rw [e3]; exact nf))))
      · rw [n6360] at rO nf ⊢
        refine vM_readLine_110 (b118 _ (by rw [e3]; exact rd_si (by decide) (by decide) (rd_si (by decide) (by decide) rO)) (fun P pP rP => ?_))
        by_cases z : s4.2.2.2.2.1 = 0
        · exact hC O P i (pf_tr pf pO) pP rP z q.2 hi ei
        · exact hF P (pl_tr (pl_pf pf) (pl_tr (pl_pf pO) (pl_tr (pl_si (Or.inl (by decide))) (pl_tr (pl_si (Or.inl (by decide))) (pl_pf pP))))) rP z
    · have e3 : ln3 T t D (gi M 6360) s = nxs T t (isn 0 7 (ln2 T t D s)) := by unfold ln3; rw [if_pos q]
      refine nM_readNumber rN (fun O pO rO => vM_readLine_94 rfl (b118 _ (by rw [e3]; exact rd_3 (Or.inr rfl) rO) (fun P pP rP => ?_)))
      by_cases z : s4.2.2.2.2.1 = 0
      · exact hI O P (pf_tr pf pO) pP rP z q
      · exact hF P (pl_tr (pl_pf pf) (pl_tr (pl_pf pO) (pl_tr (pl_si (by decide)) (pl_pf pP)))) rP z
  have b17 : X mM_readLine 17 [(0, .ref 6027)] [.int (lnk T t s)] M (mC mM_readLine, mS mM_readLine) (QV K) := by
    have b72 : ∀ N g, PF M N → RD N T t (wts (if (¬ lnk T t s < 0 ∧ ¬ 5 < lnk T t s) ∨ lnk T t s = 10 ∨ lnk T t s = 11 then 1 else 0) 2 s) → g = (if 5 < lnk T t s ∨ D < 24 then 1 else 0) → X mM_readLine 72 [(0, .ref 6027), (1, .int (lnk T t s))] [.int g, .ref 6027] N (mC mM_readLine, mS mM_readLine) (QV K) := by
      intro N g pf rN hg
      refine vM_readLine_72 rfl (nM_wants rN (by decide) (fun O pO rO => vM_readLine_76 rfl ?_))
      have rO' : RD O T t (ln1 T t D s) := by unfold ln1; rw [← hg]; exact rO
      refine nM_next rO' (fun P pP rP => b80 P (pf_tr pf (pf_tr pO pP)) ?_)
      unfold ln2; exact rP
    have b48 : ∀ g, g = (if (¬ lnk T t s < 0 ∧ ¬ 5 < lnk T t s) ∨ lnk T t s = 10 ∨ lnk T t s = 11 then 1 else 0) → X mM_readLine 48 [(0, .ref 6027), (1, .int (lnk T t s))] [.int g, .ref 6027] M (mC mM_readLine, mS mM_readLine) (QV K) := by
      intro g hg
      refine vM_readLine_48 rfl (nM_wants rd (by decide) (fun N pf rN => ?_))
      rw [hg] at rN
      have n3 : gi N 6027 3 = nI D := (pf.2.2.2 3 (by decide)).trans hD
      have l24 : (24 : Int32) ≤ nI D ↔ 24 ≤ D := nle (n := 24) (by omega) (by decide)
      refine vM_readLine_52 rfl ⟨fun q => b72 N 1 pf rN ?_, fun q => b72 N 0 pf rN ?_⟩
      · rw [n3, l24] at q
        rw [if_pos (q.imp id (fun q => by omega))]
      · rw [n3, l24] at q
        rw [if_neg (fun z => z.elim q.1 (fun z => by omega))]
    refine vM_readLine_17 (sM_in (l := 0) (m := 5) rfl rfl (fun y => vM_readLine_28 ⟨fun q => b48 1 ?_, fun q => b48 0 ?_⟩) (fun y1 y2 => vM_readLine_28 ⟨fun q => b48 1 ?_, fun q => absurd q.1 (by decide)⟩))
    · rw [if_pos]
      rcases q with q | q | q
      · exact absurd rfl q
      · exact Or.inr (Or.inl q.2)
      · exact Or.inr (Or.inr q.2.2)
    · rw [if_neg]
      rintro (z | z | z)
      · exact y.elim z.1 z.2
      · exact q.2.1 z
      · exact q.2.2 z
    · rw [if_pos (Or.inl ⟨y1, y2⟩)]
  refine call_of rfl (Nat.le_of_ble_eq_true rfl) rfl (vM_readLine_0 rfl ⟨fun q => ?_, fun q => sM_nameNow (rs_rd rd) (vM_readLine_12 ?_)⟩)
  · rw [r14] at q
    have e : lnk T t s = -4 := by unfold lnk; rw [if_neg q]
    rw [e] at b17; exact b17
  · rw [r14] at q
    have e : lnk T t s = nmv T t s.1 s.2.1 := by unfold lnk; rw [if_pos q]
    rw [e] at b17; exact b17
