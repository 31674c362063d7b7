/-! ===== the reference's reader: a word ===== -/
theorem n10 (D : Nat) : 10 * nI D = nI (10 * D) := by
  show (10 : Int32) * Int32.ofNat D = Int32.ofNat (10 * D)
  rw [Int32.ofNat_mul]; rfl
theorem nadd (a b : Nat) : nI a + nI b = nI (a + b) := by
  show Int32.ofNat a + Int32.ofNat b = Int32.ofNat (a + b)
  rw [Int32.ofNat_add]
/-- a word's row is written -/
def r8 (N : Mm) (D : Nat) (v : Nat → Int32) : Mm := si (si (si (si (si (si (si (si N 6229 (10 * D) (v 0)) 6229 (10 * D + 1) (v 1)) 6229 (10 * D + 2) (v 2)) 6229 (10 * D + 3) (v 3)) 6229 (10 * D + 4) (v 4)) 6229 (10 * D + 5) (v 5)) 6229 (10 * D + 6) (v 6)) 6229 (10 * D + 7) (v 7)
theorem r8_ne (N : Mm) (D a : Nat) (v : Nat → Int32) (h : a ≠ 6229) : gi (r8 N D v) a = gi N a := by
  unfold r8
  rw [gi_ne h, gi_ne h, gi_ne h, gi_ne h, gi_ne h, gi_ne h, gi_ne h, gi_ne h]
theorem r8_at (N : Mm) (D i : Nat) (v : Nat → Int32) (h : i < 8) : gi (r8 N D v) 6229 (10 * D + i) = v i := by
  unfold r8
  simp only [gi_si]
  match i, h with
  | 0, _ => simp
  | 1, _ => simp
  | 2, _ => simp
  | 3, _ => simp
  | 4, _ => simp
  | 5, _ => simp
  | 6, _ => simp
  | 7, _ => simp
theorem r8_lt (N : Mm) (D j : Nat) (v : Nat → Int32) (h : j < 10 * D ∨ 10 * D + 8 ≤ j) : gi (r8 N D v) 6229 j = gi N 6229 j := by
  unfold r8
  simp only [gi_si]
  rw [if_neg (by omega), if_neg (by omega), if_neg (by omega), if_neg (by omega), if_neg (by omega), if_neg (by omega), if_neg (by omega), if_neg (by omega)]
section GP8
variable (T : Nat → Int32) (t : Nat) (k : Int32) (s : Rst)
abbrev kWL : Prop := k = 0 ∨ k = 5
abbrev kWLL : Prop := k = 0 ∨ k = 5 ∨ k = 4
abbrev kCN : Prop := ¬ k < 1 ∧ ¬ 3 < k
def rw1 : Rst := if k = 5 then nxs T t (isn 0 999 s) else s
def ra1 : Int32 := if k = 5 then s.2.2.2.1 else -4
def rw2 : Rst := if k = 5 then rw1 T t k s else rds T t (rw1 T t k s)
def ra2 : Int32 := if k = 5 then -4 else rdv T t (rw1 T t k s)
def rw3 : Rst := if kWLL k then mks T t 0 (rw2 T t k s) else rw2 T t k s
def ra3 : Int32 := if kWLL k then mkv T t (rw2 T t k s) else 0
def rw4 : Rst := if kWL k then mks T t (ra3 T t k s) (rw3 T t k s) else rw3 T t k s
def ra4 : Int32 := if kWL k then mkv T t (rw3 T t k s) else 0
def rw5 : Rst := if kWL k then ras T t (rw4 T t k s) else rw4 T t k s
def ra5 : Int32 := if kWL k then (if nmk T t (rw4 T t k s) = 22 then 1 else 0) else -4
def rw6 : Rst := if kCN k then nxs T t (isn 0 23 (rw5 T t k s)) else rw5 T t k s
def ra6 : Int32 := if kCN k then (rw5 T t k s).2.2.2.1 else -4
def rwr (b : Int32) (j : Nat) : Int32 := if j = 0 then k else if j = 1 then ra2 T t k s else if j = 2 then b else if j = 3 then ra3 T t k s else if j = 4 then ra4 T t k s else if j = 5 then ra5 T t k s else if j = 6 then ra6 T t k s else ra1 k s
end GP8
/-- what a word's line may change; the place of what it follows -/
def PW (D : Nat) (M N : Mm) : Prop := gr N = gr M ∧ gl N = gl M ∧ (∀ a, a ≠ 6027 → a ≠ 6423 → gi N a = gi M a) ∧ (∀ k, ¬ (12 ≤ k ∧ k ≤ 17) → gi N 6027 k = gi M 6027 k) ∧ ∀ j, j ≠ D → gi N 6423 j = gi M 6423 j
theorem pw_pf {D : Nat} {M N : Mm} (f : PF M N) : PW D M N := ⟨f.1, f.2.1, fun a h _ => f.2.2.1 a h, f.2.2.2, fun j _ => by rw [f.2.2.1 6423 (by decide)]⟩
theorem pw_tr {D : Nat} {M N O : Mm} (f : PW D M N) (g : PW D N O) : PW D M O := ⟨g.1.trans f.1, g.2.1.trans f.2.1, fun a h h2 => (g.2.2.1 a h h2).trans (f.2.2.1 a h h2), fun k h => (g.2.2.2.1 k h).trans (f.2.2.2.1 k h), fun j h => (g.2.2.2.2 j h).trans (f.2.2.2.2 j h)⟩
theorem pw_si {D : Nat} {M : Mm} {v : Int32} : PW D M (si M 6423 D v) := by
  refine ⟨rfl, rfl, fun a _ h => gi_ne h, fun k _ => by rw [gi_ne (by decide)], fun j h => by rw [gi_si, if_neg (fun q => h q.2)]⟩
theorem rd_si {M : Mm} {T : Nat → Int32} {t : Nat} {s : Rst} {a j : Nat} {v : Int32} (h1 : a ≠ 6027) (h2 : a ≠ 6486) (rd : RD M T t s) : RD (si M a j v) T t s := by
  obtain ⟨⟨m1, m2, m3, m4⟩, r⟩ := rd
  have e : gi (si M a j v) 6027 = gi M 6027 := gi_ne (Ne.symm h1)
  have e2 : gi (si M a j v) 6486 = gi M 6486 := gi_ne (Ne.symm h2)
  unfold RD
  rw [e]
  exact ⟨⟨mr_w m1 rfl, by rw [e]; exact m2, m3, by rw [e2]; exact m4⟩, r⟩
theorem nM_readWord {M : Mm} {T : Nat → Int32} {t : Nat} {k : Int32} {s : Rst} {D : Nat} {K : Mm → Prop} (rd : RD M T t s) (hD : gi M 6027 3 = nI D) (hD2 : D ≤ 24)
    (h0 : ∀ N, PW D M N → RD N T t (rw6 T t k s) → ¬ (rw6 T t k s).2.2.2.2.1 = 0 → K N)
    (h1 : ∀ N, PW D M N → RD N T t (rw6 T t k s) → (kCN k → gi N 6423 D = nI (rw5 T t k s).1) → (rw6 T t k s).2.2.2.2.1 = 0 → K (si (r8 N D (rwr T t k s (gi M 6027 8))) 6027 3 (nI (D + 1)))) : CV mM_readWord [.ref 6027, .int k] M K := by
  have b147 : ∀ N, PW D M N → RD N T t (rw6 T t k s) → (kCN k → gi N 6423 D = nI (rw5 T t k s).1) → X mM_readWord 147 [(0, .ref 6027), (1, .int k), (2, .int (nI (10 * D))), (3, .int (ra1 k s)), (4, .int (ra2 T t k s)), (5, .int (ra3 T t k s)), (6, .int (ra4 T t k s)), (7, .int (ra5 T t k s)), (8, .int (ra6 T t k s))] [] N (mC mM_readWord, mS mM_readWord) (QV K) := by
    intro N pw rN hp
    have n16 := rN.2.2.2.2.2.1
    have n3 : gi N 6027 3 = nI D := (pw.2.2.2.1 3 (by decide)).trans hD
    have n8 : gi N 6027 8 = gi M 6027 8 := pw.2.2.2.1 8 (by decide)
    have hm := rN.1.1
    have h0' := h0 N pw rN
    have h1' := h1 N pw rN hp
    have e : ∀ i, nI (10 * D) + nI i = nI (10 * D + i) := fun i => nadd _ _
    have c : ∀ i, i < 8 → (nI (10 * D + i)).toNatClampNeg = 10 * D + i := fun i hi => ncl (by omega)
    have w : ∀ i, i < 8 → vp_in (nI (10 * D + i)) 250 := fun i hi => vin (by omega) (by decide)
    refine vM_readWord_147 rfl (mr4 hm) ⟨fun q => h0' (by rw [n16] at q; exact q), fun q => ?_⟩
    rw [n16] at q
    have h2 := h1' q
    have e0 : (nI (10 * D)).toNatClampNeg = 10 * D := c 0 (by decide)
    rw [show (1 : Int32) = nI 1 from rfl, show (2 : Int32) = nI 2 from rfl, show (3 : Int32) = nI 3 from rfl, show (4 : Int32) = nI 4 from rfl, show (5 : Int32) = nI 5 from rfl, show (6 : Int32) = nI 6 from rfl, show (7 : Int32) = nI 7 from rfl, e, e, e, e, e, e, e]
    refine ⟨w 0 (by decide), w 1 (by decide), w 2 (by decide), w 3 (by decide), w 4 (by decide), w 5 (by decide), w 6 (by decide), w 7 (by decide), ?_⟩
    rw [e0, c 1 (by decide), c 2 (by decide), c 3 (by decide), c 4 (by decide), c 5 (by decide), c 6 (by decide), c 7 (by decide)]
    have g8 : gi (si (si N 6229 (10 * D) k) 6229 (10 * D + 1) (ra2 T t k s)) 6027 8 = gi M 6027 8 := by rw [gi_ne (by decide), gi_ne (by decide), n8]
    rw [g8]
    have g3 : ∀ v0 v1 v2 v3 v4 v5 v6 v7, gi (si (si (si (si (si (si (si (si N 6229 (10 * D) v0) 6229 (10 * D + 1) v1) 6229 (10 * D + 2) v2) 6229 (10 * D + 3) v3) 6229 (10 * D + 4) v4) 6229 (10 * D + 5) v5) 6229 (10 * D + 6) v6) 6229 (10 * D + 7) v7) 6027 3 = nI D := by
      intro v0 v1 v2 v3 v4 v5 v6 v7
      rw [gi_ne (by decide), gi_ne (by decide), gi_ne (by decide), gi_ne (by decide), gi_ne (by decide), gi_ne (by decide), gi_ne (by decide), gi_ne (by decide), n3]
    rw [g3, nadd]
    exact h2
  have b107 : ∀ N, PF M N → RD N T t (rw5 T t k s) → X mM_readWord 107 [(0, .ref 6027), (1, .int k), (2, .int (nI (10 * D))), (3, .int (ra1 k s)), (4, .int (ra2 T t k s)), (5, .int (ra3 T t k s)), (6, .int (ra4 T t k s))] [.int (ra5 T t k s)] N (mC mM_readWord, mS mM_readWord) (QV K) := by
    intro N pf rN
    have n3 : gi N 6027 3 = nI D := (pf.2.2.2 3 (by decide)).trans hD
    have n13 := rN.2.1
    refine vM_readWord_107 (sM_in (l := 1) (m := 3) rfl rfl (fun y => vM_readWord_122 rfl (mr7 rN.1.1) ⟨fun _ => ?_, fun z => absurd rfl z⟩) (fun y1 y2 => vM_readWord_122 rfl (mr7 rN.1.1) ⟨fun z => absurd z (by decide), fun _ => ?_⟩))
    · have ny : ¬ kCN k := fun z => y.elim z.1 z.2
      have e6 : rw6 T t k s = rw5 T t k s := by unfold rw6; rw [if_neg ny]
      have e7 : ra6 T t k s = -4 := by unfold ra6; rw [if_neg ny]
      have := b147 N (pw_pf pf) (by rw [e6]; exact rN) (fun z => absurd z ny)
      rw [e7] at this; exact this
    · have ny : kCN k := ⟨y1, y2⟩
      rw [n3]
      refine ⟨vin (by omega) (by decide), ?_⟩
      rw [ncl (by omega), n13]
      have e6 : rw6 T t k s = nxs T t (isn 0 23 (rw5 T t k s)) := by unfold rw6; rw [if_pos ny]
      have e7 : ra6 T t k s = (rw5 T t k s).2.2.2.1 := by unfold ra6; rw [if_pos ny]
      refine nM_readNumber (rd_si (by decide) (by decide) rN) (fun O pfO rO => vM_readWord_145 ?_)
      rw [← e6] at rO
      rw [← e7]
      refine b147 O (pw_tr (pw_pf pf) (pw_tr pw_si (pw_pf pfO))) rO (fun _ => ?_)
      rw [pfO.2.2.1 6423 (by decide), gi_si, if_pos ⟨rfl, rfl⟩]
  have b87 : ∀ N, PF M N → RD N T t (rw4 T t k s) → X mM_readWord 87 [(0, .ref 6027), (1, .int k), (2, .int (nI (10 * D))), (3, .int (ra1 k s)), (4, .int (ra2 T t k s)), (5, .int (ra3 T t k s))] [.int (ra4 T t k s)] N (mC mM_readWord, mS mM_readWord) (QV K) := by
    intro N pf rN
    refine vM_readWord_87 rfl ⟨fun q => ?_, fun q => ?_⟩
    · have q' : kWL k := q.imp id (fun q => q.2)
      have e1 : rw5 T t k s = ras T t (rw4 T t k s) := by unfold rw5; rw [if_pos q']
      have e2 : ra5 T t k s = (if nmk T t (rw4 T t k s) = 22 then 1 else 0) := by unfold ra5; rw [if_pos q']
      refine nM_readAnswer rN (fun O pfO rO => vM_readWord_102 ?_)
      rw [← e1] at rO
      rw [← e2]
      exact b107 O (pf_tr pf pfO) rO
    · have q' : ¬ kWL k := fun z => z.elim q.1 q.2
      have e1 : rw5 T t k s = rw4 T t k s := by unfold rw5; rw [if_neg q']
      have e2 : ra5 T t k s = -4 := by unfold ra5; rw [if_neg q']
      rw [← e1] at rN
      rw [← e2]
      exact b107 N pf rN
  have b66 : ∀ N, PF M N → RD N T t (rw3 T t k s) → X mM_readWord 66 [(0, .ref 6027), (1, .int k), (2, .int (nI (10 * D))), (3, .int (ra1 k s)), (4, .int (ra2 T t k s))] [.int (ra3 T t k s)] N (mC mM_readWord, mS mM_readWord) (QV K) := by
    intro N pf rN
    refine vM_readWord_66 rfl ⟨fun q => ?_, fun q => ?_⟩
    · have q' : kWL k := q.imp id (fun q => q.2)
      have e1 : rw4 T t k s = mks T t (ra3 T t k s) (rw3 T t k s) := by unfold rw4; rw [if_pos q']
      have e2 : ra4 T t k s = mkv T t (rw3 T t k s) := by unfold ra4; rw [if_pos q']
      refine nM_readMarks rN (fun O pfO rO => vM_readWord_83 ?_)
      rw [← e1] at rO
      rw [← e2]
      exact b87 O (pf_tr pf pfO) rO
    · have q' : ¬ kWL k := fun z => z.elim q.1 q.2
      have e1 : rw4 T t k s = rw3 T t k s := by unfold rw4; rw [if_neg q']
      have e2 : ra4 T t k s = 0 := by unfold ra4; rw [if_neg q']
      rw [← e1] at rN
      rw [← e2]
      exact b87 N pf rN
  have b41 : ∀ N, PF M N → RD N T t (rw2 T t k s) → X mM_readWord 41 [(0, .ref 6027), (1, .int k), (2, .int (nI (10 * D))), (3, .int (ra1 k s))] [.int (ra2 T t k s)] N (mC mM_readWord, mS mM_readWord) (QV K) := by
    intro N pf rN
    refine vM_readWord_41 rfl ⟨fun q => ?_, fun q => ?_⟩
    · have q' : kWLL k := q.imp id (fun q => q.imp (fun q => q.2) (fun q => q.2.2))
      have e1 : rw3 T t k s = mks T t 0 (rw2 T t k s) := by unfold rw3; rw [if_pos q']
      have e2 : ra3 T t k s = mkv T t (rw2 T t k s) := by unfold ra3; rw [if_pos q']
      refine nM_readMarks rN (fun O pfO rO => vM_readWord_62 ?_)
      rw [← e1] at rO
      rw [← e2]
      exact b66 O (pf_tr pf pfO) rO
    · have q' : ¬ kWLL k := fun z => z.elim q.1 (fun z => z.elim q.2.1 q.2.2)
      have e1 : rw3 T t k s = rw2 T t k s := by unfold rw3; rw [if_neg q']
      have e2 : ra3 T t k s = 0 := by unfold ra3; rw [if_neg q']
      rw [← e1] at rN
      rw [← e2]
      exact b66 N pf rN
  have b26 : ∀ N, PF M N → RD N T t (rw1 T t k s) → X mM_readWord 26 [(0, .ref 6027), (1, .int k), (2, .int (nI (10 * D)))] [.int (ra1 k s)] N (mC mM_readWord, mS mM_readWord) (QV K) := by
    intro N pf rN
    refine vM_readWord_26 rfl ⟨fun q => ?_, fun q => ?_⟩
    · have e1 : rw2 T t k s = rds T t (rw1 T t k s) := by unfold rw2; rw [if_neg q]
      have e2 : ra2 T t k s = rdv T t (rw1 T t k s) := by unfold ra2; rw [if_neg q]
      refine nM_readDoctor rN (fun O pfO rO => ?_)
      rw [← e1] at rO
      rw [← e2]
      exact b41 O (pf_tr pf pfO) rO
    · have e1 : rw2 T t k s = rw1 T t k s := by unfold rw2; rw [if_pos q]
      have e2 : ra2 T t k s = -4 := by unfold ra2; rw [if_pos q]
      rw [← e1] at rN
      rw [← e2]
      exact b41 N pf rN
  refine call_of rfl (Nat.le_of_ble_eq_true rfl) rfl (vM_readWord_0 rfl ⟨fun q => ?_, fun q => ?_⟩)
  · have e1 : rw1 T t k s = s := by unfold rw1; rw [if_neg q]
    have e2 : ra1 k s = -4 := by unfold ra1; rw [if_neg q]
    rw [hD, n10, ← e2]
    rw [← e1] at rd
    exact b26 M (pf_rf M) rd
  · have e1 : rw1 T t k s = nxs T t (isn 0 999 s) := by unfold rw1; rw [if_pos q]
    have e2 : ra1 k s = s.2.2.2.1 := by unfold ra1; rw [if_pos q]
    refine nM_readNumber rd (fun O pfO rO => vM_readWord_21 ?_)
    rw [hD, n10, ← e2]
    rw [← e1] at rO
    exact b26 O pfO rO
