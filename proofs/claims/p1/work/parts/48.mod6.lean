/-! ===== words found, in the reference ===== -/
def cwf (m : Int32) : Nat → Int64
  | 0 => 0
  | c + 1 => cwf m c ||| (if (nI c &&& m) = m then ((1 : Int64) <<< ((nI c).toInt64 &&& 63)) else 0)
theorem sM_casesWith0 {M : Mm} {m : Int32} {K : Int64 → Mm → Prop} (h : K (cwf m 64) M) : CJ mM_casesWith [.ref 6027, .int m, .int 0] M K := by
  refine call_of rfl (Nat.le_of_ble_eq_true rfl) rfl (x_loc [1, 2] rfl (vM_casesWith_0 ?_))
  have key := lp 64 (P := fun c => X mM_casesWith 5 [(1, .int m), (2, .int 0), (3, .long (cwf m c)), (5, .int (nI c))] [] M (mC mM_casesWith, mS mM_casesWith) (QJ K)) (fun c hc ih => ?_) ?_
  · exact key
  · have nq := nge (c := 64) (i := c) (n := 64) rfl (by decide) hc
    refine vM_casesWith_5 ⟨fun q => absurd q nq, fun q => vM_casesWith_36 ?_, fun q => vM_casesWith_36 ?_⟩
    · have q1 : ¬ (nI c &&& m) = m := by
        rcases q with q | q
        · exact q.2
        · exact absurd Int32.and_zero q.2.2
      rw [cwf, if_neg q1] at ih
      rw [nI_s]; exact ih
    · rw [cwf, if_pos q.2.1] at ih
      rw [nI_s]; exact ih
  · refine vM_casesWith_5 ⟨fun _ => h, fun q => ?_, fun q => absurd (nself rfl) q.1⟩
    rcases q with q | q <;> exact absurd (nself rfl) q.1
def bit (x : Int64) (c : Nat) : Int32 := ((x >>> ((nI c).toInt64 &&& 63)) &&& 1).toInt32
theorem sb_one {G : Nat → Nat → Int64} {a c d : Nat} (hc : c < 64) (hd : d < 8) (h : ∀ e, e < 8 → e ≠ d → G a e = 0) : ∀ n, n ≤ 8 → sb G a c n = if d < n then bit (G a d) c else 0 := by
  intro n
  induction n with
  | zero => intro _; rfl
  | succ n ih =>
    intro hn
    rw [sb, ih (by omega)]
    by_cases q : n = d
    · subst q
      rw [if_neg (Nat.lt_irrefl n), if_pos (Nat.lt_succ_self n), Int32.zero_add]; rfl
    · rw [h n (by omega) q, b0 c hc]
      by_cases r : d < n
      · rw [if_pos r, if_pos (by omega)]; exact Int32.add_zero _
      · rw [if_neg r, if_neg (by omega)]; rfl
theorem bit0 {c : Nat} (hc : c < 64) : bit 0 c = 0 := by unfold bit; rw [b0 c hc]; rfl
def TY (M : Mm) (d : Nat) : Prop := MR M ∧ (∀ j, j < 7 → gi M 6543 j = dv j) ∧ gi M 6027 0 = 0 ∧ (∀ e, e < 8 → e ≠ d → gl M 7003 e = 0 ∧ gl M 7067 e = 0) ∧ ∀ c, c < 64 → gi M 7438 c = -4
/-- one word found: doctor d, answer a, marks m -/
def OW (M : Mm) (d : Nat) (a m : Int32) : Prop := MR M ∧ (∀ j, j < 7 → gi M 6543 j = dv j) ∧ gi M 6027 0 = 1 ∧ gi M 6101 0 = 0 ∧ gi M 6101 1 = nI d ∧ gi M 6101 2 = 0 ∧ gi M 6101 3 = m ∧ gi M 6101 4 = 0 ∧ gi M 6101 5 = a ∧ (∀ c, c < 64 → gi M 7438 c = -4)
theorem ow_gl {M N : Mm} {d : Nat} {a m : Int32} (o : OW M d a m) (h1 : gi N = gi M) (h2 : gr N = gr M) : OW N d a m := by
  obtain ⟨o1, o2⟩ := o
  refine ⟨mr_w o1 h2, ?_⟩
  rw [h1]; exact o2
theorem oM_counts {M : Mm} {d : Nat} {a m : Int32} {K : Int32 → Mm → Prop} (o : OW M d a m) (hd : d < 8) (hmain : ((31 >>> (nI d &&& 31)) &&& 1 : Int32) = 1) (h : K 1 M) : CI mM_counts [.ref 6027, .int 0] M K := by
  obtain ⟨hm, hr, o0, t0, t1, t2, t3, t4, t5, ow⟩ := o
  have r0 : gi M 6543 0 = 31 := by rw [hr 0 (by decide)]; rfl
  have fin : ∀ x, X mM_counts 73 [(0, .ref 6027), (1, .int 0)] [.int x] M (mC mM_counts, mS mM_counts) (QI K) := by
    intro x
    refine vM_counts_73 rfl (mr18 hm) (sM_of0 (k := 1) hm rfl (by decide) ?_)
    rw [t1, r0]
    exact vM_counts_86 ⟨fun _ => h, fun q => absurd hmain q.1⟩
  refine call_of rfl (Nat.le_of_ble_eq_true rfl) rfl (vM_counts_0 rfl (sM_of0 (k := 0) hm rfl (by decide) ?_))
  rw [t0]
  refine vM_counts_6 rfl ⟨fun q => absurd q (by decide), fun _ => sM_of0 (k := 0) hm rfl (by decide) ?_⟩
  rw [t0]
  refine vM_counts_16 rfl (mr18 hm) ⟨fun _ => sM_of0 (k := 2) hm rfl (by decide) ?_, fun q => absurd q.1 (by decide)⟩
  rw [t2]
  refine vM_counts_41 rfl (mr2 hm) ⟨fun _ => vM_counts_72 (fin 0), fun _ => sM_of0 (k := 2) hm rfl (by decide) ?_⟩
  rw [t2]
  exact vM_counts_58 rfl rfl (mr18 hm) ⟨vin (i := 0) (by decide) (by decide), fun _ => vM_counts_72 (fin 0), fun _ => fin 1⟩
def aY (a : Int32) (C : Int64) : Int64 := if a = 1 then C else 0
def aN (a : Int32) (C : Int64) : Int64 := if a = 1 then 0 else C
theorem aYN (a : Int32) (C : Int64) : ((0 ||| aY a C) &&& (0 ||| aN a C)) = 0 ∧ ((0 ||| aY a C) &&& ((0 ||| aN a C) ^^^ (-1))) = aY a C ∧ ((0 ||| aN a C) &&& ((0 ||| aY a C) ^^^ (-1))) = aN a C := by
  rw [Int64.zero_or, Int64.zero_or]
  unfold aY aN
  by_cases q : a = 1
  · rw [if_pos q, if_pos q, Int64.zero_xor, Int64.and_neg_one, Int64.and_zero, Int64.zero_and]; exact ⟨rfl, rfl, rfl⟩
  · rw [if_neg q, if_neg q, Int64.zero_xor, Int64.and_neg_one, Int64.zero_and, Int64.zero_and]; exact ⟨rfl, rfl, rfl⟩
def fo1 (M : Mm) (d : Nat) (y n : Int64) : Mm := sl (sl (sl M 7131 d 0) 7003 d y) 7067 d n
theorem oM_findOne {M : Mm} {d : Nat} {a m : Int32} {C : Int64} {K : Mm → Prop} (o : OW M d a m) (hd : d < 8) (hmain : ((31 >>> (nI d &&& 31)) &&& 1 : Int32) = 1) (hy : gl M 6874 0 = aY a C) (hn : gl M 6938 0 = aN a C) (h : K (fo1 M d (aY a C) (aN a C))) : CV mM_findOne [.ref 6027, .int (nI d)] M K := by
  have o0 := o
  obtain ⟨hm, hr, ow, t0, t1, t2, t3, t4, t5, owh⟩ := o
  have e0 : ¬ gi M 6027 0 ≤ 0 := by rw [ow]; decide
  have e1 : gi M 6027 0 ≤ 0 + 1 := by rw [ow]; decide
  refine call_of rfl (Nat.le_of_ble_eq_true rfl) rfl (vM_findOne_0 (vM_findOne_8 rfl (mr29 hm) (mr27 hm) (mr28 hm) ⟨fun q => absurd q e0, fun _ => sM_of0 (k := 1) hm rfl (by decide) ?_⟩))
  rw [t1]
  refine vM_findOne_24 rfl ⟨fun q => absurd rfl q, fun _ => oM_counts o0 hd hmain ?_⟩
  refine vM_findOne_34 rfl (mr25 hm) (mr26 hm) ⟨fun _ => vin (i := 0) (by decide) (by decide), fun q => absurd q (by decide), fun _ => ⟨vin (i := 0) (by decide) (by decide), ?_⟩⟩
  rw [show (0 : Int32).toNatClampNeg = 0 from rfl, hy, hn]
  refine vM_findOne_8 rfl (mr29 hm) (mr27 hm) (mr28 hm) ⟨fun _ => ⟨vin hd (by decide), vin hd (by decide), vin hd (by decide), ?_⟩, fun q => absurd e1 q⟩
  obtain ⟨c1, c2, c3⟩ := aYN a C
  rw [c1, c2, c3, ncl (by omega)]
  have hm2 : MR (fo1 M d (aY a C) (aN a C)) := mr_w hm rfl
  have key := lp 64 (P := fun c => X mM_findOne 106 [(0, .ref 6027), (1, .int (nI d)), (6, .int (nI c))] [] (fo1 M d (aY a C) (aN a C)) (mC mM_findOne, mS mM_findOne) (QV K)) (fun c hc ih => ?_) ?_
  · exact key
  · have e : gl (fo1 M d (aY a C) (aN a C)) 7131 (nI d).toNatClampNeg = 0 := by
      rw [ncl (by omega)]; unfold fo1
      rw [gl_sl, if_neg (by simp), gl_sl, if_neg (by simp), gl_sl, if_pos ⟨rfl, rfl⟩]
    refine vM_findOne_106 rfl (mr29 hm2) ⟨fun _ => vin hd (by decide), fun q => absurd q (nge rfl (by decide) hc), fun _ => ?_, fun q => ?_⟩
    · rw [nI_s]; exact ih
    · rw [e, b0 c hc] at q; exact absurd q.2 (by decide)
  · exact vM_findOne_106 rfl (mr29 hm2) ⟨fun q => absurd (nself rfl) q, fun _ => h, fun q => absurd (nself rfl) q.1, fun q => absurd (nself rfl) q.1⟩
theorem oM_sayWord {M : Mm} {d : Nat} {a m : Int32} {K : Mm → Prop} (o : OW M d a m) (h : K (sl (sl M 6874 0 (aY a (cwf m 64))) 6938 0 (aN a (cwf m 64)))) : CV mM_sayWord [.ref 6027, .int 0] M K := by
  obtain ⟨hm, hr, ow, t0, t1, t2, t3, t4, t5, owh⟩ := o
  refine call_of rfl (Nat.le_of_ble_eq_true rfl) rfl (vM_sayWord_0 rfl (sM_of0 (k := 0) hm rfl (by decide) ?_))
  rw [t0]
  refine vM_sayWord_6 rfl ⟨fun _ => sM_of0 (k := 3) hm rfl (by decide) ?_, fun q => absurd rfl q.1, fun q => absurd rfl q.1⟩
  rw [t3]
  refine vM_sayWord_23 rfl (sM_of0 (k := 4) hm rfl (by decide) ?_)
  rw [t4]
  refine vM_sayWord_29 rfl (sM_casesWith0 (vM_sayWord_32 rfl (mr25 hm) (sM_of0 (k := 5) hm rfl (by decide) ?_)))
  rw [t5]
  refine vM_sayWord_44 rfl rfl (mr26 hm) ⟨vin (i := 0) (by decide) (by decide), sM_of0 (k := 5) (M := sl M 6874 (0 : Int32).toNatClampNeg (if a = 1 then cwf m 64 else 0)) hm rfl (by decide) ?_⟩
  rw [show ∀ v, gi (sl M 6874 (0 : Int32).toNatClampNeg v) = gi M from fun _ => rfl, t5]
  exact vM_sayWord_65 rfl ⟨vin (i := 0) (by decide) (by decide), h⟩
theorem hvY {x : Int32} : (hv x 0 = -4) ↔ x = 0 := by
  unfold hv
  by_cases q : x = 0
  · rw [if_pos q]; exact ⟨fun _ => q, fun _ => rfl⟩
  · rw [if_neg q]
    constructor
    · intro e; split at e <;> exact absurd e (by decide)
    · intro e; exact absurd e q
theorem hvN {x : Int32} : (hv 0 x = -4) ↔ x = 0 := by
  unfold hv
  by_cases q : 0 = x
  · rw [if_pos q]; exact ⟨fun _ => q.symm, fun _ => rfl⟩
  · rw [if_neg q]
    constructor
    · intro e; split at e <;> exact absurd e (by decide)
    · intro e; exact absurd e.symm q
/-- cases that one word turns, from the last one on -/
def cb (m : Int32) : Nat → Int32
  | 0 => 0
  | k + 1 => cb m k + (if bit (cwf m 64) (63 - k) = 0 then 0 else 1)
theorem cb_ct : ∀ j, j < 64 → cb (nI j) 64 = ctC (nI j) 64 := by decide +kernel
theorem cnt_cb {H W : Nat → Int32} {m : Int32} (h : ∀ c, c < 64 → (H c = W c ↔ bit (cwf m 64) c = 0)) : ∀ k, k ≤ 64 → cnt H W k = cb m k := by
  intro k
  induction k with
  | zero => intro _; rfl
  | succ k ih =>
    intro hk
    rw [cnt, cb, ih (by omega)]
    have e := h (63 - k) (by omega)
    by_cases q : bit (cwf m 64) (63 - k) = 0
    · rw [if_pos q, if_pos (e.mpr q)]
    · rw [if_neg q, if_neg (fun r => q (e.mp r))]
theorem tM_turnsBy {M : Mm} {d j : Nat} {a : Int32} {K : Int32 → Mm → Prop} (t : TY M d) (hd : d < 8) (hmain : ((31 >>> (nI d &&& 31)) &&& 1 : Int32) = 1) (ha : a = 0 ∨ a = 1) (hj : j < 64) (h : ∀ N, TY N d → K (ctC (nI j) 64) N) : CI mM_turnsBy [.ref 6027, .int (nI d), .int a, .int (nI j)] M K := by
  obtain ⟨hm, hr, hz, hg, hw⟩ := t
  have tail : ∀ N, OW N d a (nI j) → gl N = gl M → CV mM_sayWord [.ref 6027, .int 0] N (fun N => X mM_turnsBy 143 [(0, .ref 6027), (1, .int (nI d))] [] N (mC mM_turnsBy, mS mM_turnsBy) (QI K)) := by
    intro N o hgl
    refine oM_sayWord o ?_
    have o2 : OW (sl (sl N 6874 0 (aY a (cwf (nI j) 64))) 6938 0 (aN a (cwf (nI j) 64))) d a (nI j) := ow_gl o rfl rfl
    have y2 : gl (sl (sl N 6874 0 (aY a (cwf (nI j) 64))) 6938 0 (aN a (cwf (nI j) 64))) 6874 0 = aY a (cwf (nI j) 64) := by
      rw [gl_sl, if_neg (by decide), gl_sl, if_pos ⟨rfl, rfl⟩]
    have n2 : gl (sl (sl N 6874 0 (aY a (cwf (nI j) 64))) 6938 0 (aN a (cwf (nI j) 64))) 6938 0 = aN a (cwf (nI j) 64) := by
      rw [gl_sl, if_pos ⟨rfl, rfl⟩]
    have g2 : ∀ b e, b ≠ 6874 → b ≠ 6938 → gl (sl (sl N 6874 0 (aY a (cwf (nI j) 64))) 6938 0 (aN a (cwf (nI j) 64))) b e = gl M b e := by
      intro b e h1 h2
      rw [gl_sl, if_neg (fun q => h2 q.1), gl_sl, if_neg (fun q => h1 q.1), hgl]
    generalize sl (sl N 6874 0 (aY a (cwf (nI j) 64))) 6938 0 (aN a (cwf (nI j) 64)) = N2 at o2 y2 n2 g2
    refine vM_turnsBy_143 rfl (oM_findOne o2 hd hmain y2 n2 (vM_turnsBy_148 rfl ?_))
    have o3 : OW (fo1 N2 d (aY a (cwf (nI j) 64)) (aN a (cwf (nI j) 64))) d a (nI j) := ow_gl o2 rfl rfl
    have g3 : ∀ e, e < 8 → gl (fo1 N2 d (aY a (cwf (nI j) 64)) (aN a (cwf (nI j) 64))) 7003 e = (if e = d then aY a (cwf (nI j) 64) else 0) ∧ gl (fo1 N2 d (aY a (cwf (nI j) 64)) (aN a (cwf (nI j) 64))) 7067 e = (if e = d then aN a (cwf (nI j) 64) else 0) := by
      intro e he
      unfold fo1
      by_cases q : e = d
      · subst q
        constructor
        · rw [gl_sl, if_neg (by simp), gl_sl, if_pos ⟨rfl, rfl⟩, if_pos rfl]
        · rw [gl_sl, if_pos ⟨rfl, rfl⟩, if_pos rfl]
      · constructor
        · rw [gl_sl, if_neg (by simp), gl_sl, if_neg (fun r => q r.2), gl_sl, if_neg (by simp), g2 _ _ (by decide) (by decide), (hg e he q).1, if_neg q]
        · rw [gl_sl, if_neg (fun r => q r.2), gl_sl, if_neg (by simp), gl_sl, if_neg (by simp), g2 _ _ (by decide) (by decide), (hg e he q).2, if_neg q]
    generalize fo1 N2 d (aY a (cwf (nI j) 64)) (aN a (cwf (nI j) 64)) = N3 at o3 g3
    obtain ⟨m3, r3, w3, k0, k1, k2, k3, k4, k5, wh3⟩ := o3
    refine wM_findHeld ⟨m3, r3, Or.inr ⟨w3, k0⟩⟩ (fun N4 f hf => vM_turnsBy_152 rfl ?_)
    have m4 : MR N4 := mr_w m3 f.2.2
    have w4 : gi N4 6027 0 = 1 := by rw [f.1 6027 (by decide) (by decide) (by decide) (by decide)]; exact w3
    rw [w4, show (1 - 1 : Int32) = 0 from by decide]
    refine sM_findChanged (M := si N4 6027 0 0) m4 (fun N5 f1 f2 f3 f4 f5 f6 => vM_turnsBy_166 rfl ?_)
    have H : ∀ c, c < 64 → (gi (si N4 6027 0 0) 7182 c = gi (si N4 6027 0 0) 7438 c ↔ bit (cwf (nI j) 64) c = 0) := by
      intro c hc
      rw [giR _ _ _ _ _ _ (by decide), giR _ _ _ _ _ _ (by decide), (hf c hc).2.2.2, f.1 7438 (by decide) (by decide) (by decide) (by decide), wh3 c hc]
      have s1 := sb_one (G := gl N3) (a := 7003) (c := c) (d := d) hc hd (fun e he q => by rw [(g3 e he).1, if_neg q]) 8 (by decide)
      have s2 := sb_one (G := gl N3) (a := 7067) (c := c) (d := d) hc hd (fun e he q => by rw [(g3 e he).2, if_neg q]) 8 (by decide)
      rw [if_pos hd, (g3 d hd).1, if_pos rfl] at s1
      rw [if_pos hd, (g3 d hd).2, if_pos rfl] at s2
      rw [s1, s2]
      rcases ha with rfl | rfl
      · show hv (bit (if (0 : Int32) = 1 then cwf (nI j) 64 else 0) c) (bit (if (0 : Int32) = 1 then 0 else cwf (nI j) 64) c) = -4 ↔ _
        rw [if_neg (by decide), if_neg (by decide), bit0 hc]; exact hvN
      · show hv (bit (if (1 : Int32) = 1 then cwf (nI j) 64 else 0) c) (bit (if (1 : Int32) = 1 then 0 else cwf (nI j) 64) c) = -4 ↔ _
        rw [if_pos rfl, if_pos rfl, bit0 hc]; exact hvY
    rw [f5, cnt_cb H 64 (by decide), cb_ct j hj]
    refine h N5 ⟨mr_w m4 f4, fun i hi => ?_, ?_, fun e he q => ?_, fun c hc => ?_⟩
    · rw [f1 6543 (by decide), giR _ _ _ _ _ _ (by decide), f.1 6543 (by decide) (by decide) (by decide) (by decide)]; exact r3 i hi
    · rw [f2 0 (by decide) (by decide), gi_si, if_pos ⟨rfl, rfl⟩]
    · rw [f3]
      show gl N4 7003 e = 0 ∧ gl N4 7067 e = 0
      rw [f.2.1, (g3 e he).1, (g3 e he).2, if_neg q, if_neg q]; exact ⟨rfl, rfl⟩
    · rw [f1 7438 (by decide), giR _ _ _ _ _ _ (by decide), f.1 7438 (by decide) (by decide) (by decide) (by decide)]; exact wh3 c hc
  refine call_of rfl (Nat.le_of_ble_eq_true rfl) rfl (vM_turnsBy_0 rfl (mr1 hm) ?_)
  rw [hz]
  refine ⟨vin (i := 0) (by decide) (by decide), vin (i := 1) (by decide) (by decide), vin (i := 2) (by decide) (by decide), vin (i := 3) (by decide) (by decide), vin (i := 4) (by decide) (by decide), vin (i := 5) (by decide) (by decide), vin (i := 6) (by decide) (by decide), vin (i := 7) (by decide) (by decide), tail _ ?_ rfl⟩
  have i0 : ((10 : Int32) * 0).toNatClampNeg = 0 := rfl
  have i1 : ((10 : Int32) * 0 + 1).toNatClampNeg = 1 := rfl
  have i2 : ((10 : Int32) * 0 + 2).toNatClampNeg = 2 := rfl
  have i3 : ((10 : Int32) * 0 + 3).toNatClampNeg = 3 := rfl
  have i4 : ((10 : Int32) * 0 + 4).toNatClampNeg = 4 := rfl
  have i5 : ((10 : Int32) * 0 + 5).toNatClampNeg = 5 := rfl
  have i6 : ((10 : Int32) * 0 + 6).toNatClampNeg = 6 := rfl
  have i7 : ((10 : Int32) * 0 + 7).toNatClampNeg = 7 := rfl
  rw [i0, i1, i2, i3, i4, i5, i6, i7]
  refine ⟨hm, fun i hi => ?_, ?_, ?_, ?_, ?_, ?_, ?_, ?_, fun c hc => ?_⟩
  · simp only [gi_si]; simp [hr i hi]
  · simp only [gi_si]; simp [hz]
  · simp only [gi_si]; simp
  · simp only [gi_si]; simp
  · simp only [gi_si]; simp
  · simp only [gi_si]; simp
  · simp only [gi_si]; simp
  · simp only [gi_si]; simp
  · simp only [gi_si]; simp [hw c hc]
