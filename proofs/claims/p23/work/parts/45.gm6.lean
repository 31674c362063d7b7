/-! ===== the reference at any state: words found ===== -/
/-- what a query may change -/
def QF (W : Nat) (M N : Mm) : Prop := gr N = gr M ∧ (∀ a, ¬ (a = 7310 ∨ a = 7374 ∨ a = 7246 ∨ a = 7182 ∨ a = 7438 ∨ a = 7502 ∨ a = 7582 ∨ a = 6101 ∨ a = 6027) → gi N a = gi M a) ∧ (∀ k, k < 10 * W → gi N 6101 k = gi M 6101 k) ∧ (∀ k, ¬ (k = 35 ∨ k = 36 ∨ k = 39) → gi N 6027 k = gi M 6027 k) ∧ ∀ a k, ¬ (a = 7131 ∨ a = 7003 ∨ a = 7067) → ¬ ((a = 6874 ∨ a = 6938) ∧ k = W) → gl N a k = gl M a k
section QFS
variable {M N O : Mm} {W : Nat}
theorem qf_rf (W : Nat) (M : Mm) : QF W M M := ⟨rfl, fun _ _ => rfl, fun _ _ => rfl, fun _ _ => rfl, fun _ _ _ _ => rfl⟩
theorem qf_tr (f : QF W M N) (g : QF W N O) : QF W M O := ⟨g.1.trans f.1, fun a h => (g.2.1 a h).trans (f.2.1 a h), fun k h => (g.2.2.1 k h).trans (f.2.2.1 k h), fun k h => (g.2.2.2.1 k h).trans (f.2.2.2.1 k h), fun a k h i => (g.2.2.2.2 a k h i).trans (f.2.2.2.2 a k h i)⟩
theorem qf_sm (f : QF W M N) : SM W M N := ⟨f.1, f.2.2.1, f.2.1 _ (by decide), f.2.1 _ (by decide), f.2.2.2.1 _ (by decide), f.2.2.2.1 _ (by decide), f.2.2.2.1 _ (by decide), fun k hk => f.2.2.2.2 _ _ (by decide) (fun q => by omega), fun k hk => f.2.2.2.2 _ _ (by decide) (fun q => by omega)⟩
theorem qf_af (f : AF M N) : QF W M N := by
  have k : ∀ a, a ≠ 7310 → a ≠ 7374 → a ≠ 7246 → a ≠ 7182 → gi N a = gi M a := f.1
  refine ⟨f.2.1, fun a h => k a (fun e => h (by omega)) (fun e => h (by omega)) (fun e => h (by omega)) (fun e => h (by omega)), fun i _ => ?_, fun i _ => ?_, fun a i h _ => f.2.2 a i h⟩
  · rw [k 6101 (by decide) (by decide) (by decide) (by decide)]
  · rw [k 6027 (by decide) (by decide) (by decide) (by decide)]
theorem qf_row {n : Nat} {g : Nat → Int32} : QF W M (rwm M 7438 n g) := by
  refine ⟨rfl, fun a h => ?_, fun k _ => ?_, fun k _ => ?_, fun _ _ _ _ => rfl⟩
  · funext k; exact rwmR _ _ _ _ _ _ (fun e => h (by omega))
  · exact rwmR _ _ _ _ _ _ (by decide)
  · exact rwmR _ _ _ _ _ _ (by decide)
theorem qf_sl {a k : Nat} {v : Int64} (h : a = 7131 ∨ a = 7003 ∨ a = 7067) : QF W M (sl M a k v) :=
  ⟨rfl, fun _ _ => rfl, fun _ _ => rfl, fun _ _ => rfl, fun b i n _ => by rw [gl_sl, if_neg (fun e => n (by rw [e.1]; exact h))]⟩
theorem qf_ch (h1 : ∀ a, a ≠ 6027 → gi N a = gi M a) (h2 : ∀ j, j ≠ 35 → j ≠ 36 → gi N 6027 j = gi M 6027 j) (h3 : gl N = gl M) (h4 : gr N = gr M) : QF W M N :=
  ⟨h4, fun a h => h1 a (fun e => h (by omega)), fun k _ => by rw [h1 6101 (by decide)], fun k h => h2 k (fun e => h (by omega)) (fun e => h (by omega)), fun _ _ _ _ => by rw [h3]⟩
end QFS
def cwi (m n : Int32) : Nat → Int64
  | 0 => 0
  | c + 1 => cwi m n c ||| (if (nI c &&& m) = m ∧ (nI c &&& n) = 0 then ((1 : Int64) <<< ((nI c).toInt64 &&& 63)) else 0)
theorem sM_casesWith {M : Mm} {m n : Int32} {K : Int64 → Mm → Prop} (h : K (cwi m n 64) M) : CJ mM_casesWith [.ref 6027, .int m, .int n] M K := by
  refine call_of rfl (Nat.le_of_ble_eq_true rfl) rfl (x_loc [1, 2] rfl (vM_casesWith_0 ?_))
  have key := lp 64 (P := fun c => X mM_casesWith 5 [(1, .int m), (2, .int n), (3, .long (cwi m n c)), (5, .int (nI c))] [] M (mC mM_casesWith, mS mM_casesWith) (QJ K)) (fun c hc ih => ?_) ?_
  · exact key
  · have nq := nge (c := 64) (i := c) (n := 64) rfl (by decide) hc
    rw [cwi] at ih
    refine vM_casesWith_5 ⟨fun q => absurd q nq, fun q => vM_casesWith_36 ?_, fun q => vM_casesWith_36 ?_⟩
    · have q1 : ¬ ((nI c &&& m) = m ∧ (nI c &&& n) = 0) := by
        rcases q with q | q
        · exact fun p => q.2 p.1
        · exact fun p => q.2.2 p.2
      rw [if_neg q1] at ih
      rw [nI_s]; exact ih
    · rw [if_pos q.2] at ih
      rw [nI_s]; exact ih
  · refine vM_casesWith_5 ⟨fun _ => h, fun q => ?_, fun q => absurd (nself rfl) q.1⟩
    rcases q with q | q <;> exact absurd (nself rfl) q.1
/-- what a word follows -/
def fos (M : Mm) (w : Nat) : Nat → Int32
  | 0 => 0
  | v + 1 => fos M w v ||| (if wd M v 1 = wd M w 1 ∧ ¬ wd M v 0 = 3 then ((1 : Int32) <<< (nI v &&& 31)) else 0)
def fow (M : Mm) (w : Nat) : Int32 := if wd M w 0 = 4 then fos M w w else if wd M w 6 = -4 then 0 else (1 : Int32) <<< (wd M w 6 &&& 31)
theorem sM_followed {M : Mm} {w : Nat} {K : Int32 → Mm → Prop} (hm : MR M) (hw : w < 25) (h : K (fow M w) M) : CI mM_followed [.ref 6027, .int (nI w)] M K := by
  refine call_of rfl (Nat.le_of_ble_eq_true rfl) rfl (vM_followed_0 rfl (sM_of (k := 0) hm hw rfl (by decide) (vM_followed_6 rfl ⟨fun q => ?_, fun q => sM_of (k := 6) hm hw rfl (by decide) (vM_followed_17 rfl ⟨fun p => sM_of (k := 6) hm hw rfl (by decide) (vM_followed_34 ?_), fun p => ?_⟩)⟩)))
  · rw [fow, if_pos q] at h
    have key := lp w (P := fun v => X mM_followed 40 [(0, .ref 6027), (1, .int (nI w)), (2, .int (fos M w v)), (3, .int (nI v))] [] M (mC mM_followed, mS mM_followed) (QI K)) (fun v hv ih => ?_) ?_
    · exact key
    · have hv2 : v < 25 := by omega
      rw [fos] at ih
      refine vM_followed_40 rfl ⟨fun p => absurd p (nge rfl (by omega) hv), fun _ => sM_of (k := 1) hm hv2 rfl (by decide) (vM_followed_52 rfl (sM_of (k := 1) hm hw rfl (by decide) (vM_followed_58 rfl ⟨fun p => vM_followed_77 (vM_followed_78 ?_), fun p => sM_of (k := 0) hm hv2 rfl (by decide) (vM_followed_67 ⟨fun p2 => vM_followed_77 (vM_followed_78 ?_), fun p2 => vM_followed_78 ?_⟩)⟩)))⟩
      · rw [if_neg (fun n => p n.1)] at ih; rw [nI_s]; exact ih
      · rw [if_neg (fun n => n.2 p2)] at ih; rw [nI_s]; exact ih
      · rw [if_pos ⟨p, p2⟩] at ih; rw [nI_s]; exact ih
    · exact vM_followed_40 rfl ⟨fun _ => h, fun p => absurd (Int32.le_refl _) p⟩
  · rwa [fow, if_neg q, if_neg p] at h
  · rwa [fow, if_neg q, if_pos p] at h
/-- yes and no of what a like follows -/
def swb (x : Int64) (m : Int32) : Int32 := if ((x >>> (m.toInt64 &&& 63)) &&& 1) = 1 then 1 else 0
def swl (M : Mm) (w : Nat) : Nat → Int32 × Int32
  | 0 => (0, 0)
  | v + 1 => if ((fow M w >>> (nI v &&& 31)) &&& 1) = 1 then (if (swl M w v).1 = 0 then swb (gl M 6874 v) (wd M w 3) else 1, if (swl M w v).2 = 0 then swb (gl M 6938 v) (wd M w 3) else 1) else swl M w v
def swv (M : Mm) (w : Nat) : Int64 × Int64 := if wd M w 0 = 0 ∨ wd M w 0 = 5 then (if wd M w 5 = 1 then cwi (wd M w 3) (wd M w 4) 64 else 0, if wd M w 5 = 1 then 0 else cwi (wd M w 3) (wd M w 4) 64) else
  if wd M w 0 = 4 then (if ¬ (swl M w w).1 = 0 ∧ (swl M w w).2 = 0 then cwi (wd M w 3) 0 64 else 0, if ¬ (swl M w w).2 = 0 ∧ (swl M w w).1 = 0 then cwi (wd M w 3) 0 64 else 0) else
  (if wd M w 0 = 2 then gl M 6938 (wd M w 6).toNatClampNeg else gl M 6874 (wd M w 6).toNatClampNeg, if wd M w 0 = 2 then gl M 6874 (wd M w 6).toNatClampNeg else gl M 6938 (wd M w 6).toNatClampNeg)
theorem sM_sayWord {M : Mm} {w : Nat} {K : Mm → Prop} (hm : MR M) (hw : w < 25) (hf : ¬ wd M w 0 = 0 → ¬ wd M w 0 = 4 → ¬ wd M w 0 = 5 → ∃ f, f < 25 ∧ f ≠ w ∧ wd M w 6 = nI f) (h : K (sl (sl M 6874 w (swv M w).1) 6938 w (swv M w).2)) : CV mM_sayWord [.ref 6027, .int (nI w)] M K := by
  have nn : (nI w).toNatClampNeg = w := ncl (by omega)
  refine call_of rfl (Nat.le_of_ble_eq_true rfl) rfl (vM_sayWord_0 rfl (sM_of (k := 0) hm hw rfl (by decide) (vM_sayWord_6 rfl ⟨fun q => ?_, fun q => ?_, fun q => ?_⟩)))
  · have q' : wd M w 0 = 0 ∨ wd M w 0 = 5 := q.imp id (fun q => q.2)
    rw [swv, if_pos q'] at h
    refine sM_of (k := 3) hm hw rfl (by decide) (vM_sayWord_23 rfl (sM_of (k := 4) hm hw rfl (by decide) (vM_sayWord_29 rfl (sM_casesWith (vM_sayWord_32 rfl (mr25 hm) (sM_of (k := 5) hm hw rfl (by decide) (vM_sayWord_44 rfl rfl (mr26 hm) ⟨vin hw (by decide), ?_⟩)))))))
    rw [nn]
    refine sM_of (k := 5) (mr_w hm rfl) hw rfl (by decide) (vM_sayWord_65 rfl ⟨vin hw (by decide), ?_⟩)
    rw [nn]; exact h
  · obtain ⟨f, hf1, hf2, e⟩ := hf q.1 q.2.2 q.2.1
    rw [swv, if_neg (fun n => n.elim q.1 q.2.1), if_neg q.2.2, e, ncl (by omega)] at h
    refine sM_of (k := 6) hm hw rfl (by decide) ?_
    rw [e]
    refine vM_sayWord_246 rfl (mr25 hm) (mr26 hm) ⟨fun _ => vin hf1 (by decide), fun _ => vin hf1 (by decide), vin hw (by decide), fun _ => vin hf1 (by decide), fun _ => vin hf1 (by decide), vin hw (by decide), ?_⟩
    have g1 : ∀ x, gl (sl M 6874 w x) 6874 f = gl M 6874 f := fun x => by rw [gl_sl, if_neg (fun n => hf2 n.2)]
    have g2 : ∀ x, gl (sl M 6874 w x) 6938 f = gl M 6938 f := fun x => by rw [gl_sl, if_neg (fun n => absurd n.1 (by decide))]
    rw [nn, ncl (show f < 2 ^ 31 by omega), g1, g2]
    exact h
  · rw [swv, if_neg (fun n => n.elim q.1 q.2.1), if_pos q.2.2] at h
    have key := lp w (P := fun v => X mM_sayWord 91 [(0, .ref 6027), (1, .int (nI w)), (3, .int (swl M w v).1), (4, .int (swl M w v).2), (5, .int (nI v))] [] M (mC mM_sayWord, mS mM_sayWord) (QV K)) (fun v hv ih => ?_) ?_
    · exact key
    · have hv2 : v < 25 := by omega
      have nv : (nI v).toNatClampNeg = v := ncl (by omega)
      rw [swl] at ih
      have b141 : ((fow M w >>> (nI v &&& 31)) &&& 1) = 1 → ∀ x, x = (if (swl M w v).1 = 0 then swb (gl M 6874 v) (wd M w 3) else 1) → X mM_sayWord 141 [(0, .ref 6027), (1, .int (nI w)), (4, .int (swl M w v).2), (5, .int (nI v))] [.int x] M (mC mM_sayWord, mS mM_sayWord) (QV K) := by
        rintro p x rfl
        rw [if_pos p] at ih
        have b173 : ∀ y, y = (if (swl M w v).2 = 0 then swb (gl M 6938 v) (wd M w 3) else 1) → X mM_sayWord 173 [(0, .ref 6027), (1, .int (nI w)), (3, .int (if (swl M w v).1 = 0 then swb (gl M 6874 v) (wd M w 3) else 1)), (5, .int (nI v))] [.int y] M (mC mM_sayWord, mS mM_sayWord) (QV K) := by
          rintro y rfl
          refine vM_sayWord_173 ?_
          rw [nI_s]; exact ih
        refine vM_sayWord_141 rfl (mr26 hm) ⟨fun _ => vin hv2 (by decide), fun r => vM_sayWord_168 (b173 1 (by rw [if_neg r])), fun r => sM_of (k := 3) hm hw rfl (by decide) (vM_sayWord_160 ⟨fun t => b173 0 ?_, fun t => vM_sayWord_168 (b173 1 ?_)⟩)⟩
        · rw [nv] at t; rw [if_pos r, swb, if_neg t]
        · rw [nv] at t; rw [if_pos r, swb, if_pos t]
      refine vM_sayWord_91 rfl ⟨fun p => absurd p (nge rfl (by omega) hv), fun _ => sM_followed hm hw (vM_sayWord_102 rfl (mr25 hm) ⟨fun _ => vin hv2 (by decide), fun p => ?_, fun p => vM_sayWord_136 (b141 p.1 1 (by rw [if_neg p.2])), fun p => sM_of (k := 3) hm hw rfl (by decide) (vM_sayWord_128 ⟨fun t => b141 p.1 0 ?_, fun t => vM_sayWord_136 (b141 p.1 1 ?_)⟩)⟩)⟩
      · rw [if_neg p] at ih; rw [nI_s]; exact ih
      · rw [nv] at t; rw [if_pos p.2, swb, if_neg t]
      · rw [nv] at t; rw [if_pos p.2, swb, if_pos t]
    · refine vM_sayWord_91 rfl ⟨fun _ => sM_of (k := 3) hm hw rfl (by decide) (vM_sayWord_188 rfl (sM_casesWith (vM_sayWord_192 rfl (mr25 hm) ⟨fun p => ?_, fun p => ?_⟩))), fun p => absurd (Int32.le_refl _) p⟩
      all_goals refine vM_sayWord_214 rfl rfl (mr26 hm) ⟨vin hw (by decide), fun r => vM_sayWord_235 rfl ⟨vin hw (by decide), ?_⟩, fun r => vM_sayWord_235 rfl ⟨vin hw (by decide), ?_⟩⟩
      all_goals rw [nn]
      · have p' : ¬ (¬ (swl M w w).1 = 0 ∧ (swl M w w).2 = 0) := fun n => p.elim n.1 (fun p => p.2 n.2)
        have r' : ¬ (¬ (swl M w w).2 = 0 ∧ (swl M w w).1 = 0) := fun n => r.elim n.1 (fun r => r.2 n.2)
        rw [if_neg p', if_neg r'] at h; exact h
      · have p' : ¬ (¬ (swl M w w).1 = 0 ∧ (swl M w w).2 = 0) := fun n => p.elim n.1 (fun p => p.2 n.2)
        rw [if_neg p', if_pos r] at h; exact h
      · have r' : ¬ (¬ (swl M w w).2 = 0 ∧ (swl M w w).1 = 0) := fun n => r.elim n.1 (fun r => r.2 n.2)
        rw [if_pos p, if_neg r'] at h; exact h
      · exact absurd p.2 r.1
