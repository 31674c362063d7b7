/-! ===== the reference at any state: findOne, findEach, findHeld, findAll ===== -/
def fyn (M : Mm) (d : Int32) : Nat → Int64 × Int64
  | 0 => (0, 0)
  | i + 1 => if wd M i 1 = d ∧ ¬ cw M i = 0 then ((fyn M d i).1 ||| gl M 6874 i, (fyn M d i).2 ||| gl M 6938 i) else fyn M d i
def clv (M : Mm) (W : Nat) (d : Int32) : Int64 := (fyn M d W).1 &&& (fyn M d W).2
def eyv (M : Mm) (W : Nat) (d : Int32) : Nat → Int64
  | 0 => (fyn M d W).1 &&& ((fyn M d W).2 ^^^ (-1))
  | c + 1 => if ((clv M W d >>> ((nI c).toInt64 &&& 63)) &&& 1) = 1 then eyv M W d c ||| (if o2 M W d (nI c) = 1 then ((1 : Int64) <<< ((nI c).toInt64 &&& 63)) else 0) else eyv M W d c
def enw (M : Mm) (W : Nat) (d : Int32) : Nat → Int64
  | 0 => (fyn M d W).2 &&& ((fyn M d W).1 ^^^ (-1))
  | c + 1 => if ((clv M W d >>> ((nI c).toInt64 &&& 63)) &&& 1) = 1 then enw M W d c ||| (if o2 M W d (nI c) = 0 then ((1 : Int64) <<< ((nI c).toInt64 &&& 63)) else 0) else enw M W d c
section SMS
variable {M N : Mm} {W : Nat}
theorem fyn_sm (s : SM W M N) (d : Int32) : ∀ i, i ≤ W → fyn N d i = fyn M d i
  | 0, _ => rfl
  | i + 1, hi => by rw [fyn, fyn, fyn_sm s d i (by omega), wd_sm s (show i < W from hi) (by decide), cw_sm s (show i < W from hi), s.2.2.2.2.2.2.2.1 i hi, s.2.2.2.2.2.2.2.2 i hi]
theorem clv_sm (s : SM W M N) (d : Int32) : clv N W d = clv M W d := by unfold clv; rw [fyn_sm s d W (Nat.le_refl W)]
theorem eyv_sm (s : SM W M N) (j : JW M W) (d : Int32) : ∀ c, eyv N W d c = eyv M W d c
  | 0 => by rw [eyv, eyv, fyn_sm s d W (Nat.le_refl W)]
  | c + 1 => by rw [eyv, eyv, eyv_sm s j d c, clv_sm s, o2_sm s j]
theorem enw_sm (s : SM W M N) (j : JW M W) (d : Int32) : ∀ c, enw N W d c = enw M W d c
  | 0 => by rw [enw, enw, fyn_sm s d W (Nat.le_refl W)]
  | c + 1 => by rw [enw, enw, enw_sm s j d c, clv_sm s, o2_sm s j]
end SMS
/-- one doctor's three rows alone change -/
def OF (d : Nat) (M N : Mm) : Prop := gi N = gi M ∧ gr N = gr M ∧ ∀ a j, ¬ ((a = 7131 ∨ a = 7003 ∨ a = 7067) ∧ j = d) → gl N a j = gl M a j
theorem of_rf (d : Nat) (M : Mm) : OF d M M := ⟨rfl, rfl, fun _ _ _ => rfl⟩
theorem of_sl {d a : Nat} {M N : Mm} {v : Int64} (f : OF d M N) (h : a = 7131 ∨ a = 7003 ∨ a = 7067) : OF d M (sl N a d v) := by
  refine ⟨f.1, f.2.1, fun b j q => ?_⟩
  rw [gl_sl, if_neg (fun e => q ⟨by rw [e.1]; exact h, e.2⟩)]
  exact f.2.2 b j q
theorem of_sm {W d : Nat} {M N : Mm} (f : OF d M N) : SM W M N := by
  refine ⟨f.2.1, fun _ _ => by rw [f.1], by rw [f.1], by rw [f.1], by rw [f.1], by rw [f.1], by rw [f.1], fun k _ => ?_, fun k _ => ?_⟩
  · exact f.2.2 _ _ (fun q => absurd q.1 (by decide))
  · exact f.2.2 _ _ (fun q => absurd q.1 (by decide))
theorem sM_findOne {M : Mm} {W d : Nat} {K : Mm → Prop} (j : JW M W) (hd : d < 8) (h : ∀ N, OF d M N → gl N 7131 d = clv M W (nI d) → gl N 7003 d = eyv M W (nI d) 64 → gl N 7067 d = enw M W (nI d) 64 → K N) : CV mM_findOne [.ref 6027, .int (nI d)] M K := by
  have jj := j
  obtain ⟨hm, hW, hW2, hw⟩ := j
  refine call_of rfl (Nat.le_of_ble_eq_true rfl) rfl (vM_findOne_0 ?_)
  have key := lp W (P := fun i => X mM_findOne 8 [(0, .ref 6027), (1, .int (nI d)), (2, .long (fyn M (nI d) i).1), (4, .long (fyn M (nI d) i).2), (6, .int (nI i))] [] M (mC mM_findOne, mS mM_findOne) (QV K)) (fun i hi ih => ?_) ?_
  · exact key
  · obtain ⟨⟨b, hb, eb⟩, hc⟩ := hw i hi
    have hi2 : i < 25 := by omega
    have nW : ¬ gi M 6027 0 ≤ nI i := by rw [hW]; exact nge rfl (by omega) hi
    refine vM_findOne_8 rfl (mr29 hm) (mr27 hm) (mr28 hm) ⟨fun q => absurd q nW, fun _ => sM_of (k := 1) hm hi2 rfl (by decide) (vM_findOne_24 rfl ⟨fun p => ?_, fun p => sM_counts hm hi2 eb hb (vM_findOne_34 rfl (mr25 hm) (mr26 hm) ⟨fun _ => vin hi2 (by decide), fun p2 => ?_, fun p2 => ⟨vin hi2 (by decide), ?_⟩⟩)⟩)⟩
    · have e : fyn M (nI d) (i + 1) = fyn M (nI d) i := by rw [fyn, if_neg (fun n => p n.1)]
      rw [e] at ih
      rw [nI_s]; exact ih
    · have e : fyn M (nI d) (i + 1) = fyn M (nI d) i := by rw [fyn, if_neg (fun n => n.2 p2)]
      rw [e] at ih
      rw [nI_s]; exact ih
    · have e : fyn M (nI d) (i + 1) = ((fyn M (nI d) i).1 ||| gl M 6874 i, (fyn M (nI d) i).2 ||| gl M 6938 i) := by rw [fyn, if_pos ⟨p, p2⟩]
      rw [e] at ih
      rw [nI_s, ncl (by omega)]; exact ih
  · refine vM_findOne_8 rfl (mr29 hm) (mr27 hm) (mr28 hm) ⟨fun _ => ⟨vin hd (by decide), vin hd (by decide), vin hd (by decide), ?_⟩, fun q => absurd (by rw [hW]; exact nself rfl) q⟩
    rw [ncl (by omega)]
    have k2 := lp 64 (P := fun c => ∀ N, OF d M N → gl N 7131 d = clv M W (nI d) → gl N 7003 d = eyv M W (nI d) c → gl N 7067 d = enw M W (nI d) c → X mM_findOne 106 [(0, .ref 6027), (1, .int (nI d)), (6, .int (nI c))] [] N (mC mM_findOne, mS mM_findOne) (QV K)) (fun c hc ih N f h1 h2 h3 => ?_) (fun N f h1 h2 h3 => ?_)
    · refine k2 _ (of_sl (of_sl (of_sl (of_rf d M) (Or.inl rfl)) (Or.inr (Or.inl rfl))) (Or.inr (Or.inr rfl))) ?_ ?_ ?_
      · rw [gl_sl, if_neg (by simp), gl_sl, if_neg (by simp), gl_sl, if_pos ⟨rfl, rfl⟩]; rfl
      · rw [gl_sl, if_neg (by simp), gl_sl, if_pos ⟨rfl, rfl⟩]; rfl
      · rw [gl_sl, if_pos ⟨rfl, rfl⟩]; rfl
    · have s := of_sm (W := W) f
      have hmN := mr_w hm f.2.1
      refine vM_findOne_106 rfl (mr29 hmN) ⟨fun _ => vin hd (by decide), fun q => absurd q (nge rfl (by decide) hc), fun q => ?_, fun q => sM_ofTwo (jw_sm s jj) (vM_findOne_136 rfl (mr27 hmN) (mr28 hmN) ⟨vin hd (by decide), vin hd (by decide), vin hd (by decide), vin hd (by decide), ?_⟩)⟩
      · have q2 := q.2
        rw [ncl (show d < 2 ^ 31 by omega), h1] at q2
        rw [nI_s]
        refine ih N f h1 ?_ ?_
        · rw [eyv, if_neg q2]; exact h2
        · rw [enw, if_neg q2]; exact h3
      · have q2 := q.2
        rw [ncl (show d < 2 ^ 31 by omega), h1] at q2
        rw [nI_s, ncl (show d < 2 ^ 31 by omega), o2_sm s jj]
        refine ih _ (of_sl (of_sl f (Or.inr (Or.inl rfl))) (Or.inr (Or.inr rfl))) ?_ ?_ ?_
        · rw [gl_sl, if_neg (by simp), gl_sl, if_neg (by simp)]; exact h1
        · rw [gl_sl, if_neg (by simp), gl_sl, if_pos ⟨rfl, rfl⟩, h2, eyv, if_pos q2]
        · rw [gl_sl, if_pos ⟨rfl, rfl⟩, gl_sl, if_neg (by simp), h3, enw, if_pos q2]
    · have hmN := mr_w hm f.2.1
      exact vM_findOne_106 rfl (mr29 hmN) ⟨fun q => absurd (nself rfl) q, fun _ => h N f h1 h2 h3, fun q => absurd (nself rfl) q.1, fun q => absurd (nself rfl) q.1⟩
/-- the doctors' rows alone change -/
def EF (M N : Mm) : Prop := gi N = gi M ∧ gr N = gr M ∧ ∀ a j, ¬ (a = 7131 ∨ a = 7003 ∨ a = 7067) → gl N a j = gl M a j
theorem ef_rf (M : Mm) : EF M M := ⟨rfl, rfl, fun _ _ _ => rfl⟩
theorem ef_of {d : Nat} {M N O : Mm} (e : EF M N) (f : OF d N O) : EF M O := ⟨f.1.trans e.1, f.2.1.trans e.2.1, fun a j q => (f.2.2 a j (fun p => q p.1)).trans (e.2.2 a j q)⟩
theorem ef_sm {W : Nat} {M N : Mm} (f : EF M N) : SM W M N :=
  ⟨f.2.1, fun _ _ => by rw [f.1], by rw [f.1], by rw [f.1], by rw [f.1], by rw [f.1], by rw [f.1], fun k _ => f.2.2 _ _ (by decide), fun k _ => f.2.2 _ _ (by decide)⟩
/-- the doctors' rows are what the words make of them -/
def EV (M : Mm) (W : Nat) (N : Mm) (d : Nat) : Prop := gl N 7131 d = clv M W (nI d) ∧ gl N 7003 d = eyv M W (nI d) 64 ∧ gl N 7067 d = enw M W (nI d) 64
theorem sM_findEach {M : Mm} {W : Nat} {K : Mm → Prop} (j : JW M W) (h : ∀ N, EF M N → (∀ d, d < 8 → EV M W N d) → K N) : CV mM_findEach [.ref 6027] M K := by
  refine call_of rfl (Nat.le_of_ble_eq_true rfl) rfl (vM_findEach_0 ?_)
  have key := lp 8 (P := fun d => ∀ N, EF M N → (∀ e, e < d → EV M W N e) → X mM_findEach 2 [(0, .ref 6027), (1, .int (nI d))] [] N (mC mM_findEach, mS mM_findEach) (QV K)) (fun d hd ih N f hv => ?_) (fun N f hv => ?_)
  · exact key M (ef_rf M) (fun e he => absurd he (Nat.not_lt_zero e))
  · have s := ef_sm (W := W) f
    refine vM_findEach_2 rfl ⟨fun q => absurd q (nge rfl (by decide) hd), fun _ => sM_findOne (jw_sm s j) hd (fun O f2 h1 h2 h3 => vM_findEach_13 ?_)⟩
    rw [nI_s]
    refine ih O (ef_of f f2) (fun e he => ?_)
    by_cases q : e = d
    · subst q
      exact ⟨h1.trans (clv_sm s _), h2.trans (eyv_sm s j _ _), h3.trans (enw_sm s j _ _)⟩
    · obtain ⟨a, b, c⟩ := hv e (by omega)
      exact ⟨(f2.2.2 _ _ (fun p => q p.2)).trans a, (f2.2.2 _ _ (fun p => q p.2)).trans b, (f2.2.2 _ _ (fun p => q p.2)).trans c⟩
  · exact vM_findEach_2 rfl ⟨fun _ => h N f hv, fun q => absurd (nself rfl) q⟩
/-- how many of the first e doctors' rows have the bit c -/
def sb (G : Nat → Nat → Int64) (a c : Nat) : Nat → Int32
  | 0 => 0
  | e + 1 => sb G a c e + (((G a e) >>> ((nI c).toInt64 &&& 63)) &&& 1).toInt32
def hdv (M : Mm) (c : Nat) : Int32 := if gi M 6543 4 = -4 then -4 else td (gl M 7003 (gi M 6543 4).toNatClampNeg) (gl M 7067 (gi M 6543 4).toNatClampNeg) (nI c)
def byf (l y n hd si : Int32) : Int32 := if l = -4 then (if y = n then (if hd = -4 then (if si = -4 then 0 else 4) else 3) else 2) else 1
def hef (l y n hd si : Int32) : Int32 := if byf l y n hd si = 1 then l else if byf l y n hd si = 2 then (if y ≤ n then 0 else 1) else if byf l y n hd si = 3 then hd else si
def byv (M : Mm) (W c : Nat) : Int32 := byf (laV M W (nI c)) (sb (gl M) 7003 c 8) (sb (gl M) 7067 c 8) (hdv M c) (gi M 6543 5)
def hev (M : Mm) (W c : Nat) : Int32 := hef (laV M W (nI c)) (sb (gl M) 7003 c 8) (sb (gl M) 7067 c 8) (hdv M c) (gi M 6543 5)
def FR (M N : Mm) : Prop := (∀ a, a ≠ 7310 → a ≠ 7374 → a ≠ 7246 → a ≠ 7182 → gi N a = gi M a) ∧ gl N = gl M ∧ gr N = gr M
def HF (M : Mm) (W : Nat) (N : Mm) (c : Nat) : Prop := gi N 7310 c = sb (gl M) 7003 c 8 ∧ gi N 7374 c = sb (gl M) 7067 c 8 ∧ gi N 7246 c = byv M W c ∧ gi N 7182 c = hev M W c
theorem fr_si {M N : Mm} {a j : Nat} {v : Int32} (f : FR M N) (h : a = 7310 ∨ a = 7374 ∨ a = 7246 ∨ a = 7182) : FR M (si N a j v) := by
  refine ⟨fun b h1 h2 h3 h4 => ?_, f.2.1, f.2.2⟩
  rw [← f.1 b h1 h2 h3 h4]
  funext k
  rw [giR]
  rcases h with rfl | rfl | rfl | rfl
  · exact h1
  · exact h2
  · exact h3
  · exact h4
theorem fr_sm {W : Nat} {M N : Mm} (f : FR M N) : SM W M N := by
  have k : ∀ a, a ≠ 7310 → a ≠ 7374 → a ≠ 7246 → a ≠ 7182 → gi N a = gi M a := f.1
  have k6 := k 6027 (by decide) (by decide) (by decide) (by decide)
  exact ⟨f.2.2, fun _ _ => by rw [k 6101 (by decide) (by decide) (by decide) (by decide)], k _ (by decide) (by decide) (by decide) (by decide), k _ (by decide) (by decide) (by decide) (by decide), by rw [k6], by rw [k6], by rw [k6], fun _ _ => by rw [f.2.1], fun _ _ => by rw [f.2.1]⟩
theorem hf_si {M N : Mm} {W c e a : Nat} {v : Int32} (h : HF M W N e) (hne : e ≠ c) : HF M W (si N a c v) e := by
  unfold HF at h ⊢
  have k : ∀ b, gi (si N a c v) b e = gi N b e := fun b => by rw [gi_si, if_neg (fun q => hne q.2)]
  rw [k, k, k, k]; exact h
/-- the head is nobody, or a doctor -/
def HD (M : Mm) : Prop := gi M 6543 4 = -4 ∨ ∃ e, e < 8 ∧ gi M 6543 4 = nI e
theorem sM_findHeld {M : Mm} {W : Nat} {K : Mm → Prop} (j : JW M W) (hh : HD M) (h : ∀ N, FR M N → (∀ c, c < 64 → HF M W N c) → K N) : CV mM_findHeld [.ref 6027] M K := by
  refine call_of rfl (Nat.le_of_ble_eq_true rfl) rfl (vM_findHeld_0 ?_)
  have key := lp 64 (P := fun c => ∀ N, FR M N → (∀ e, e < c → HF M W N e) → X mM_findHeld 2 [(0, .ref 6027), (1, .int (nI c))] [] N (mC mM_findHeld, mS mM_findHeld) (QV K)) (fun c hc ih N f hf => ?_) (fun N f hf => ?_)
  · exact key M ⟨fun _ _ _ _ _ => rfl, rfl, rfl⟩ (fun e he => absurd he (Nat.not_lt_zero e))
  · have hm := mr_w j.1 f.2.2
    refine vM_findHeld_2 rfl (mr32 hm) (mr33 hm) ⟨fun q => absurd q (nge rfl (by decide) hc), fun _ => ⟨vin hc (by decide), vin hc (by decide), ?_⟩⟩
    rw [ncl (by omega)]
    have k2 := lp 8 (P := fun d => ∀ N, FR M N → (∀ e, e < c → HF M W N e) → gi N 7310 c = sb (gl M) 7003 c d → gi N 7374 c = sb (gl M) 7067 c d → X mM_findHeld 24 [(0, .ref 6027), (1, .int (nI c)), (2, .int (nI d))] [] N (mC mM_findHeld, mS mM_findHeld) (QV K)) (fun d hd ih2 N f hf h1 h2 => ?_) (fun N f hf h1 h2 => ?_)
    · refine k2 _ (fr_si (fr_si f (by decide)) (by decide)) (fun e he => hf_si (hf_si (hf e he) (by omega)) (by omega)) ?_ ?_
      · rw [gi_si, if_neg (by simp), gi_si, if_pos ⟨rfl, rfl⟩]; rfl
      · rw [gi_si, if_pos ⟨rfl, rfl⟩]; rfl
    · have hm := mr_w j.1 f.2.2
      refine vM_findHeld_24 rfl (mr32 hm) (mr27 hm) (mr33 hm) (mr28 hm) ⟨fun _ => vin hc (by decide), fun _ => vin hd (by decide), fun q => absurd q (nge rfl (by decide) hd), fun _ => ⟨vin hc (by decide), vin hc (by decide), vin hd (by decide), vin hc (by decide), ?_⟩⟩
      rw [ncl (show c < 2 ^ 31 by omega), ncl (show d < 2 ^ 31 by omega), nI_s]
      refine ih2 _ (fr_si (fr_si f (by decide)) (by decide)) (fun e he => hf_si (hf_si (hf e he) (by omega)) (by omega)) ?_ ?_
      · rw [gi_si, if_neg (by simp), gi_si, if_pos ⟨rfl, rfl⟩, h1, f.2.1]; rfl
      · rw [gi_si, if_pos ⟨rfl, rfl⟩, gi_si, if_neg (by simp), h2]
        rw [show ∀ v, gl (si N 7310 c v) = gl N from fun _ => rfl, f.2.1]; rfl
    · have s := fr_sm (W := W) f
      have hm := mr_w j.1 f.2.2
      have e43 : gi N 6543 = gi M 6543 := s.2.2.1
      have fin : ∀ w, w = hdv M c → X mM_findHeld 124 [(0, .ref 6027), (1, .int (nI c)), (2, .int (laV M W (nI c)))] [.int w] N (mC mM_findHeld, mS mM_findHeld) (QV K) := by
        rintro w rfl
        refine vM_findHeld_124 rfl (mr31 hm) (mr32 hm) (mr33 hm) (mr18 hm) (mr30 hm) ⟨fun _ => vin hc (by decide), fun _ => vin hc (by decide), vin hc (by decide), vin hc (by decide), fun _ => vin hc (by decide), fun _ => vin hc (by decide), fun _ => vin hc (by decide), fun _ => vin hc (by decide), vin hc (by decide), ?_⟩
        have g1 : ∀ v, gi (si N 7246 c v) 7246 c = v := fun v => by rw [gi_si, if_pos ⟨rfl, rfl⟩]
        have g2 : ∀ v, gi (si N 7246 c v) 7310 c = sb (gl M) 7003 c 8 := fun v => by rw [giR _ _ _ _ _ _ (by decide), h1]
        have g3 : ∀ v, gi (si N 7246 c v) 7374 c = sb (gl M) 7067 c 8 := fun v => by rw [giR _ _ _ _ _ _ (by decide), h2]
        have g4 : ∀ v, gi (si N 7246 c v) 6543 5 = gi M 6543 5 := fun v => by rw [giR _ _ _ _ _ _ (by decide), e43]
        have g5 : gi N 6543 5 = gi M 6543 5 := by rw [e43]
        rw [ncl (show c < 2 ^ 31 by omega), nI_s]
        simp only [g1, g2, g3, g4, g5, h1, h2]
        refine ih _ (fr_si (fr_si f (by decide)) (by decide)) (fun e he => ?_)
        by_cases q : e = c
        · subst q
          unfold HF
          refine ⟨?_, ?_, ?_, ?_⟩
          · rw [gi_si, if_neg (by simp), gi_si, if_neg (by simp), h1]
          · rw [gi_si, if_neg (by simp), gi_si, if_neg (by simp), h2]
          · rw [gi_si, if_neg (by simp), gi_si, if_pos ⟨rfl, rfl⟩]; rfl
          · rw [gi_si, if_pos ⟨rfl, rfl⟩]; rfl
        · exact hf_si (hf_si (hf e (by omega)) q) q
      refine vM_findHeld_24 rfl (mr32 hm) (mr27 hm) (mr33 hm) (mr28 hm) ⟨fun q => absurd (nself rfl) q, fun q => absurd (nself rfl) q, fun _ => sM_lawOf (jw_sm s j) ?_, fun q => absurd (nself rfl) q⟩
      rw [laV_sm s]
      refine vM_findHeld_81 rfl (mr18 hm) (mr27 hm) (mr28 hm) ⟨fun q => ?_, fun q => ?_, fun q => sM_told (fin _ ?_), fun q => fin _ ?_⟩
      · rw [e43] at q ⊢
        rcases hh with hh | ⟨e, he, hh⟩
        · exact absurd hh q
        · rw [hh]; exact vin he (by decide)
      · rw [e43] at q ⊢
        rcases hh with hh | ⟨e, he, hh⟩
        · exact absurd hh q
        · rw [hh]; exact vin he (by decide)
      · rw [e43] at q ⊢
        rw [hdv, if_neg q, f.2.1]
      · rw [e43] at q
        rw [hdv, if_pos q]
  · have hm := mr_w j.1 f.2.2
    exact vM_findHeld_2 rfl (mr32 hm) (mr33 hm) ⟨fun _ => h N f hf, fun q => absurd (nself rfl) q⟩
/-- what findAll changes -/
def AF (M N : Mm) : Prop := (∀ a, a ≠ 7310 → a ≠ 7374 → a ≠ 7246 → a ≠ 7182 → gi N a = gi M a) ∧ gr N = gr M ∧ ∀ a j, ¬ (a = 7131 ∨ a = 7003 ∨ a = 7067) → gl N a j = gl M a j
theorem af_rf (M : Mm) : AF M M := ⟨fun _ _ _ _ _ => rfl, rfl, fun _ _ _ => rfl⟩
theorem af_tr {M N O : Mm} (a : AF M N) (b : AF N O) : AF M O := ⟨fun x h1 h2 h3 h4 => (b.1 x h1 h2 h3 h4).trans (a.1 x h1 h2 h3 h4), b.2.1.trans a.2.1, fun x k q => (b.2.2 x k q).trans (a.2.2 x k q)⟩
theorem af_ef {M N : Mm} (e : EF M N) : AF M N := ⟨fun a _ _ _ _ => by rw [e.1], e.2.1, e.2.2⟩
theorem af_fr {M N : Mm} (e : FR M N) : AF M N := ⟨e.1, e.2.2, fun _ _ _ => by rw [e.2.1]⟩
theorem af_of {d : Nat} {M N : Mm} (f : OF d M N) : AF M N := ⟨fun a _ _ _ _ => by rw [f.1], f.2.1, fun a j q => f.2.2 a j (fun p => q p.1)⟩
theorem hd_sm {W : Nat} {M N : Mm} (s : SM W M N) (h : HD M) : HD N := by unfold HD; rw [s.2.2.1]; exact h
/-- all is found: O is the state between findEach and findHeld -/
theorem sM_findAll {M : Mm} {W : Nat} {K : Mm → Prop} (j : JW M W) (hh : HD M) (h : ∀ O N, EF M O → (∀ d, d < 8 → EV M W O d) → FR O N → (∀ c, c < 64 → HF O W N c) → K N) : CV mM_findAll [.ref 6027] M K :=
  call_of rfl (Nat.le_of_ble_eq_true rfl) rfl (vM_findAll_0 rfl (sM_findEach j (fun O e v => vM_findAll_4 rfl (sM_findHeld (jw_sm (ef_sm e) j) (hd_sm (ef_sm (W := W) e) hh) (fun N f hf => vM_findAll_8 (h O N e v f hf))))))
