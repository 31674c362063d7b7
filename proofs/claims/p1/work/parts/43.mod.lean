/-! ===== the reference without words ===== -/
theorem sgt {c d x : Int32} (h : c.toInt + 1 = d.toInt) : c < x ↔ d ≤ x := by
  rw [Int32.lt_iff_toInt_lt, Int32.le_iff_toInt_le]; omega
theorem rngL {x c : Int32} {n : Nat} (hc : c = nI n) (hn : n < 2 ^ 31) (h0 : ¬ x < 0) (h1 : ¬ c < x) : ∃ i, i < n + 1 ∧ x = nI i := by
  obtain ⟨i, hi, rfl⟩ := nI_of h0
  subst hc
  rw [nlt hi hn] at h1
  exact ⟨i, by omega, rfl⟩
theorem sM_in {M : Mm} {w l m : Int32} {lo hi : Int64} {K : Int32 → Mm → Prop} (hl : l.toInt64 = lo) (hm : m.toInt64 = hi) (h0 : (w < l ∨ m < w) → K 0 M) (h1 : ¬ w < l → ¬ m < w → K 1 M) : CI mM_in [.long w.toInt64, .long lo, .long hi] M K := by
  subst hl hm
  refine call_of rfl (Nat.le_of_ble_eq_true rfl) rfl (vM_in_0 ⟨fun q => ?_, fun q => ?_⟩)
  · rw [Int32.toInt64_lt, Int32.toInt64_lt] at q
    exact h0 (q.elim Or.inl (fun q => Or.inr q.2))
  · rw [Int32.toInt64_lt, Int32.toInt64_lt] at q
    exact h1 q.1 q.2
theorem sM_inE {M : Mm} {w : Int32} {K : Int32 → Mm → Prop} (h0 : isE w = false → K 0 M) (h1 : (w = 0 ∨ w = 1) → K 1 M) : CI mM_in [.long w.toInt64, .long 0, .long 1] M K := by
  refine sM_in (l := 0) (m := 1) rfl rfl (fun q => h0 (decide_eq_false ?_)) (fun q1 q2 => h1 ?_)
  · rintro (rfl | rfl) <;> exact absurd q (by decide)
  · obtain ⟨i, hi, rfl⟩ := rngL (c := 1) (n := 1) rfl (by decide) q1 q2
    match i, hi with
    | 0, _ => exact Or.inl rfl
    | 1, _ => exact Or.inr rfl
theorem sM_isCase {M : Mm} {v : Int32} {K : Int32 → Mm → Prop} (h1 : isC v = false → K 0 M) (h2 : ∀ i, i < 64 → v = nI i → K 1 M) : CI mM_isCase [.int v] M K := by
  refine call_of rfl (Nat.le_of_ble_eq_true rfl) rfl (vM_isCase_0 (sM_in (l := 0) (m := 63) rfl rfl (fun q => vM_isCase_9 ⟨rfl, h1 (nC (q.imp id (sgt (by decide)).mp))⟩) (fun q1 q2 => vM_isCase_9 ⟨rfl, ?_⟩)))
  obtain ⟨i, hi, e⟩ := rngL (c := 63) (n := 63) rfl (by decide) q1 q2
  exact h2 i hi e
theorem sM_isDoctor {M : Mm} {v : Int32} {K : Int32 → Mm → Prop} (h1 : isD v = false → K 0 M) (h2 : ∀ i, i < 8 → v = nI i → K 1 M) : CI mM_isDoctor [.int v] M K := by
  refine call_of rfl (Nat.le_of_ble_eq_true rfl) rfl (vM_isDoctor_0 (sM_in (l := 0) (m := 7) rfl rfl (fun q => vM_isDoctor_9 ⟨rfl, h1 (nD (q.imp id (sgt (by decide)).mp))⟩) (fun q1 q2 => vM_isDoctor_9 ⟨rfl, ?_⟩)))
  obtain ⟨i, hi, e⟩ := rngL (c := 7) (n := 7) rfl (by decide) q1 q2
  exact h2 i hi e
/-- the rule, no words, no numbers of 64 bits -/
def xl : List (Nat × Nat × Nat × Int32) := yl.filter (fun q => (q.1 == 6027 && q.2.1 == 0) || (q.1 == 6543 || q.1 == 6607))
def XM (M : Mm) : Prop := MR M ∧ (∀ q ∈ xl, ∀ j, q.2.1 ≤ j → j < q.2.2.1 → gi M q.1 j = q.2.2.2) ∧ ∀ a j, gl M a j = 0
theorem y_x {M : Mm} (y : YM M) : XM M := ⟨y.1, fun q hq => y.2.1 q (List.mem_filter.mp hq).1, y.2.2⟩
theorem xf {M : Mm} {a j : Nat} {v : Int32} (z : XM M) (h : rin xl a j v = true) : gi M a j = v := rin_rd z.2.1 h
theorem xm_si {M : Mm} {a j : Nat} {v : Int32} (z : XM M) (h : rok xl a j v = true) : XM (si M a j v) := ⟨z.1, rok_si z.2.1 h, z.2.2⟩
theorem xm_sc {M : Mm} {a j : Nat} {v : Int32} (z : XM M) (h : rno xl a = true) : XM (si M a j v) := xm_si z (rno_ok h j v)
theorem x0 {M : Mm} (z : XM M) : gi M 6027 0 ≤ 0 := by rw [xf (v := 0) z (by decide +kernel)]; decide
theorem sl_same (M : Mm) (a j : Nat) (v : Int64) (h : gl M a j = v) : sl M a j v = M := by
  refine mm_ext rfl (fun _ _ => rfl) (fun b k => ?_) (fun _ _ => rfl)
  rw [gl_sl]
  by_cases hq : b = a ∧ k = j
  · rw [if_pos hq, hq.1, hq.2, h]
  · rw [if_neg hq]
theorem b0 : ∀ c, c < 64 → (((0 : Int64) >>> ((nI c).toInt64 &&& 63)) &&& 1) = 0 := by decide +kernel
theorem gr_sl (M : Mm) (a j : Nat) (v : Int64) : gr (sl M a j v) = gr M := rfl
def fo0 (M : Mm) (d : Nat) : Mm := sl (sl (sl M 7131 d 0) 7003 d 0) 7067 d 0
theorem gr_fo0 (M : Mm) (d : Nat) : gr (fo0 M d) = gr M := rfl
theorem sM_findOne0 {M : Mm} {d : Nat} {K : Mm → Prop} (hm : MR M) (hz : gi M 6027 0 ≤ 0) (hd : d < 8) (h : K (fo0 M d)) : CV mM_findOne [.ref 6027, .int (nI d)] M K := by
  refine call_of rfl (Nat.le_of_ble_eq_true rfl) rfl (vM_findOne_0 (vM_findOne_8 rfl (mr29 hm) (mr27 hm) (mr28 hm) ⟨fun _ => ⟨vin hd (by decide), vin hd (by decide), vin hd (by decide), ?_⟩, fun q => absurd hz q⟩))
  rw [show ((0 : Int64) &&& 0) = 0 from rfl, show ((0 : Int64) &&& (0 ^^^ (-1))) = 0 from rfl, ncl (by omega)]
  have hm2 : MR (fo0 M d) := mr_w hm (gr_fo0 M d)
  have key := lp 64 (P := fun c => X mM_findOne 106 [(0, .ref 6027), (1, .int (nI d)), (6, .int (nI c))] [] (fo0 M d) (mC mM_findOne, mS mM_findOne) (QV K)) (fun c hc ih => ?_) ?_
  · exact key
  · have e : gl (fo0 M d) 7131 (nI d).toNatClampNeg = 0 := by
      rw [ncl (by omega)]; unfold fo0
      rw [gl_sl, if_neg (by simp), gl_sl, if_neg (by simp), gl_sl, if_pos ⟨rfl, rfl⟩]
    refine vM_findOne_106 rfl (mr29 hm2) ⟨fun _ => vin hd (by decide), fun q => absurd q (nge rfl (by decide) hc), fun _ => ?_, fun q => ?_⟩
    · rw [nI_s]; exact ih
    · rw [e, b0 c hc] at q; exact absurd q.2 (by decide)
  · exact vM_findOne_106 rfl (mr29 hm2) ⟨fun q => absurd (nself rfl) q, fun _ => h, fun q => absurd (nself rfl) q.1, fun q => absurd (nself rfl) q.1⟩
theorem fo0_same {M : Mm} {d : Nat} (z : XM M) : fo0 M d = M := by
  unfold fo0
  rw [sl_same M _ _ 0 (z.2.2 _ _), sl_same M _ _ 0 (z.2.2 _ _), sl_same M _ _ 0 (z.2.2 _ _)]
theorem xM_findEach {M : Mm} {K : Mm → Prop} (z : XM M) (h : K M) : CV mM_findEach [.ref 6027] M K := by
  refine call_of rfl (Nat.le_of_ble_eq_true rfl) rfl (vM_findEach_0 ?_)
  have key := lp 8 (P := fun d => X mM_findEach 2 [(0, .ref 6027), (1, .int (nI d))] [] M (mC mM_findEach, mS mM_findEach) (QV K)) (fun d hd ih => ?_) ?_
  · exact key
  · refine vM_findEach_2 rfl ⟨fun q => absurd q (nge rfl (by decide) hd), fun _ => sM_findOne0 z.1 (x0 z) hd ?_⟩
    rw [fo0_same z]
    refine vM_findEach_13 ?_
    rw [nI_s]; exact ih
  · exact vM_findEach_2 rfl ⟨fun _ => h, fun q => absurd (nself rfl) q⟩
theorem sM_of0 {M : Mm} {k : Nat} {kk : Int32} {K : Int32 → Mm → Prop} (hm : MR M) (hk : kk = nI k) (hk2 : k < 10) (h : K (gi M 6101 k) M) : CI mM_of [.ref 6027, .int 0, .int kk] M K := by
  subst hk
  have e : (10 * 0 : Int32) + nI k = nI k := by rw [show (10 * 0 : Int32) = 0 from rfl, Int32.zero_add]
  refine call_of rfl (Nat.le_of_ble_eq_true rfl) rfl (vM_of_0 rfl (mr1 hm) ?_)
  rw [e, ncl (by omega)]
  exact ⟨vin (by omega) (by decide), h⟩
/-- no words, or one word of the first kind -/
def WD (M : Mm) : Prop := gi M 6027 0 = 0 ∨ (gi M 6027 0 = 1 ∧ gi M 6101 0 = 0)
def XW (M : Mm) : Prop := MR M ∧ (∀ j, j < 7 → gi M 6543 j = dv j) ∧ WD M
theorem wM_lawOf {M : Mm} {c : Int32} {K : Int32 → Mm → Prop} (x : XW M) (h : K (-4) M) : CI mM_lawOf [.ref 6027, .int c] M K := by
  obtain ⟨hm, hr, hw⟩ := x
  refine call_of rfl (Nat.le_of_ble_eq_true rfl) rfl (vM_lawOf_0 ?_)
  rcases hw with hw | ⟨hw, ht⟩
  · have e : gi M 6027 0 ≤ 0 := by rw [hw]; decide
    exact vM_lawOf_11 rfl (mr18 hm) ⟨fun _ => h, fun q => absurd e q.1⟩
  · have e0 : ¬ gi M 6027 0 ≤ 0 := by rw [hw]; decide
    have e1 : gi M 6027 0 ≤ 0 + 1 := by rw [hw]; decide
    have e6 : ¬ gi M 6543 6 ≤ 0 := by rw [hr 6 (by decide)]; decide +kernel
    refine vM_lawOf_11 rfl (mr18 hm) ⟨fun q => ?_, fun _ => sM_of0 (k := 0) hm rfl (by decide) ?_⟩
    · rcases q with q | q
      · exact absurd q e0
      · exact absurd q.2 e6
    · rw [ht]
      refine vM_lawOf_37 rfl (mr25 hm) (mr26 hm) ⟨fun q => absurd q (by decide), fun q => absurd q (by decide), fun _ => ?_, fun q => absurd q (by decide)⟩
      refine vM_lawOf_64 rfl (mr18 hm) ⟨fun _ => vM_lawOf_110 (vM_lawOf_115 rfl ⟨fun _ => ?_, fun q => absurd rfl q.1, fun q => absurd rfl q.1⟩), fun q => absurd rfl q.1, fun q => absurd rfl q.1⟩
      exact vM_lawOf_11 rfl (mr18 hm) ⟨fun _ => h, fun q => absurd e1 q.1⟩
/-- how many of the first e doctors' rows have the bit c -/
def sb (G : Nat → Nat → Int64) (a c : Nat) : Nat → Int32
  | 0 => 0
  | e + 1 => sb G a c e + (((G a e) >>> ((nI c).toInt64 &&& 63)) &&& 1).toInt32
def hv (y n : Int32) : Int32 := if y = n then -4 else if y ≤ n then 0 else 1
def FR (M N : Mm) : Prop := (∀ a, a ≠ 7310 → a ≠ 7374 → a ≠ 7246 → a ≠ 7182 → gi N a = gi M a) ∧ gl N = gl M ∧ gr N = gr M
def HF (N : Mm) (G : Nat → Nat → Int64) (c : Nat) : Prop := gi N 7310 c = sb G 7003 c 8 ∧ gi N 7374 c = sb G 7067 c 8 ∧ gi N 7246 c = (if sb G 7003 c 8 = sb G 7067 c 8 then 0 else 2) ∧ gi N 7182 c = hv (sb G 7003 c 8) (sb G 7067 c 8)
theorem fr_si {M N : Mm} {a j : Nat} {v : Int32} (f : FR M N) (h : a = 7310 ∨ a = 7374 ∨ a = 7246 ∨ a = 7182) : FR M (si N a j v) := by
  refine ⟨fun b h1 h2 h3 h4 => ?_, f.2.1, f.2.2⟩
  rw [← f.1 b h1 h2 h3 h4]
  funext k
  rw [giR]
  rcases h with rfl | rfl | rfl | rfl
  · exact h1
  · exact h2
  · exact h3
  · exact h4
theorem xw_fr {M N : Mm} (x : XW M) (f : FR M N) : XW N := by
  obtain ⟨hm, hr, hw⟩ := x
  refine ⟨mr_w hm f.2.2, fun j hj => ?_, ?_⟩
  · rw [f.1 6543 (by decide) (by decide) (by decide) (by decide)]; exact hr j hj
  · unfold WD
    rw [f.1 6027 (by decide) (by decide) (by decide) (by decide), f.1 6101 (by decide) (by decide) (by decide) (by decide)]
    exact hw
theorem hf_si {N : Mm} {G : Nat → Nat → Int64} {c e a : Nat} {v : Int32} (h : HF N G e) (hne : e ≠ c) : HF (si N a c v) G e := by
  unfold HF at h ⊢
  have k : ∀ b, gi (si N a c v) b e = gi N b e := fun b => by rw [gi_si, if_neg (fun q => hne q.2)]
  rw [k, k, k, k]; exact h
theorem wM_findHeld {M : Mm} {K : Mm → Prop} (x : XW M) (h : ∀ N, FR M N → (∀ c, c < 64 → HF N (gl M) c) → K N) : CV mM_findHeld [.ref 6027] M K := by
  refine call_of rfl (Nat.le_of_ble_eq_true rfl) rfl (vM_findHeld_0 ?_)
  have key := lp 64 (P := fun c => ∀ N, FR M N → (∀ e, e < c → HF N (gl M) e) → X mM_findHeld 2 [(0, .ref 6027), (1, .int (nI c))] [] N (mC mM_findHeld, mS mM_findHeld) (QV K)) (fun c hc ih N f hf => ?_) (fun N f hf => ?_)
  · exact key M ⟨fun _ _ _ _ _ => rfl, rfl, rfl⟩ (fun e he => absurd he (Nat.not_lt_zero e))
  · have hm := (xw_fr x f).1
    refine vM_findHeld_2 rfl (mr32 hm) (mr33 hm) ⟨fun q => absurd q (nge rfl (by decide) hc), fun _ => ⟨vin hc (by decide), vin hc (by decide), ?_⟩⟩
    rw [ncl (by omega)]
    have k2 := lp 8 (P := fun d => ∀ N, FR M N → (∀ e, e < c → HF N (gl M) e) → gi N 7310 c = sb (gl M) 7003 c d → gi N 7374 c = sb (gl M) 7067 c d → X mM_findHeld 24 [(0, .ref 6027), (1, .int (nI c)), (2, .int (nI d))] [] N (mC mM_findHeld, mS mM_findHeld) (QV K)) (fun d hd ih2 N f hf h1 h2 => ?_) (fun N f hf h1 h2 => ?_)
    · refine k2 _ (fr_si (fr_si f (by decide)) (by decide)) (fun e he => hf_si (hf_si (hf e he) (by omega)) (by omega)) ?_ ?_
      · rw [gi_si, if_neg (by simp), gi_si, if_pos ⟨rfl, rfl⟩]; rfl
      · rw [gi_si, if_pos ⟨rfl, rfl⟩]; rfl
    · have hm := (xw_fr x f).1
      refine vM_findHeld_24 rfl (mr32 hm) (mr27 hm) (mr33 hm) (mr28 hm) ⟨fun _ => vin hc (by decide), fun _ => vin hd (by decide), fun q => absurd q (nge rfl (by decide) hd), fun _ => ⟨vin hc (by decide), vin hc (by decide), vin hd (by decide), vin hc (by decide), ?_⟩⟩
      rw [ncl (show c < 2 ^ 31 by omega), ncl (show d < 2 ^ 31 by omega), nI_s]
      refine ih2 _ (fr_si (fr_si f (by decide)) (by decide)) (fun e he => hf_si (hf_si (hf e he) (by omega)) (by omega)) ?_ ?_
      · rw [gi_si, if_neg (by simp), gi_si, if_pos ⟨rfl, rfl⟩, h1, f.2.1]; rfl
      · rw [gi_si, if_pos ⟨rfl, rfl⟩, gi_si, if_neg (by simp), h2]
        rw [show ∀ v, gl (si N 7310 c v) = gl N from fun _ => rfl, f.2.1]; rfl
    · have xx := xw_fr x f
      have hm := xx.1
      have e4 : gi N 6543 4 = -4 := by rw [xx.2.1 4 (by decide)]; rfl
      have e5 : gi N 6543 5 = -4 := by rw [xx.2.1 5 (by decide)]; rfl
      refine vM_findHeld_24 rfl (mr32 hm) (mr27 hm) (mr33 hm) (mr28 hm) ⟨fun q => absurd (nself rfl) q, fun q => absurd (nself rfl) q, fun _ => wM_lawOf xx ?_, fun q => absurd (nself rfl) q⟩
      refine vM_findHeld_81 rfl (mr18 hm) (mr27 hm) (mr28 hm) ⟨fun q => absurd e4 q, fun q => absurd e4 q, fun q => absurd e4 q, fun _ => ?_⟩
      refine vM_findHeld_124 rfl (mr31 hm) (mr32 hm) (mr33 hm) (mr18 hm) (mr30 hm) ⟨fun _ => vin hc (by decide), fun _ => vin hc (by decide), vin hc (by decide), vin hc (by decide), fun _ => vin hc (by decide), fun _ => vin hc (by decide), fun _ => vin hc (by decide), fun _ => vin hc (by decide), vin hc (by decide), ?_⟩
      rw [ncl (show c < 2 ^ 31 by omega), nI_s]
      simp only [gi_si, h1, h2, e5]
      refine ih _ (fr_si (fr_si f (by decide)) (by decide)) (fun e he => ?_)
      by_cases q : e = c
      · subst q
        unfold HF
        refine ⟨?_, ?_, ?_, ?_⟩
        · rw [gi_si, if_neg (by simp), gi_si, if_neg (by simp), h1]
        · rw [gi_si, if_neg (by simp), gi_si, if_neg (by simp), h2]
        · rw [gi_si, if_neg (by simp), gi_si, if_pos ⟨rfl, rfl⟩]
          simp
        · rw [gi_si, if_pos ⟨rfl, rfl⟩]
          unfold hv
          by_cases l : sb (gl M) 7003 e 8 = sb (gl M) 7067 e 8
          · simp [l]
          · simp [l]
      · exact hf_si (hf_si (hf e (by omega)) q) q
  · have hm := (xw_fr x f).1
    exact vM_findHeld_2 rfl (mr32 hm) (mr33 hm) ⟨fun _ => h N f hf, fun q => absurd (nself rfl) q⟩
/-- nothing holds -/
def HH (M : Mm) : Prop := XM M ∧ ∀ c, c < 64 → gi M 7182 c = -4 ∧ gi M 7246 c = 0 ∧ gi M 7310 c = 0 ∧ gi M 7374 c = 0
theorem x_w {M : Mm} (z : XM M) : XW M := by
  refine ⟨z.1, fun j hj => ?_, Or.inl (xf z (by decide +kernel))⟩
  have : ∀ j, j < 7 → rin xl 6543 j (dv j) = true := by decide +kernel
  exact xf z (this j hj)
theorem xm_fr {M N : Mm} (z : XM M) (f : FR M N) : XM N := by
  refine ⟨mr_w z.1 f.2.2, fun q hq j h1 h2 => ?_, fun a j => by rw [f.2.1]; exact z.2.2 a j⟩
  have : ∀ q ∈ xl, q.1 ≠ 7310 ∧ q.1 ≠ 7374 ∧ q.1 ≠ 7246 ∧ q.1 ≠ 7182 := by decide +kernel
  obtain ⟨a1, a2, a3, a4⟩ := this q hq
  rw [f.1 q.1 a1 a2 a3 a4]; exact z.2.1 q hq j h1 h2
theorem sb0 : ∀ a c, c < 64 → sb (fun _ _ => 0) a c 8 = 0 := by
  intro a c hc
  simp only [sb, b0 c hc]
  rfl
theorem xM_findHeld {M : Mm} {K : Mm → Prop} (z : XM M) (h : ∀ N, FR M N → HH N → K N) : CV mM_findHeld [.ref 6027] M K := by
  refine wM_findHeld (x_w z) (fun N f hf => h N f ⟨xm_fr z f, fun c hc => ?_⟩)
  obtain ⟨h1, h2, h3, h4⟩ := hf c hc
  have eg : gl M = fun _ _ => 0 := funext fun a => funext fun j => z.2.2 a j
  rw [eg, sb0 _ _ hc] at h1 h2 h3 h4
  rw [sb0 _ _ hc] at h3 h4
  exact ⟨h4, h3, h1, h2⟩
theorem xM_findAll {M : Mm} {K : Mm → Prop} (z : XM M) (h : ∀ N, FR M N → HH N → K N) : CV mM_findAll [.ref 6027] M K :=
  call_of rfl (Nat.le_of_ble_eq_true rfl) rfl (vM_findAll_0 rfl (xM_findEach z (vM_findAll_4 rfl (xM_findHeld z (fun N f hh => vM_findAll_8 (h N f hh))))))
