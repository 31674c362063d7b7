/-! ===== answers by their types; shorter rows ===== -/
theorem call_mono {m : MI} {as : List Value} {M : Mm} {Q Q' : Option Value → Mm → Prop} (h : CALL m as M Q) (k : ∀ r N, Q r N → Q' r N) : CALL m as M Q' := by
  intro l g hw hok p e h1 h2 h3 s mid args below h4 h5 h6 h7
  obtain ⟨n, o, a1, a2, a3, ⟨r, N, b1, b2, b3, b4⟩, b5⟩ := h l g hw hok p e h1 h2 h3 s mid args below h4 h5 h6 h7
  exact ⟨n, o, a1, a2, a3, ⟨r, N, b1, b2, k r N b3, b4⟩, b5⟩
theorem call_wf {m : MI} {as : List Value} {M : Mm} {Q : Option Value → Mm → Prop} (h : WF M → CALL m as M Q) : CALL m as M Q := fun l g hw => h hw l g hw
def QI (K : Int32 → Mm → Prop) : Option Value → Mm → Prop := fun r N => ∃ v, r = some (.int v) ∧ K v N
def QJ (K : Int64 → Mm → Prop) : Option Value → Mm → Prop := fun r N => ∃ v, r = some (.long v) ∧ K v N
def QV (K : Mm → Prop) : Option Value → Mm → Prop := fun r N => r = none ∧ K N
def CI (m : MI) (as : List Value) (M : Mm) (K : Int32 → Mm → Prop) : Prop := CALL m as M (QI K)
def CJ (m : MI) (as : List Value) (M : Mm) (K : Int64 → Mm → Prop) : Prop := CALL m as M (QJ K)
def CV (m : MI) (as : List Value) (M : Mm) (K : Mm → Prop) : Prop := CALL m as M (QV K)
theorem ci_mono {m : MI} {as : List Value} {M : Mm} {K K' : Int32 → Mm → Prop} (h : CI m as M K) (k : ∀ r N, K r N → K' r N) : CI m as M K' := call_mono h (fun r N ⟨v, h1, h2⟩ => ⟨v, h1, k v N h2⟩)
theorem cj_mono {m : MI} {as : List Value} {M : Mm} {K K' : Int64 → Mm → Prop} (h : CJ m as M K) (k : ∀ r N, K r N → K' r N) : CJ m as M K' := call_mono h (fun r N ⟨v, h1, h2⟩ => ⟨v, h1, k v N h2⟩)
theorem cv_mono {m : MI} {as : List Value} {M : Mm} {K K' : Mm → Prop} (h : CV m as M K) (k : ∀ N, K N → K' N) : CV m as M K' := call_mono h (fun r N ⟨h1, h2⟩ => ⟨h1, k N h2⟩)
theorem wfk {M : Mm} {a j r c : Nat} (hw : WF M) (e : gr M a j = some r) (ha : a % 64 = c) : r % 64 = rK c j := by rw [← ha]; exact (hw.2 a j r e).2
section ROWS5
variable {m m' : MI} {pc : Nat} {L : List (Nat × Value)} {S St : List Value} {M : Mm} {b b' : Nat × Nat} {Q : Option Value → Mm → Prop}
theorem x_mono (h : b'.1 ≤ b.1 ∧ b'.2 ≤ b.2) (k : X m pc L S M b' Q) : X m pc L S M b Q := by
  intro g p l e R s mid args below meth cc Z C hR H locs cells slots ls hH hw hL hS hl2 hss hc hc2
  exact k g p l e R s mid args below meth cc Z C hR H locs cells slots ls hH hw hL hS hl2 hss (by omega) (by omega)
theorem x_newB {i c : Nat} (hd : decode (mB m) pc = .ok (.new i, 3)) (h12 : c < 12) (hl : Cond.classLink (mY m).cls i (kC c) ∈ TG) (hb : b'.1 + 1 ≤ b.1 ∧ b'.2 + kN c ≤ b.2) (h : X m (pc + 3) L (.ref (64 * M.1.1.length + c) :: S) (nw M c) b' Q) : X m pc L S M b Q := x_mono hb (x_new (b1 := b'.1) (b2 := b'.2) hd h12 hl h)
theorem x_newaB {k t n : Nat} {at0 : ArrayType} {v : Int32} (hd : decode (mB m) pc = .ok (.newarray at0, 2)) (hk : AK k t n) (ht : (t = 0 ∧ at0 = .int) ∨ (t = 1 ∧ at0 = .long) ∨ (t = 2 ∧ at0 = .byte) ∨ (t = 3 ∧ at0 = .boolean)) (hv : ¬ v < 0) (hn : v.toNatClampNeg = n) (hsm : n ≤ 100000) (hl : Cond.arrayClass (aT t) ∈ TG) (hb : b'.1 + 1 ≤ b.1 ∧ b'.2 + n ≤ b.2) (h : X m (pc + 2) L (.ref (64 * M.1.1.length + k) :: S) (nw M k) b' Q) : X m pc L (.int v :: S) M b Q := x_mono hb (x_newa (b1 := b'.1) (b2 := b'.2) hd hk ht hv hn hsm hl h)
theorem x_anewB {k t n i : Nat} {v : Int32} {Cn : String} (hd : decode (mB m) pc = .ok (.anewarray i, 3)) (hk : AK k t n) (ht : (t = 4 ∧ Cn = "LearnedCount$Word") ∨ (t = 5 ∧ Cn = "LearnedCount$Sheet")) (hv : ¬ v < 0) (hn : v.toNatClampNeg = n) (hsm : n ≤ 100000) (hl : Cond.classLink (mY m).cls i Cn ∈ TG) (hb : b'.1 + 1 ≤ b.1 ∧ b'.2 + n ≤ b.2) (h : X m (pc + 3) L (.ref (64 * M.1.1.length + k) :: S) (nw M k) b' Q) : X m pc L (.int v :: S) M b Q := x_mono hb (x_anew (b1 := b'.1) (b2 := b'.2) hd hk ht hv hn hsm hl h)
/-- the continuation of a call, by the kind of its answer -/
theorem aftI {K : Int32 → Mm → Prop} (hb : b'.1 + mC m' ≤ b.1 ∧ b'.2 + mS m' ≤ b.2) {as : List Value} (hK : ∀ v N, K v N → X m (pc + 3) L (.int v :: S) N b' Q) (h : CI m' as M K) : CALL m' as M (aft m m' pc L S b Q) := call_mono h (fun r N ⟨v, h1, h2⟩ => by subst h1; exact x_mono (by dsimp only; omega) (hK v N h2))
theorem aftJ {K : Int64 → Mm → Prop} (hb : b'.1 + mC m' ≤ b.1 ∧ b'.2 + mS m' ≤ b.2) {as : List Value} (hK : ∀ v N, K v N → X m (pc + 3) L (.long v :: S) N b' Q) (h : CJ m' as M K) : CALL m' as M (aft m m' pc L S b Q) := call_mono h (fun r N ⟨v, h1, h2⟩ => by subst h1; exact x_mono (by dsimp only; omega) (hK v N h2))
theorem aftV {K : Mm → Prop} (hb : b'.1 + mC m' ≤ b.1 ∧ b'.2 + mS m' ≤ b.2) {as : List Value} (hK : ∀ N, K N → X m (pc + 3) L S N b' Q) (h : CV m' as M K) : CALL m' as M (aft m m' pc L S b Q) := call_mono h (fun r N ⟨h1, h2⟩ => by subst h1; exact x_mono (by dsimp only; omega) (hK N h2))
theorem x_aldIj {a k t n j : Nat} {ins : Instr} {i : Int32} (ht : (t = 0 ∧ ins = .iaload) ∨ (t = 2 ∧ ins = .baload) ∨ (t = 3 ∧ ins = .baload)) (hd : decode (mB m) pc = .ok (ins, 1)) (ha : a % 64 = k) (hk : AK k t n) (hj : i.toNatClampNeg = j) (hi : vp_in i n) (h : X m (pc + 1) L (.int (gi M a j) :: S) M b Q) : X m pc L (.int i :: .ref a :: S) M b Q := by subst hj; exact x_aldI ht hd ha hk hi h
theorem x_aldLj {a k n j : Nat} {i : Int32} (hd : decode (mB m) pc = .ok (.laload, 1)) (ha : a % 64 = k) (hk : AK k 1 n) (hj : i.toNatClampNeg = j) (hi : vp_in i n) (h : X m (pc + 1) L (.long (gl M a j) :: S) M b Q) : X m pc L (.int i :: .ref a :: S) M b Q := by subst hj; exact x_aldL hd ha hk hi h
theorem x_astIj {a k t n j : Nat} {ins : Instr} {i x v : Int32} (ht : (t = 0 ∧ ins = .iastore ∧ v = x) ∨ (t = 2 ∧ ins = .bastore ∧ v = vp_nar .byte x) ∨ (t = 3 ∧ ins = .bastore ∧ v = vp_nar .boolean x)) (hd : decode (mB m) pc = .ok (ins, 1)) (ha : a % 64 = k) (hk : AK k t n) (hj : i.toNatClampNeg = j) (hi : vp_in i n) (h : X m (pc + 1) L S (si M a j v) b Q) : X m pc L (.int x :: .int i :: .ref a :: S) M b Q := by subst hj; exact x_astI ht hd ha hk hi h
theorem x_astLj {a k n j : Nat} {i : Int32} {x : Int64} (hd : decode (mB m) pc = .ok (.lastore, 1)) (ha : a % 64 = k) (hk : AK k 1 n) (hj : i.toNatClampNeg = j) (hi : vp_in i n) (h : X m (pc + 1) L S (sl M a j x) b Q) : X m pc L (.long x :: .int i :: .ref a :: S) M b Q := by subst hj; exact x_astL hd ha hk hi h
theorem lgc (x y : Int64) : (lg_cmp x y = 0 ↔ x = y) ∧ (lg_cmp x y < 0 ↔ x < y) ∧ (0 < lg_cmp x y ↔ y < x) := by
  unfold lg_cmp
  by_cases h1 : y < x
  · rw [if_pos h1]
    refine ⟨⟨fun h => absurd h (by decide), fun h => ?_⟩, ⟨fun h => absurd h (by decide), fun h => ?_⟩, ⟨fun _ => h1, fun _ => by decide⟩⟩
    · subst h; exact (Int64.lt_irrefl h1).elim
    · exact (Int64.lt_irrefl (Int64.lt_trans h h1)).elim
  · rw [if_neg h1]
    by_cases h2 : x = y
    · rw [if_pos h2]
      refine ⟨⟨fun _ => h2, fun _ => rfl⟩, ⟨fun h => absurd h (by decide), fun h => ?_⟩, ⟨fun h => absurd h (by decide), fun h => absurd h h1⟩⟩
      subst h2; exact (Int64.lt_irrefl h).elim
    · rw [if_neg h2]
      refine ⟨⟨fun h => absurd h (by decide), fun h => absurd h h2⟩, ⟨fun _ => ?_, fun _ => by decide⟩, ⟨fun h => absurd h (by decide), fun h => absurd h h1⟩⟩
      rcases Int64.lt_or_eq_of_le (Int64.not_lt.mp h1) with h | h
      · exact h
      · exact absurd h h2
theorem i32_ge0 {x : Int32} : (0 ≤ x) ↔ ¬ x < 0 := ⟨fun h q => absurd h (Int32.not_le.mpr q), fun h => Int32.not_lt.mp h⟩
theorem i32_le0 {x : Int32} : (x ≤ 0) ↔ ¬ 0 < x := ⟨fun h q => absurd h (Int32.not_le.mpr q), fun h => Int32.not_lt.mp h⟩
theorem x_lc_eq {x y : Int64} {off : Int} {t : Nat} (hd : decode (mB m) pc = .ok (.lcmp, 1)) (hd2 : decode (mB m) (pc + 1) = .ok (.ifCond .eq off, 3)) (ht : ((pc + 1 : Nat) : Int) + off = (t : Int)) (h1 : x = y → X m t L S M b Q) (h2 : ¬ x = y → X m (pc + 1 + 3) L S M b Q) : X m pc L (.long y :: .long x :: S) M b Q := x_lcmp hd (x_if_eq hd2 ht (fun h => h1 ((lgc x y).1.mp h)) (fun h => h2 (fun q => h ((lgc x y).1.mpr q))))
theorem x_lc_ne {x y : Int64} {off : Int} {t : Nat} (hd : decode (mB m) pc = .ok (.lcmp, 1)) (hd2 : decode (mB m) (pc + 1) = .ok (.ifCond .ne off, 3)) (ht : ((pc + 1 : Nat) : Int) + off = (t : Int)) (h1 : ¬ x = y → X m t L S M b Q) (h2 : x = y → X m (pc + 1 + 3) L S M b Q) : X m pc L (.long y :: .long x :: S) M b Q := x_lcmp hd (x_if_ne hd2 ht (fun h => h1 (fun q => h ((lgc x y).1.mpr q))) (fun h => h2 ((lgc x y).1.mp h)))
theorem x_lc_lt {x y : Int64} {off : Int} {t : Nat} (hd : decode (mB m) pc = .ok (.lcmp, 1)) (hd2 : decode (mB m) (pc + 1) = .ok (.ifCond .lt off, 3)) (ht : ((pc + 1 : Nat) : Int) + off = (t : Int)) (h1 : x < y → X m t L S M b Q) (h2 : ¬ x < y → X m (pc + 1 + 3) L S M b Q) : X m pc L (.long y :: .long x :: S) M b Q := x_lcmp hd (x_if_lt hd2 ht (fun h => h1 ((lgc x y).2.1.mp h)) (fun h => h2 (fun q => h ((lgc x y).2.1.mpr q))))
theorem x_lc_ge {x y : Int64} {off : Int} {t : Nat} (hd : decode (mB m) pc = .ok (.lcmp, 1)) (hd2 : decode (mB m) (pc + 1) = .ok (.ifCond .ge off, 3)) (ht : ((pc + 1 : Nat) : Int) + off = (t : Int)) (h1 : ¬ x < y → X m t L S M b Q) (h2 : x < y → X m (pc + 1 + 3) L S M b Q) : X m pc L (.long y :: .long x :: S) M b Q := x_lcmp hd (x_if_ge hd2 ht (fun h => h1 (fun q => (i32_ge0.mp h) ((lgc x y).2.1.mpr q))) (fun h => h2 ((lgc x y).2.1.mp (Int32.not_le.mp h))))
theorem x_lc_gt {x y : Int64} {off : Int} {t : Nat} (hd : decode (mB m) pc = .ok (.lcmp, 1)) (hd2 : decode (mB m) (pc + 1) = .ok (.ifCond .gt off, 3)) (ht : ((pc + 1 : Nat) : Int) + off = (t : Int)) (h1 : y < x → X m t L S M b Q) (h2 : ¬ y < x → X m (pc + 1 + 3) L S M b Q) : X m pc L (.long y :: .long x :: S) M b Q := x_lcmp hd (x_if_gt hd2 ht (fun h => h1 ((lgc x y).2.2.mp h)) (fun h => h2 (fun q => h ((lgc x y).2.2.mpr q))))
theorem x_lc_le {x y : Int64} {off : Int} {t : Nat} (hd : decode (mB m) pc = .ok (.lcmp, 1)) (hd2 : decode (mB m) (pc + 1) = .ok (.ifCond .le off, 3)) (ht : ((pc + 1 : Nat) : Int) + off = (t : Int)) (h1 : ¬ y < x → X m t L S M b Q) (h2 : y < x → X m (pc + 1 + 3) L S M b Q) : X m pc L (.long y :: .long x :: S) M b Q := x_lcmp hd (x_if_le hd2 ht (fun h => h1 (fun q => (i32_le0.mp h) ((lgc x y).2.2.mpr q))) (fun h => h2 ((lgc x y).2.2.mp (Int32.not_le.mp h))))
theorem x_retQI {K : Int32 → Mm → Prop} {v : Int32} {ty : FieldType} (hd : decode (mB m) pc = .ok (.ireturn, 1)) (ht : mT m = some ty) (hn : narrow ty (.int v) = .int v) (h : K v M) : X m pc L [.int v] M b (QI K) := x_retI hd ht hn ⟨v, rfl, h⟩
theorem x_retQJ {K : Int64 → Mm → Prop} {v : Int64} (hd : decode (mB m) pc = .ok (.lreturn, 1)) (ht : mT m = some .long) (h : K v M) : X m pc L [.long v] M b (QJ K) := x_retL hd ht ⟨v, rfl, h⟩
theorem x_retQV {K : Mm → Prop} (hd : decode (mB m) pc = .ok (.return_, 1)) (ht : mT m = none) (h : K M) : X m pc L [] M b (QV K) := x_ret0 hd ht ⟨rfl, h⟩
end ROWS5
