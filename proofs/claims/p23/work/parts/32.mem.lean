/-! ===== a memory told by lists: rows of numbers (address, from, to, number), references (address, place, to) ===== -/
def LK : List (Nat × Nat × Nat × Int32) → Nat → Nat → Int32
  | [], _, _ => 0
  | q :: L, a, j => if a = q.1 ∧ (q.2.1 ≤ j ∧ j < q.2.2.1) then q.2.2.2 else LK L a j
def GK : List (Nat × Nat × Nat) → Nat → Nat → Option Nat
  | [], _, _ => none
  | q :: L, a, j => if a = q.1 ∧ j = q.2.1 then some q.2.2 else GK L a j
def mem (sh : List Nat) (n : Nat) (xs : Nat → Int32) (I : List (Nat × Nat × Nat × Int32)) (G : List (Nat × Nat × Nat)) : Mm := ((sh, n), (fun a j => if a = 62 then xs j else LK I a j), (fun _ _ => 0), GK G)
theorem LK_no {I : List (Nat × Nat × Nat × Int32)} {a : Nat} (h : I.all (fun q => !(q.1 == a)) = true) (j : Nat) : LK I a j = 0 := by
  induction I with
  | nil => rfl
  | cons q L ih =>
    rw [List.all_cons, Bool.and_eq_true] at h
    rw [LK, if_neg, ih h.2]
    intro e
    have := h.1
    simp [e.1] at this
theorem GK_no {G : List (Nat × Nat × Nat)} {a : Nat} (h : G.all (fun q => !(q.1 == a)) = true) (j : Nat) : GK G a j = none := by
  induction G with
  | nil => rfl
  | cons q L ih =>
    rw [List.all_cons, Bool.and_eq_true] at h
    rw [GK, if_neg, ih h.2]
    intro e
    have := h.1
    simp [e.1] at this
theorem LK_f (I : List (Nat × Nat × Nat × Int32)) (a j : Nat) : LK I a j = LK (I.filter (fun q => q.1 == a)) a j := by
  induction I with
  | nil => rfl
  | cons q L ih =>
    by_cases h : q.1 = a
    · rw [List.filter_cons_of_pos (by simp [h]), LK, LK, ih]
    · rw [List.filter_cons_of_neg (by simp [h]), LK, if_neg (fun e => h e.1.symm), ih]
section MEM
variable {sh : List Nat} {n : Nat} {xs : Nat → Int32} {I : List (Nat × Nat × Nat × Int32)} {G : List (Nat × Nat × Nat)}
theorem mem_nw {k : Nat} (adr : Nat) (h1 : 64 * sh.length + k = adr) (h2 : (adr == 62) = false) (h3 : I.all (fun q => !(q.1 == adr)) = true) (h4 : G.all (fun q => !(q.1 == adr)) = true) : nw (mem sh n xs I G) k = mem (sh ++ [k]) n xs I G := by
  subst h1
  refine mm_ext rfl (fun a j => ?_) (fun a j => ?_) (fun a j => ?_)
  · show (if a = 64 * sh.length + k then 0 else gi (mem sh n xs I G) a j) = _
    by_cases e : a = 64 * sh.length + k
    · subst e
      rw [if_pos rfl]
      show 0 = (if 64 * sh.length + k = 62 then xs j else LK I _ j)
      rw [if_neg (by simpa using h2), LK_no h3]
    · rw [if_neg e]; rfl
  · show (if a = 64 * sh.length + k then 0 else gl (mem sh n xs I G) a j) = _
    split <;> rfl
  · show (if a = 64 * sh.length + k then none else gr (mem sh n xs I G) a j) = _
    by_cases e : a = 64 * sh.length + k
    · subst e
      rw [if_pos rfl]
      exact (GK_no h4 j).symm
    · rw [if_neg e]; rfl
theorem mem_si {a j : Nat} {v : Int32} (h : (a == 62) = false) : si (mem sh n xs I G) a j v = mem sh n xs ((a, j, j + 1, v) :: I) G := by
  refine mm_ext rfl (fun b k => ?_) (fun _ _ => rfl) (fun _ _ => rfl)
  have h : a ≠ 62 := by simpa using h
  rw [gi_si]
  show _ = if b = 62 then xs k else LK ((a, j, j + 1, v) :: I) b k
  rw [LK]
  by_cases e : b = a ∧ k = j
  · rw [if_pos e, if_neg (by omega), if_pos ⟨e.1, by simp only; omega⟩]
  · rw [if_neg e]
    show (if b = 62 then xs k else LK I b k) = _
    by_cases e2 : b = 62
    · rw [if_pos e2, if_pos e2]
    · rw [if_neg e2, if_neg e2, if_neg (fun q => e ⟨q.1, by have := q.2; simp only at this; omega⟩)]
theorem mem_fl {a m : Nat} {v : Int32} (h : (a == 62) = false) : fl (mem sh n xs I G) a m v = mem sh n xs ((a, 0, m, v) :: I) G := by
  refine mm_ext rfl (fun b k => ?_) (fun _ _ => rfl) (fun _ _ => rfl)
  have h : a ≠ 62 := by simpa using h
  rw [gi_fl]
  show _ = if b = 62 then xs k else LK ((a, 0, m, v) :: I) b k
  rw [LK]
  by_cases e : b = a ∧ k < m
  · rw [if_pos e, if_neg (by omega), if_pos ⟨e.1, by simp only; omega⟩]
  · rw [if_neg e]
    show (if b = 62 then xs k else LK I b k) = _
    by_cases e2 : b = 62
    · rw [if_pos e2, if_pos e2]
    · rw [if_neg e2, if_neg e2, if_neg (fun q => e ⟨q.1, by have := q.2; simp only at this; omega⟩)]
theorem mem_sr {a j r : Nat} : sr (mem sh n xs I G) a j (some r) = mem sh n xs I ((a, j, r) :: G) := by
  refine mm_ext rfl (fun _ _ => rfl) (fun _ _ => rfl) (fun b k => ?_)
  rw [gr_sr]
  show _ = GK ((a, j, r) :: G) b k
  rw [GK]
  rfl
theorem mem_gr {a j : Nat} {r : Nat} (h : GK G a j = some r) : gr (mem sh n xs I G) a j = some r := h
theorem mem_gi {a j : Nat} (h : (a == 62) = false) : gi (mem sh n xs I G) a j = LK I a j := if_neg (by simpa using h)
theorem mem_lr {r : Nat} (h1 : r % 64 = 1) (h2 : ∀ q ∈ lrt, GK G r q.1 = some (r + q.2)) (h3 : ∀ w, w < 24 → GK G (r + 81) w = some (r + 776 + 64 * w)) : LR (mem sh n xs I G) r := ⟨h1, h2, h3⟩
end MEM
/-! rows -/
def rwm (M : Mm) (a n : Nat) (f : Nat → Int32) : Mm := (M.1, (fun b k => if b = a ∧ k < n then f k else gi M b k), M.2.2)
theorem gi_rwm (M : Mm) (a n b k : Nat) (f : Nat → Int32) : gi (rwm M a n f) b k = if b = a ∧ k < n then f k else gi M b k := rfl
theorem rwm_0 (M : Mm) (a : Nat) (f : Nat → Int32) : rwm M a 0 f = M := by
  refine mm_ext rfl (fun b k => ?_) (fun _ _ => rfl) (fun _ _ => rfl)
  rw [gi_rwm, if_neg (by omega)]
theorem rwm_s (M : Mm) (a i : Nat) (f : Nat → Int32) : si (rwm M a i f) a i (f i) = rwm M a (i + 1) f := by
  refine mm_ext rfl (fun b k => ?_) (fun _ _ => rfl) (fun _ _ => rfl)
  rw [gi_si, gi_rwm, gi_rwm]
  by_cases hb : b = a
  · subst hb
    by_cases hk : k = i
    · rw [if_pos ⟨rfl, hk⟩, if_pos ⟨rfl, by omega⟩, hk]
    · rw [if_neg (fun h => hk h.2)]
      by_cases hk2 : k < i
      · rw [if_pos ⟨rfl, hk2⟩, if_pos ⟨rfl, by omega⟩]
      · rw [if_neg (fun h => hk2 h.2), if_neg (fun h => by omega)]
  · rw [if_neg (fun h => hb h.1), if_neg (fun h => hb h.1), if_neg (fun h => hb h.1)]
theorem rwm_c (M : Mm) (a n : Nat) (f : Nat → Int32) (v : Int32) (h : ∀ k, k < n → f k = v) : rwm M a n f = fl M a n v := by
  refine mm_ext rfl (fun b k => ?_) (fun _ _ => rfl) (fun _ _ => rfl)
  rw [gi_rwm, gi_fl]
  by_cases e : b = a ∧ k < n
  · rw [if_pos e, if_pos e, h k e.2]
  · rw [if_neg e, if_neg e]
theorem rwmR (M : Mm) (a n b k : Nat) (f : Nat → Int32) (h : b ≠ a) : gi (rwm M a n f) b k = gi M b k := by rw [gi_rwm, if_neg (fun q => h q.1)]
/-! constructors -/
theorem sTa_init {M : Mm} {r : Nat} {K : Mm → Prop} (k : r % 64 = 6) (h : K (sr (nw M 17) r 0 (some (64 * M.1.1.length + 17)))) : CV mTa_init [.ref r] M K :=
  call_of rfl (Nat.le_of_ble_eq_true rfl) rfl (vTa_init_0 (vTa_init_4 (b' := (0, 0)) (by decide) k (vTa_init_13 h)))
theorem sTo_init {M : Mm} {r q : Nat} {K : Mm → Prop} (k : r % 64 = 7) (k2 : q % 64 = 6) (h : K (sr M r 0 (some q))) : CV mTo_init [.ref r, .ref q] M K :=
  call_of rfl (Nat.le_of_ble_eq_true rfl) rfl (vTo_init_0 (vTo_init_4 k k2 (vTo_init_9 h)))
theorem sLr_init {M : Mm} {r q : Nat} {K : Mm → Prop} (k : r % 64 = 2) (k2 : q % 64 = 7) (h : K (sr M r 0 (some q))) : CV mLr_init [.ref r, .ref q] M K :=
  call_of rfl (Nat.le_of_ble_eq_true rfl) rfl (vLr_init_0 (vLr_init_4 k k2 (vLr_init_9 h)))
theorem sRr_init {M : Mm} {r q : Nat} {K : Mm → Prop} (k : r % 64 = 4) (k2 : q % 64 = 7) (h : K (sr M r 0 (some q))) : CV mRr_init [.ref r, .ref q] M K :=
  call_of rfl (Nat.le_of_ble_eq_true rfl) rfl (vRr_init_0 (vRr_init_4 k k2 (vRr_init_9 h)))
theorem sWo_init {M : Mm} {r : Nat} {K : Mm → Prop} (h : K M) : CV mWo_init [.ref r] M K :=
  call_of rfl (Nat.le_of_ble_eq_true rfl) rfl (vWo_init_0 (vWo_init_4 h))
theorem sRu_clear {M : Mm} {r : Nat} {K : Mm → Prop} (k : r % 64 = 3) (h : K (si (si (si (si (si (si (si M r 0 31) r 1 2) r 2 0) r 3 0) r 4 (-4)) r 5 (-4)) r 6 1)) : CV mRu_clear [.ref r] M K :=
  call_of rfl (Nat.le_of_ble_eq_true rfl) rfl (vRu_clear_0 k h)
theorem sRu_init {M : Mm} {r : Nat} {K : Mm → Prop} (k : r % 64 = 3) (h : K (si (si (si (si (si (si (si M r 0 31) r 1 2) r 2 0) r 3 0) r 4 (-4)) r 5 (-4)) r 6 1)) : CV mRu_init [.ref r] M K :=
  call_of rfl (Nat.le_of_ble_eq_true rfl) rfl (vRu_init_0 (vRu_init_4 k (sRu_clear k (vRu_init_8 h))))
theorem sWe_init {M : Mm} {r q1 q2 : Nat} {K : Mm → Prop} (k : r % 64 = 8) (k1 : q1 % 64 = 1) (k2 : q2 % 64 = 3) (h : K (sr (sr (sr (nw M 13) r 3 (some (64 * M.1.1.length + 13))) r 0 (some q1)) r 1 (some q2))) : CV mWe_init [.ref r, .ref q1, .ref q2] M K :=
  call_of rfl (Nat.le_of_ble_eq_true rfl) rfl (vWe_init_0 (vWe_init_4 (b' := (0, 0)) (by decide) k (vWe_init_12 k k1 (vWe_init_17 k k2 (vWe_init_22 h)))))
theorem sFi_init {M : Mm} {r q1 : Nat} {K : Mm → Prop} (k : r % 64 = 0) (k1 : q1 % 64 = 8) (h : K (sr (sr (nw M 16) r 1 (some (64 * M.1.1.length + 16))) r 0 (some q1))) : CV mFi_init [.ref r, .ref q1] M K :=
  call_of rfl (Nat.le_of_ble_eq_true rfl) rfl (vFi_init_0 (vFi_init_4 (b' := (0, 0)) (by decide) k (vFi_init_13 k k1 (vFi_init_18 h))))
theorem sSh_init {M : Mm} {r : Nat} {K : Mm → Prop} (k : r % 64 = 5) (h : K (si (sr (nw M 20) r 0 (some (64 * M.1.1.length + 20))) r 1 (-4))) : CV mSh_init [.ref r] M K :=
  call_of rfl (Nat.le_of_ble_eq_true rfl) rfl (vSh_init_0 (vSh_init_4 (b' := (0, 0)) (by decide) k (vSh_init_12 k h)))
