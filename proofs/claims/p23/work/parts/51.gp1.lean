/-! ===== the reference's reader: look, wants, next ===== -/
def lk (T : Nat → Int32) (t p : Nat) : Int32 := if t ≤ p then -1 else T p
/-- past bytes of a kind -/
def rn (f : Int32 → Bool) (T : Nat → Int32) (t : Nat) : Nat → Nat → Nat
  | 0, p => p
  | n + 1, p => if f (lk T t p) = true then rn f T t n (p + 1) else p
def isB (c : Int32) : Bool := decide (c = 32)
def isA (c : Int32) : Bool := decide (¬ c < 97 ∧ ¬ 122 < c)
def isF (c : Int32) : Bool := decide (¬ c < 48 ∧ ¬ 57 < c)
theorem rn_ge (f : Int32 → Bool) (T : Nat → Int32) (t : Nat) : ∀ n p, p ≤ rn f T t n p
  | 0, p => Nat.le_refl p
  | n + 1, p => by
    rw [rn]
    split
    · exact Nat.le_trans (Nat.le_succ p) (rn_ge f T t n (p + 1))
    · exact Nat.le_refl p
theorem rn_le (f : Int32 → Bool) (T : Nat → Int32) (t : Nat) (hf : f (-1) = false) : ∀ n p, p ≤ t → rn f T t n p ≤ t
  | 0, p, h => h
  | n + 1, p, h => by
    rw [rn]
    split
    · rename_i q
      refine rn_le f T t hf n (p + 1) ?_
      by_cases l : t ≤ p
      · rw [lk, if_pos l, hf] at q; exact absurd q (by decide)
      · omega
    · exact h
/-- the reader's own fields alone change -/
def PF (M N : Mm) : Prop := gr N = gr M ∧ gl N = gl M ∧ (∀ a, a ≠ 6027 → gi N a = gi M a) ∧ ∀ k, ¬ (12 ≤ k ∧ k ≤ 17) → gi N 6027 k = gi M 6027 k
theorem pf_rf (M : Mm) : PF M M := ⟨rfl, rfl, fun _ _ => rfl, fun _ _ => rfl⟩
theorem pf_tr {M N O : Mm} (f : PF M N) (g : PF N O) : PF M O := ⟨g.1.trans f.1, g.2.1.trans f.2.1, fun a h => (g.2.2.1 a h).trans (f.2.2.1 a h), fun k h => (g.2.2.2 k h).trans (f.2.2.2 k h)⟩
theorem pf_si {M N : Mm} {k : Nat} {v : Int32} (f : PF M N) (h1 : 12 ≤ k) (h2 : k ≤ 17) : PF M (si N 6027 k v) := by
  refine ⟨f.1, f.2.1, fun a h => ?_, fun i h => ?_⟩
  · rw [← f.2.2.1 a h]; funext i; rw [giR _ _ _ _ _ _ h]
  · rw [gi_si, if_neg (fun q => h (by omega))]; exact f.2.2.2 i h
theorem g6 (M : Mm) (k i : Nat) (v : Int32) (h : i ≠ k) : gi (si M 6027 k v) 6027 i = gi M 6027 i := by rw [gi_si, if_neg (fun q => h q.2)]
theorem g6s (M : Mm) (k : Nat) (v : Int32) : gi (si M 6027 k v) 6027 k = v := by rw [gi_si, if_pos ⟨rfl, rfl⟩]
/-- the tape, at t bytes -/
def TP (M : Mm) (T : Nat → Int32) (t : Nat) : Prop := MR M ∧ gi M 6027 11 = nI t ∧ t ≤ 400 ∧ gi M 6486 = T
theorem tp_pf {M N : Mm} {T : Nat → Int32} {t : Nat} (f : PF M N) (h : TP M T t) : TP N T t := ⟨mr_w h.1 f.1, (f.2.2.2 11 (by decide)).trans h.2.1, h.2.2.1, (f.2.2.1 6486 (by decide)).trans h.2.2.2⟩
theorem sM_look {M : Mm} {T : Nat → Int32} {t p : Nat} {K : Int32 → Mm → Prop} (tp : TP M T t) (hp : p < 2 ^ 31) (h : K (lk T t p) M) : CI mM_look [.ref 6027, .int (nI p)] M K := by
  obtain ⟨hm, ht, ht2, hT⟩ := tp
  refine call_of rfl (Nat.le_of_ble_eq_true rfl) rfl (vM_look_0 rfl (mr10 hm) ⟨fun q => ?_, ?_⟩)
  · rw [ht, nle hp (by omega)] at q
    exact vin (by omega) (by decide)
  · rw [ht, hT, ncl hp]
    unfold lk at h
    by_cases l : t ≤ p
    · rw [if_pos l] at h; rw [if_pos ((nle hp (by omega)).mpr l)]; exact h
    · rw [if_neg l] at h; rw [if_neg (fun q => l ((nle hp (by omega)).mp q))]; exact h
theorem sM_wants {M : Mm} {g c : Int32} {K : Mm → Prop} (h0 : (¬ g = 0 ∨ ¬ gi M 6027 16 = 0) → K M) (h1 : g = 0 → gi M 6027 16 = 0 → K (si (si M 6027 16 c) 6027 17 (gi M 6027 13))) : CV mM_wants [.ref 6027, .int g, .int c] M K := by
  refine call_of rfl (Nat.le_of_ble_eq_true rfl) rfl (vM_wants_0 rfl ⟨fun q => h0 (q.imp id (fun q => q.2)), fun q => ?_⟩)
  rw [g6 _ _ _ _ (by decide)]
  exact h1 q.1 q.2
/-- the number of the first figures -/
def vlf (T : Nat → Int32) (t p : Nat) : Nat → Int32
  | 0 => 0
  | k + 1 => if k < 3 then (10 * vlf T t p k + lk T t (p + k)) - 48 else vlf T t p k
theorem nsub {a b : Nat} (h : b ≤ a) : nI a - nI b = nI (a - b) := by
  have : nI a = nI (a - b) + nI b := by
    show Int32.ofNat a = Int32.ofNat (a - b) + Int32.ofNat b
    rw [← Int32.ofNat_add, Nat.sub_add_cancel h]
  rw [this]; exact Int32.add_sub_cancel _ _
/-- where a token begins, and its first byte -/
def nx1 (T : Nat → Int32) (t p : Nat) : Nat := rn isB T t 401 p
/-- what next makes of a reader without a fault at p -/
def NX (T : Nat → Int32) (t p : Nat) (M N : Mm) : Prop := PF M N ∧ gi N 6027 13 = nI (nx1 T t p) ∧
  ((lk T t (nx1 T t p) < 0 ∧ gi N 6027 12 = nI (nx1 T t p) ∧ gi N 6027 14 = 0 ∧ gi N 6027 15 = gi M 6027 15 ∧ gi N 6027 16 = gi M 6027 16 ∧ gi N 6027 17 = gi M 6027 17) ∨
   (¬ lk T t (nx1 T t p) < 0 ∧ isA (lk T t (nx1 T t p)) = true ∧ gi N 6027 12 = nI (rn isA T t 401 (nx1 T t p)) ∧ gi N 6027 14 = 1 ∧ gi N 6027 15 = gi M 6027 15 ∧ gi N 6027 16 = gi M 6027 16 ∧ gi N 6027 17 = gi M 6027 17) ∨
   (¬ lk T t (nx1 T t p) < 0 ∧ isA (lk T t (nx1 T t p)) = false ∧ isF (lk T t (nx1 T t p)) = true ∧ gi N 6027 12 = nI (rn isF T t 401 (nx1 T t p)) ∧ gi N 6027 14 = 2 ∧ gi N 6027 15 = vlf T t (nx1 T t p) (rn isF T t 401 (nx1 T t p) - nx1 T t p) ∧ (if rn isF T t 401 (nx1 T t p) - nx1 T t p ≤ 3 then gi N 6027 16 = gi M 6027 16 ∧ gi N 6027 17 = gi M 6027 17 else gi N 6027 16 = 1 ∧ gi N 6027 17 = nI (nx1 T t p))) ∨
   (¬ lk T t (nx1 T t p) < 0 ∧ isA (lk T t (nx1 T t p)) = false ∧ isF (lk T t (nx1 T t p)) = false ∧ gi N 6027 12 = nI (nx1 T t p + 1) ∧ gi N 6027 14 = (if lk T t (nx1 T t p) = 45 then 3 else 4) ∧ gi N 6027 15 = gi M 6027 15 ∧ (if lk T t (nx1 T t p) = 45 ∨ lk T t (nx1 T t p) = 59 then gi N 6027 16 = gi M 6027 16 ∧ gi N 6027 17 = gi M 6027 17 else gi N 6027 16 = 1 ∧ gi N 6027 17 = nI (nx1 T t p))))
