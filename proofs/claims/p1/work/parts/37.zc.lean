/-! ===== what holds of a new object, and stays while one call works ===== -/
def zl : List (Nat × Nat × Nat × Int32) := [(10, 9, 10, 255), (10, 10, 11, 0), (70, 1, 2, 0), (385, 1, 2, 0), (385, 10, 14, 0), (525, 0, 8, 2), (590, 0, 64, 0), (654, 0, 64, 0), (718, 0, 64, -4), (782, 0, 64, -4), (845, 0, 8, 0), (909, 0, 8, 0), (975, 0, 7, 0), (2689, 1, 2, 0), (2689, 10, 14, 0), (2829, 0, 8, 2), (2894, 0, 64, 0), (2958, 0, 64, 0), (3022, 0, 64, -4), (3086, 0, 64, -4), (3149, 0, 8, 0), (3213, 0, 8, 0), (3279, 0, 7, 0), (4995, 0, 1, 31), (4995, 1, 2, 2), (4995, 2, 3, 0), (4995, 3, 4, 0), (4995, 4, 5, -4), (4995, 5, 6, -4), (4995, 6, 7, 1), (5059, 0, 1, 31), (5059, 1, 2, 2), (5059, 2, 3, 0), (5059, 3, 4, 0), (5059, 4, 5, -4), (5059, 5, 6, -4), (5059, 6, 7, 1), (5123, 0, 1, 31), (5123, 1, 2, 2), (5123, 2, 3, 0), (5123, 3, 4, 0), (5123, 4, 5, -4), (5123, 5, 6, -4), (5123, 6, 7, 1), (5192, 2, 3, 0), (5509, 1, 2, -4), (5509, 2, 3, 0), (5637, 1, 2, -4), (5637, 2, 3, 0), (5765, 1, 2, -4), (5765, 2, 3, 0), (5893, 1, 2, -4), (5893, 2, 3, 0)]
def yl : List (Nat × Nat × Nat × Int32) := [(6027, 0, 1, 0), (6027, 9, 10, 255), (6027, 11, 12, 0), (6027, 16, 17, 0), (6027, 23, 25, 0), (6157, 0, 8, 2), (6543, 0, 1, 31), (6543, 1, 2, 2), (6543, 2, 3, 0), (6543, 3, 4, 0), (6543, 4, 5, -4), (6543, 5, 6, -4), (6543, 6, 7, 1), (6607, 0, 1, 31), (6607, 1, 2, 2), (6607, 2, 3, 0), (6607, 3, 4, 0), (6607, 4, 5, -4), (6607, 5, 6, -4), (6607, 6, 7, 1), (7644, 0, 4, -4), (7708, 0, 4, 0), (7582, 0, 256, 0), (7502, 0, 64, 0)]
def zg : List (Nat × Nat × Nat) := [(10, 0, 70), (10, 1, 199), (10, 2, 258), (10, 3, 324), (10, 4, 385), (10, 5, 2689), (10, 6, 4995), (10, 7, 5059), (10, 8, 5123), (10, 11, 5192), (10, 12, 5312), (10, 13, 5459), (70, 0, 145), (199, 0, 70), (258, 0, 199), (324, 0, 199), (5192, 0, 385), (5192, 3, 5261), (5312, 0, 5192), (5312, 1, 5392), (5459, 0, 5509), (5509, 0, 5588), (5459, 1, 5637), (5637, 0, 5716), (5459, 2, 5765), (5765, 0, 5844), (5459, 3, 5893), (5893, 0, 5972), (385, 0, 466), (385, 2, 525), (385, 3, 590), (385, 4, 654), (385, 5, 718), (385, 6, 782), (385, 7, 845), (385, 8, 909), (385, 9, 975), (385, 14, 1036), (385, 15, 1100), (466, 0, 1161), (466, 1, 1225), (466, 2, 1289), (466, 3, 1353), (466, 4, 1417), (466, 5, 1481), (466, 6, 1545), (466, 7, 1609), (466, 8, 1673), (466, 9, 1737), (466, 10, 1801), (466, 11, 1865), (466, 12, 1929), (466, 13, 1993), (466, 14, 2057), (466, 15, 2121), (466, 16, 2185), (466, 17, 2249), (466, 18, 2313), (466, 19, 2377), (466, 20, 2441), (466, 21, 2505), (466, 22, 2569), (466, 23, 2633), (2689, 0, 2770), (2689, 2, 2829), (2689, 3, 2894), (2689, 4, 2958), (2689, 5, 3022), (2689, 6, 3086), (2689, 7, 3149), (2689, 8, 3213), (2689, 9, 3279), (2689, 14, 3340), (2689, 15, 3404), (2770, 0, 3465), (2770, 1, 3529), (2770, 2, 3593), (2770, 3, 3657), (2770, 4, 3721), (2770, 5, 3785), (2770, 6, 3849), (2770, 7, 3913), (2770, 8, 3977), (2770, 9, 4041), (2770, 10, 4105), (2770, 11, 4169), (2770, 12, 4233), (2770, 13, 4297), (2770, 14, 4361), (2770, 15, 4425), (2770, 16, 4489), (2770, 17, 4553), (2770, 18, 4617), (2770, 19, 4681), (2770, 20, 4745), (2770, 21, 4809), (2770, 22, 4873), (2770, 23, 4937)]

/-- of the reference -/
def YM (M : Mm) : Prop := MR M ∧ (∀ q ∈ yl, ∀ j, q.2.1 ≤ j → j < q.2.2.1 → gi M q.1 j = q.2.2.2) ∧ ∀ a j, gl M a j = 0
def ZM (M : Mm) : Prop := YM M ∧ (∀ q ∈ zg, gr M q.1 q.2.1 = some q.2.2) ∧ ∀ q ∈ zl, ∀ j, q.2.1 ≤ j → j < q.2.2.1 → gi M q.1 j = q.2.2.2
def rin (L : List (Nat × Nat × Nat × Int32)) (a j : Nat) (v : Int32) : Bool := L.any (fun q => q.1 == a && (Nat.ble q.2.1 j && (Nat.blt j q.2.2.1 && q.2.2.2 == v)))
def rok (L : List (Nat × Nat × Nat × Int32)) (a j : Nat) (v : Int32) : Bool := L.all (fun q => !(q.1 == a) || (Nat.blt j q.2.1 || (Nat.ble q.2.2.1 j || q.2.2.2 == v)))
theorem rin_rd {L : List (Nat × Nat × Nat × Int32)} {M : Mm} (z : ∀ q ∈ L, ∀ j, q.2.1 ≤ j → j < q.2.2.1 → gi M q.1 j = q.2.2.2) {a j : Nat} {v : Int32} (h : rin L a j v = true) : gi M a j = v := by
  unfold rin at h
  obtain ⟨q, hq, h2⟩ := List.any_eq_true.mp h
  simp only [Bool.and_eq_true, beq_iff_eq] at h2
  obtain ⟨h3, h4, h5, h6⟩ := h2
  have := z q hq j (Nat.le_of_ble_eq_true h4) (Nat.le_of_ble_eq_true h5)
  rw [h3, h6] at this
  exact this
theorem rok_si {L : List (Nat × Nat × Nat × Int32)} {M : Mm} (z : ∀ q ∈ L, ∀ j, q.2.1 ≤ j → j < q.2.2.1 → gi M q.1 j = q.2.2.2) {a j : Nat} {v : Int32} (h : rok L a j v = true) : ∀ q ∈ L, ∀ k, q.2.1 ≤ k → k < q.2.2.1 → gi (si M a j v) q.1 k = q.2.2.2 := by
  intro q hq k h1 h2
  rw [gi_si]
  by_cases e : q.1 = a ∧ k = j
  · rw [if_pos e]
    have := List.all_eq_true.mp h q hq
    simp only [Bool.or_eq_true, Bool.not_eq_true', beq_eq_false_iff_ne, beq_iff_eq] at this
    rcases this with h3 | h3 | h3 | h3
    · exact absurd e.1 h3
    · have := Nat.le_of_ble_eq_true h3; omega
    · have := Nat.le_of_ble_eq_true h3; omega
    · exact h3.symm
  · rw [if_neg e]; exact z q hq k h1 h2
/-- no row of this address -/
def rno (L : List (Nat × Nat × Nat × Int32)) (a : Nat) : Bool := L.all (fun q => !(q.1 == a))
theorem rno_ok {L : List (Nat × Nat × Nat × Int32)} {a : Nat} (h : rno L a = true) (j : Nat) (v : Int32) : rok L a j v = true := by
  unfold rok
  rw [List.all_eq_true]
  intro q hq
  have := List.all_eq_true.mp h q hq
  rw [this, Bool.true_or]
section ZS
variable {M : Mm} {a j : Nat} {v : Int32}
theorem zf (z : ZM M) (h : rin zl a j v = true) : gi M a j = v := rin_rd z.2.2 h
theorem za (z : ZM M) (n : Nat) (h : (a, 0, n, v) ∈ zl) (hj : j < n) : gi M a j = v := z.2.2 _ h j (Nat.zero_le _) hj
theorem zgr {r : Nat} (z : ZM M) (h : (a, j, r) ∈ zg) : gr M a j = some r := z.2.1 _ h
theorem yf (z : YM M) (h : rin yl a j v = true) : gi M a j = v := rin_rd z.2.1 h
theorem ya (z : YM M) (n : Nat) (h : (a, 0, n, v) ∈ yl) (hj : j < n) : gi M a j = v := z.2.1 _ h j (Nat.zero_le _) hj
theorem ym_si (z : YM M) (h : rok yl a j v = true) : YM (si M a j v) := ⟨z.1, rok_si z.2.1 h, z.2.2⟩
theorem zm_si (z : ZM M) (h : rok yl a j v = true) (h2 : rok zl a j v = true) : ZM (si M a j v) := ⟨ym_si z.1 h, z.2.1, rok_si z.2.2 h2⟩
/-- a row of no number that must stay -/
theorem zm_sc (z : ZM M) (h : rno yl a = true) (h2 : rno zl a = true) : ZM (si M a j v) := zm_si z (rno_ok h j v) (rno_ok h2 j v)
theorem ym_sr {r : Option Nat} (z : YM M) (h : a ≠ 6027) : YM (sr M a j r) := ⟨fun q hq => by rw [gr_sr, if_neg (fun e => h e.1.symm)]; exact z.1 q hq, z.2.1, z.2.2⟩
theorem zm_sr {r : Nat} (z : ZM M) (h : a ≠ 6027) (h2 : zg.all (fun q => !(q.1 == a && q.2.1 == j) || q.2.2 == r) = true) : ZM (sr M a j (some r)) := by
  refine ⟨ym_sr z.1 h, fun q hq => ?_, z.2.2⟩
  rw [gr_sr]
  by_cases e : q.1 = a ∧ q.2.1 = j
  · rw [if_pos e]
    have := List.all_eq_true.mp h2 q hq
    simp only [Bool.or_eq_true, Bool.not_eq_true', Bool.and_eq_false_iff, beq_eq_false_iff_ne, beq_iff_eq] at this
    rcases this with (h3 | h3) | h3
    · exact absurd e.1 h3
    · exact absurd e.2 h3
    · rw [h3]
  · rw [if_neg e]; exact z.2.1 q hq
end ZS
theorem z_lr {M : Mm} (z : ZM M) : LR M 385 := ⟨rfl, fun q hq => zgr z (by revert q; decide +kernel), fun w hw => zgr z (by revert w; decide +kernel)⟩
theorem z_lr2 {M : Mm} (z : ZM M) : LR M 2689 := ⟨rfl, fun q hq => zgr z (by revert q; decide +kernel), fun w hw => zgr z (by revert w; decide +kernel)⟩
theorem g10_0 {M : Mm} (z : ZM M) : gr M 10 0 = some 70 := zgr z (by decide +kernel)
theorem g10_1 {M : Mm} (z : ZM M) : gr M 10 1 = some 199 := zgr z (by decide +kernel)
theorem g10_2 {M : Mm} (z : ZM M) : gr M 10 2 = some 258 := zgr z (by decide +kernel)
theorem g10_3 {M : Mm} (z : ZM M) : gr M 10 3 = some 324 := zgr z (by decide +kernel)
theorem g10_4 {M : Mm} (z : ZM M) : gr M 10 4 = some 385 := zgr z (by decide +kernel)
theorem g10_5 {M : Mm} (z : ZM M) : gr M 10 5 = some 2689 := zgr z (by decide +kernel)
theorem g10_6 {M : Mm} (z : ZM M) : gr M 10 6 = some 4995 := zgr z (by decide +kernel)
theorem g10_7 {M : Mm} (z : ZM M) : gr M 10 7 = some 5059 := zgr z (by decide +kernel)
theorem g10_8 {M : Mm} (z : ZM M) : gr M 10 8 = some 5123 := zgr z (by decide +kernel)
theorem g10_11 {M : Mm} (z : ZM M) : gr M 10 11 = some 5192 := zgr z (by decide +kernel)
theorem g10_12 {M : Mm} (z : ZM M) : gr M 10 12 = some 5312 := zgr z (by decide +kernel)
theorem g10_13 {M : Mm} (z : ZM M) : gr M 10 13 = some 5459 := zgr z (by decide +kernel)
theorem g70_0 {M : Mm} (z : ZM M) : gr M 70 0 = some 145 := zgr z (by decide +kernel)
theorem g199_0 {M : Mm} (z : ZM M) : gr M 199 0 = some 70 := zgr z (by decide +kernel)
theorem g258_0 {M : Mm} (z : ZM M) : gr M 258 0 = some 199 := zgr z (by decide +kernel)
theorem g324_0 {M : Mm} (z : ZM M) : gr M 324 0 = some 199 := zgr z (by decide +kernel)
theorem g5192_0 {M : Mm} (z : ZM M) : gr M 5192 0 = some 385 := zgr z (by decide +kernel)
theorem g5192_3 {M : Mm} (z : ZM M) : gr M 5192 3 = some 5261 := zgr z (by decide +kernel)
theorem g5312_0 {M : Mm} (z : ZM M) : gr M 5312 0 = some 5192 := zgr z (by decide +kernel)
theorem g5312_1 {M : Mm} (z : ZM M) : gr M 5312 1 = some 5392 := zgr z (by decide +kernel)
