/-! ===== which name stands there ===== -/
def NT : List (List Int32 × Int32) := [([119, 111, 114, 100], 0), ([99, 105, 116, 101], 1), ([97, 103, 97, 105, 110, 115, 116], 2), ([110, 111, 116, 101], 3), ([108, 105, 107, 101], 4), ([108, 97, 119], 5), ([105, 110], 10), ([99, 111, 112, 105, 101, 115], 11), ([109, 97, 105, 110], 12), ([110, 111, 116, 101, 115], 13), ([116, 119, 111], 14), ([104, 101, 97, 100], 15), ([115, 105, 108, 101, 110, 116], 16), ([108, 97, 119, 115], 17), ([108, 97, 116, 101, 114], 18), ([115, 112, 101, 99, 105, 97, 108], 19), ([110, 111, 110, 101], 20), ([102, 105, 114, 115, 116], 21), ([121, 101, 115], 22), ([110, 111], 23), ([111, 112, 101, 110], 24)]
def lkp (k : List Int32) : List (List Int32 × Int32) → Int32
  | [] => -4
  | q :: L => if k = q.1 then q.2 else lkp k L
def nmF (k : List Int32) : Int32 := lkp k NT
theorem lkp_mem (k : List Int32) : ∀ L, lkp k L = -4 ∨ ∃ q ∈ L, k = q.1 ∧ lkp k L = q.2
  | [] => Or.inl rfl
  | q :: L => by
    rw [lkp]
    by_cases c : k = q.1
    · rw [if_pos c]; exact Or.inr ⟨q, List.mem_cons_self, c, rfl⟩
    · rw [if_neg c]
      exact (lkp_mem k L).imp id (fun ⟨q', h1, h2⟩ => ⟨q', List.mem_cons_of_mem _ h1, h2⟩)
theorem nt_of : ∀ q ∈ NT, nmF q.1 = q.2 := by decide +kernel
theorem nt_inj : ∀ q ∈ NT, ∀ q' ∈ NT, q.2 = q'.2 → q.1 = q'.1 := by decide +kernel
theorem nt_n4 : ∀ q ∈ NT, ¬ q.2 = -4 := by decide +kernel
theorem nmF_iff {k : List Int32} {q : List Int32 × Int32} (hq : q ∈ NT) : nmF k = q.2 ↔ k = q.1 := by
  constructor
  · intro h
    rcases lkp_mem k NT with e | ⟨q', h1, h2, h3⟩
    · exact absurd (h.symm.trans e) (nt_n4 q hq)
    · rw [h2]; exact (nt_inj q hq q' h1 (h.symm.trans h3)).symm
  · rintro rfl; exact nt_of q hq
theorem fnd_c (k : List Int32) : ∀ L x, (fnd k L x = -1 ∧ ∀ l ∈ L, ¬ k = l) ∨ ∃ i, i < L.length ∧ L[i]? = some k ∧ fnd k L x = nI (x + i)
  | [], x => Or.inl ⟨rfl, fun l hl => absurd hl List.not_mem_nil⟩
  | l :: L, x => by
    rw [fnd]
    by_cases c : l = k
    · rw [if_pos c]
      exact Or.inr ⟨0, by simp, by simp [c], rfl⟩
    · rw [if_neg c]
      rcases fnd_c k L (x + 1) with ⟨h1, h2⟩ | ⟨i, h1, h2, h3⟩
      · refine Or.inl ⟨h1, fun l' hl => ?_⟩
        rcases List.mem_cons.mp hl with rfl | hl
        · exact fun z => c z.symm
        · exact h2 l' hl
      · refine Or.inr ⟨i + 1, by simpa using h1, by simpa using h2, ?_⟩
        rw [h3, show x + 1 + i = x + (i + 1) by omega]
/-- a place among names, a code -/
theorem fn_rel {k : List Int32} {L : List (List Int32)} {C : List Int32} (h1 : ∀ i, i < L.length → ∀ l, L[i]? = some l → ∃ c, C[i]? = some c ∧ (l, c) ∈ NT) (h2 : ∀ c ∈ C, ∃ l ∈ L, (l, c) ∈ NT) : (fnd k L 0 = -1 ∧ ∀ c ∈ C, ¬ nmF k = c) ∨ ∃ i, i < L.length ∧ fnd k L 0 = nI i ∧ C[i]? = some (nmF k) := by
  rcases fnd_c k L 0 with ⟨e, n⟩ | ⟨i, hi, hl, e⟩
  · refine Or.inl ⟨e, fun c hc z => ?_⟩
    obtain ⟨l, hl, hq⟩ := h2 c hc
    exact n l hl ((nmF_iff (q := (l, c)) hq).mp z)
  · obtain ⟨c, hc, hq⟩ := h1 i hi k hl
    refine Or.inr ⟨i, hi, by rw [e, Nat.zero_add], ?_⟩
    rw [hc, nt_of (k, c) hq]
def NL0 : List (List Int32) := [[119, 111, 114, 100], [99, 105, 116, 101], [97, 103, 97, 105, 110, 115, 116], [110, 111, 116, 101], [108, 105, 107, 101], [108, 97, 119], [105, 110], [99, 111, 112, 105, 101, 115]]
def NL1 : List (List Int32) := [[110, 111], [121, 101, 115]]
def NL2 : List (List Int32) := [[109, 97, 105, 110], [99, 111, 112, 105, 101, 115], [110, 111, 116, 101, 115], [116, 119, 111], [104, 101, 97, 100], [115, 105, 108, 101, 110, 116], [108, 97, 119, 115]]
def NL3 : List (List Int32) := [[110, 111, 110, 101], [108, 97, 116, 101, 114], [115, 112, 101, 99, 105, 97, 108]]
def NL4 : List (List Int32) := [[110, 111], [121, 101, 115], [111, 112, 101, 110]]
def NL5 : List (List Int32) := [[110, 111, 110, 101], [108, 97, 116, 101, 114], [102, 105, 114, 115, 116]]
theorem frq0 (k : List Int32) : (fnd k NL0 0 = -1 ∧ ∀ c ∈ ([0, 1, 2, 3, 4, 5, 10, 11] : List Int32), ¬ nmF k = c) ∨ ∃ i, i < 8 ∧ fnd k NL0 0 = nI i ∧ ([0, 1, 2, 3, 4, 5, 10, 11] : List Int32)[i]? = some (nmF k) := by
  refine fn_rel (L := NL0) (fun i hi l hl => ?_) ?_
  · match i, hi, hl with
    | 0, _, hl => cases hl; exact ⟨0, rfl, by decide +kernel⟩
    | 1, _, hl => cases hl; exact ⟨1, rfl, by decide +kernel⟩
    | 2, _, hl => cases hl; exact ⟨2, rfl, by decide +kernel⟩
    | 3, _, hl => cases hl; exact ⟨3, rfl, by decide +kernel⟩
    | 4, _, hl => cases hl; exact ⟨4, rfl, by decide +kernel⟩
    | 5, _, hl => cases hl; exact ⟨5, rfl, by decide +kernel⟩
    | 6, _, hl => cases hl; exact ⟨10, rfl, by decide +kernel⟩
    | 7, _, hl => cases hl; exact ⟨11, rfl, by decide +kernel⟩
    | n + 8, hi, _ => exact absurd (show n + 8 < 8 from hi) (by omega)
  · decide +kernel
theorem frq1 (k : List Int32) : (fnd k NL1 0 = -1 ∧ ∀ c ∈ ([23, 22] : List Int32), ¬ nmF k = c) ∨ ∃ i, i < 2 ∧ fnd k NL1 0 = nI i ∧ ([23, 22] : List Int32)[i]? = some (nmF k) := by
  refine fn_rel (L := NL1) (fun i hi l hl => ?_) ?_
  · match i, hi, hl with
    | 0, _, hl => cases hl; exact ⟨23, rfl, by decide +kernel⟩
    | 1, _, hl => cases hl; exact ⟨22, rfl, by decide +kernel⟩
    | n + 2, hi, _ => exact absurd (show n + 2 < 2 from hi) (by omega)
  · decide +kernel
theorem frq2 (k : List Int32) : (fnd k NL2 0 = -1 ∧ ∀ c ∈ ([12, 11, 13, 14, 15, 16, 17] : List Int32), ¬ nmF k = c) ∨ ∃ i, i < 7 ∧ fnd k NL2 0 = nI i ∧ ([12, 11, 13, 14, 15, 16, 17] : List Int32)[i]? = some (nmF k) := by
  refine fn_rel (L := NL2) (fun i hi l hl => ?_) ?_
  · match i, hi, hl with
    | 0, _, hl => cases hl; exact ⟨12, rfl, by decide +kernel⟩
    | 1, _, hl => cases hl; exact ⟨11, rfl, by decide +kernel⟩
    | 2, _, hl => cases hl; exact ⟨13, rfl, by decide +kernel⟩
    | 3, _, hl => cases hl; exact ⟨14, rfl, by decide +kernel⟩
    | 4, _, hl => cases hl; exact ⟨15, rfl, by decide +kernel⟩
    | 5, _, hl => cases hl; exact ⟨16, rfl, by decide +kernel⟩
    | 6, _, hl => cases hl; exact ⟨17, rfl, by decide +kernel⟩
    | n + 7, hi, _ => exact absurd (show n + 7 < 7 from hi) (by omega)
  · decide +kernel
theorem frq3 (k : List Int32) : (fnd k NL3 0 = -1 ∧ ∀ c ∈ ([20, 18, 19] : List Int32), ¬ nmF k = c) ∨ ∃ i, i < 3 ∧ fnd k NL3 0 = nI i ∧ ([20, 18, 19] : List Int32)[i]? = some (nmF k) := by
  refine fn_rel (L := NL3) (fun i hi l hl => ?_) ?_
  · match i, hi, hl with
    | 0, _, hl => cases hl; exact ⟨20, rfl, by decide +kernel⟩
    | 1, _, hl => cases hl; exact ⟨18, rfl, by decide +kernel⟩
    | 2, _, hl => cases hl; exact ⟨19, rfl, by decide +kernel⟩
    | n + 3, hi, _ => exact absurd (show n + 3 < 3 from hi) (by omega)
  · decide +kernel
theorem frq4 (k : List Int32) : (fnd k NL4 0 = -1 ∧ ∀ c ∈ ([23, 22, 24] : List Int32), ¬ nmF k = c) ∨ ∃ i, i < 3 ∧ fnd k NL4 0 = nI i ∧ ([23, 22, 24] : List Int32)[i]? = some (nmF k) := by
  refine fn_rel (L := NL4) (fun i hi l hl => ?_) ?_
  · match i, hi, hl with
    | 0, _, hl => cases hl; exact ⟨23, rfl, by decide +kernel⟩
    | 1, _, hl => cases hl; exact ⟨22, rfl, by decide +kernel⟩
    | 2, _, hl => cases hl; exact ⟨24, rfl, by decide +kernel⟩
    | n + 3, hi, _ => exact absurd (show n + 3 < 3 from hi) (by omega)
  · decide +kernel
theorem frq5 (k : List Int32) : (fnd k NL5 0 = -1 ∧ ∀ c ∈ ([20, 18, 21] : List Int32), ¬ nmF k = c) ∨ ∃ i, i < 3 ∧ fnd k NL5 0 = nI i ∧ ([20, 18, 21] : List Int32)[i]? = some (nmF k) := by
  refine fn_rel (L := NL5) (fun i hi l hl => ?_) ?_
  · match i, hi, hl with
    | 0, _, hl => cases hl; exact ⟨20, rfl, by decide +kernel⟩
    | 1, _, hl => cases hl; exact ⟨18, rfl, by decide +kernel⟩
    | 2, _, hl => cases hl; exact ⟨21, rfl, by decide +kernel⟩
    | n + 3, hi, _ => exact absurd (show n + 3 < 3 from hi) (by omega)
  · decide +kernel
theorem nmv_d (T : Nat → Int32) (t f p : Nat) (hp : p ≤ 400) : nmv T t f p = nmF (tkl T t f (p - f)) := by
  unfold nmv rnv
  rw [isv4 T t f p 119 111 114 100 hp, isv4 T t f p 99 105 116 101 hp, isv7 T t f p 97 103 97 105 110 115 116 (by decide) (by decide) hp, isv4 T t f p 110 111 116 101 hp, isv4 T t f p 108 105 107 101 hp, isv3 T t f p 108 97 119 hp, isv2 T t f p 105 110 hp, isv6 T t f p 99 111 112 105 101 115 (by decide) hp, isv4 T t f p 109 97 105 110 hp, isv5 T t f p 110 111 116 101 115 hp, isv3 T t f p 116 119 111 hp, isv4 T t f p 104 101 97 100 hp, isv6 T t f p 115 105 108 101 110 116 (by decide) hp, isv4 T t f p 108 97 119 115 hp, isv5 T t f p 108 97 116 101 114 hp, isv7 T t f p 115 112 101 99 105 97 108 (by decide) (by decide) hp, isv4 T t f p 110 111 110 101 hp, isv5 T t f p 102 105 114 115 116 hp, isv3 T t f p 121 101 115 hp, isv2 T t f p 110 111 hp, isv4 T t f p 111 112 101 110 hp]
  simp only [decide_eq_true_eq]
  rfl
theorem am0 (T : Nat → Int32) (t : Nat) (s : Tst) : amo T t 0 s = fnd (tkl T t s.2.1 (s.2.2.1 - s.2.1)) NL0 0 := by rw [amo_d, sgs0]; rfl
theorem am1 (T : Nat → Int32) (t : Nat) (s : Tst) : amo T t 1 s = fnd (tkl T t s.2.1 (s.2.2.1 - s.2.1)) NL1 0 := by rw [amo_d, sgs1]; rfl
theorem am2 (T : Nat → Int32) (t : Nat) (s : Tst) : amo T t 2 s = fnd (tkl T t s.2.1 (s.2.2.1 - s.2.1)) NL2 0 := by rw [amo_d, sgs2]; rfl
theorem am3 (T : Nat → Int32) (t : Nat) (s : Tst) : amo T t 3 s = fnd (tkl T t s.2.1 (s.2.2.1 - s.2.1)) NL3 0 := by rw [amo_d, sgs3]; rfl
theorem am4 (T : Nat → Int32) (t : Nat) (s : Tst) : amo T t 4 s = fnd (tkl T t s.2.1 (s.2.2.1 - s.2.1)) NL4 0 := by rw [amo_d, sgs4]; rfl
theorem am5 (T : Nat → Int32) (t : Nat) (s : Tst) : amo T t 5 s = fnd (tkl T t s.2.1 (s.2.2.1 - s.2.1)) NL5 0 := by rw [amo_d, sgs5]; rfl
