/-! ===== the law ===== -/
theorem call_km {m : MI} {as : List Value} {M : Mm} {Q : Option Value → Mm → Prop} (h : CALL m as M Q) : CALL m as M (fun r N => Q r N ∧ KM M N) := by
  intro l g hw hok p e h1 h2 h3 s mid args below h4 h5 h6 h7
  obtain ⟨n, o, a1, a2, a3, ⟨r, N, b1, b2, b3, b4⟩, b5⟩ := h l g hw hok p e h1 h2 h3 s mid args below h4 h5 h6 h7
  exact ⟨n, o, a1, a2, a3, ⟨r, N, b1, b2, ⟨b3, b4.2.2.1⟩, b4⟩, b5⟩
theorem ci_km {m : MI} {as : List Value} {M : Mm} {K : Int32 → Mm → Prop} (h : CI m as M (fun r N => KM M N → K r N)) : CI m as M K := call_mono (call_km h) (fun r N ⟨⟨v, h1, h2⟩, h3⟩ => ⟨v, h1, h2 h3⟩)
theorem cj_km {m : MI} {as : List Value} {M : Mm} {K : Int64 → Mm → Prop} (h : CJ m as M (fun r N => KM M N → K r N)) : CJ m as M K := call_mono (call_km h) (fun r N ⟨⟨v, h1, h2⟩, h3⟩ => ⟨v, h1, h2 h3⟩)
theorem inn {n i : Nat} (k : Nat) {x : Int32} (hx : x = nI k) (hn : n ≤ 3072) (h : i + k < n) : vp_in (nI i + x) n := by
  rw [hx, nadd]; exact vin h (by omega)
theorem i6 (i : Nat) : nI i + 6 = nI (i + 6) := nadd i 6
theorem lw_c {n i : Nat} (hn : n ≤ 3072) (hi : i ≤ 3072) : (Int32.ofNat n - 6 < nI i) ↔ n < i + 6 := by
  by_cases h : 6 ≤ n
  · have e : Int32.ofNat n - 6 = nI (n - 6) := nsub (a := n) (b := 6) h
    rw [e, nlt (by omega) (by omega)]; omega
  · have a : ∀ n, n < 6 → Int32.ofNat n - 6 < 0 := by decide +kernel
    have b : (0 : Int32) ≤ nI i := nI_pos' (by omega)
    constructor
    · intro _; omega
    · intro _; exact Int32.lt_of_lt_of_le (a n (by omega)) b
theorem law_0 {M : Mm} {b : Nat × Nat} {K : Int32 → Mm → Prop} {n i : Nat} (z : INY M) (e : M.1.2 = n) (hn : n ≤ 3072) (hi : i + 6 ≤ n) (hK : ∀ N, INY N → N.1.2 = n → X mLa_law 18 [(0, .ref 62), (1, .ref 10), (2, .ref 6027), (3, .int (nI (i + 6)))] [] N b (QI K)) : CI mC_feed [.ref 10, .long ((((gi M 62 (nI i + 1).toNatClampNeg).toInt64) <<< (((32 : Int32)).toInt64 &&& 63)) ||| (((gi M 62 (nI i + 2).toNatClampNeg).toInt64) &&& 4294967295))] M (fun rv N => X mLa_law 212 [(0, .ref 62), (1, .ref 10), (2, .ref 6027), (3, .int (nI i))] [.int rv] N b (QI K)) := by
  refine ci_km (ci_mono (py_feed (Z := fun r s O => INY O ∧ r = s) z (fun r s N iN q => ⟨iN, q⟩)) (fun rv N hN km => ?_))
  have n1 : N.1.2 = n := km.2.1.trans e
  refine vLa_law_212 rfl ⟨by rw [n1]; exact inn 1 rfl hn (by omega), by rw [n1]; exact inn 2 rfl hn (by omega), ?_⟩
  simp only [km.2.2]
  refine ci_km (ci_mono hN (fun s O hO km2 => ?_))
  have f := hK O hO.1 (km2.2.1.trans n1)
  rw [← i6] at f
  exact vLa_law_237 f
theorem law_1 {M : Mm} {b : Nat × Nat} {K : Int32 → Mm → Prop} {n i : Nat} (z : INY M) (e : M.1.2 = n) (hn : n ≤ 3072) (hi : i + 6 ≤ n) (hK : ∀ N, INY N → N.1.2 = n → X mLa_law 18 [(0, .ref 62), (1, .ref 10), (2, .ref 6027), (3, .int (nI (i + 6)))] [] N b (QI K)) : CI mC_end [.ref 10, .int (gi M 62 (nI i + 1).toNatClampNeg)] M (fun rv N => X mLa_law 250 [(0, .ref 62), (1, .ref 10), (2, .ref 6027), (3, .int (nI i))] [.int rv] N b (QI K)) := by
  refine ci_km (ci_mono (py_end (Z := fun r s O => INY O ∧ r = s) z (fun r s N iN q => ⟨iN, q⟩)) (fun rv N hN km => ?_))
  have n1 : N.1.2 = n := km.2.1.trans e
  refine vLa_law_250 rfl ⟨by rw [n1]; exact inn 1 rfl hn (by omega), ?_⟩
  simp only [km.2.2]
  refine ci_km (ci_mono hN (fun s O hO km2 => ?_))
  have f := hK O hO.1 (km2.2.1.trans n1)
  rw [← i6] at f
  exact vLa_law_260 f
theorem law_2 {M : Mm} {b : Nat × Nat} {K : Int32 → Mm → Prop} {n i : Nat} (z : INY M) (e : M.1.2 = n) (hn : n ≤ 3072) (hi : i + 6 ≤ n) (hK : ∀ N, INY N → N.1.2 = n → X mLa_law 18 [(0, .ref 62), (1, .ref 10), (2, .ref 6027), (3, .int (nI (i + 6)))] [] N b (QI K)) : CI mC_library [.ref 10] M (fun rv N => X mLa_law 268 [(0, .ref 62), (1, .ref 10), (2, .ref 6027), (3, .int (nI i))] [.int rv] N b (QI K)) := by
  refine ci_km (ci_mono (py_library (Z := fun r s O => INY O ∧ r = s) z (fun r s N iN q => ⟨iN, q⟩)) (fun rv N hN km => ?_))
  have n1 : N.1.2 = n := km.2.1.trans e
  refine vLa_law_268 rfl ?_
  refine ci_km (ci_mono hN (fun s O hO km2 => ?_))
  have f := hK O hO.1 (km2.2.1.trans n1)
  rw [← i6] at f
  exact vLa_law_273 f
theorem law_3 {M : Mm} {b : Nat × Nat} {K : Int32 → Mm → Prop} {n i : Nat} (z : INY M) (e : M.1.2 = n) (hn : n ≤ 3072) (hi : i + 6 ≤ n) (hK : ∀ N, INY N → N.1.2 = n → X mLa_law 18 [(0, .ref 62), (1, .ref 10), (2, .ref 6027), (3, .int (nI (i + 6)))] [] N b (QI K)) : CI mC_rule [.ref 10] M (fun rv N => X mLa_law 281 [(0, .ref 62), (1, .ref 10), (2, .ref 6027), (3, .int (nI i))] [.int rv] N b (QI K)) := by
  refine ci_km (ci_mono (py_rule (Z := fun r s O => INY O ∧ r = s) z (fun r s N iN q => ⟨iN, q⟩)) (fun rv N hN km => ?_))
  have n1 : N.1.2 = n := km.2.1.trans e
  refine vLa_law_281 rfl ?_
  refine ci_km (ci_mono hN (fun s O hO km2 => ?_))
  have f := hK O hO.1 (km2.2.1.trans n1)
  rw [← i6] at f
  exact vLa_law_286 f
theorem law_4 {M : Mm} {b : Nat × Nat} {K : Int32 → Mm → Prop} {n i : Nat} (z : INY M) (e : M.1.2 = n) (hn : n ≤ 3072) (hi : i + 6 ≤ n) (hK : ∀ N, INY N → N.1.2 = n → X mLa_law 18 [(0, .ref 62), (1, .ref 10), (2, .ref 6027), (3, .int (nI (i + 6)))] [] N b (QI K)) : CI mC_fault [.ref 10] M (fun rv N => X mLa_law 294 [(0, .ref 62), (1, .ref 10), (2, .ref 6027), (3, .int (nI i))] [.int rv] N b (QI K)) := by
  refine ci_km (ci_mono (py_fault (Z := fun r s O => INY O ∧ r = s) z (fun r s N iN q => ⟨iN, q⟩)) (fun rv N hN km => ?_))
  have n1 : N.1.2 = n := km.2.1.trans e
  refine vLa_law_294 rfl ?_
  refine ci_km (ci_mono hN (fun s O hO km2 => ?_))
  have f := hK O hO.1 (km2.2.1.trans n1)
  rw [← i6] at f
  exact vLa_law_299 f
theorem law_5 {M : Mm} {b : Nat × Nat} {K : Int32 → Mm → Prop} {n i : Nat} (z : INY M) (e : M.1.2 = n) (hn : n ≤ 3072) (hi : i + 6 ≤ n) (hK : ∀ N, INY N → N.1.2 = n → X mLa_law 18 [(0, .ref 62), (1, .ref 10), (2, .ref 6027), (3, .int (nI (i + 6)))] [] N b (QI K)) : CI mC_weighs [.ref 10, .int (gi M 62 (nI i + 1).toNatClampNeg)] M (fun rv N => X mLa_law 312 [(0, .ref 62), (1, .ref 10), (2, .ref 6027), (3, .int (nI i))] [.int rv] N b (QI K)) := by
  refine ci_km (ci_mono (py_weighs (Z := fun r s O => INY O ∧ r = s) z (fun r s N iN q => ⟨iN, q⟩)) (fun rv N hN km => ?_))
  have n1 : N.1.2 = n := km.2.1.trans e
  refine vLa_law_312 rfl ⟨by rw [n1]; exact inn 1 rfl hn (by omega), ?_⟩
  simp only [km.2.2]
  refine ci_km (ci_mono hN (fun s O hO km2 => ?_))
  have f := hK O hO.1 (km2.2.1.trans n1)
  rw [← i6] at f
  exact vLa_law_322 f
theorem law_6 {M : Mm} {b : Nat × Nat} {K : Int32 → Mm → Prop} {n i : Nat} (z : INY M) (e : M.1.2 = n) (hn : n ≤ 3072) (hi : i + 6 ≤ n) (hK : ∀ N, INY N → N.1.2 = n → X mLa_law 18 [(0, .ref 62), (1, .ref 10), (2, .ref 6027), (3, .int (nI (i + 6)))] [] N b (QI K)) : CI mC_word [.ref 10, .int (gi M 62 (nI i + 1).toNatClampNeg), .int (gi M 62 (nI i + 2).toNatClampNeg)] M (fun rv N => X mLa_law 340 [(0, .ref 62), (1, .ref 10), (2, .ref 6027), (3, .int (nI i))] [.int rv] N b (QI K)) := by
  refine ci_km (ci_mono (py_word (Z := fun r s O => INY O) z (fun r s N iN => iN)) (fun rv N hN km => ?_))
  have n1 : N.1.2 = n := km.2.1.trans e
  refine vLa_law_340 rfl ⟨by rw [n1]; exact inn 1 rfl hn (by omega), by rw [n1]; exact inn 2 rfl hn (by omega), ?_⟩
  simp only [km.2.2]
  refine ci_km (ci_mono hN (fun s O hO km2 => ?_))
  have f := hK O hO (km2.2.1.trans n1)
  rw [← i6] at f
  exact vLa_law_355 f
theorem law_7 {M : Mm} {b : Nat × Nat} {K : Int32 → Mm → Prop} {n i : Nat} (z : INY M) (e : M.1.2 = n) (hn : n ≤ 3072) (hi : i + 6 ≤ n) (hK : ∀ N, INY N → N.1.2 = n → X mLa_law 18 [(0, .ref 62), (1, .ref 10), (2, .ref 6027), (3, .int (nI (i + 6)))] [] N b (QI K)) : CI mC_says [.ref 10, .int (gi M 62 (nI i + 1).toNatClampNeg), .int (gi M 62 (nI i + 2).toNatClampNeg)] M (fun rv N => X mLa_law 373 [(0, .ref 62), (1, .ref 10), (2, .ref 6027), (3, .int (nI i))] [.int rv] N b (QI K)) := by
  refine ci_km (ci_mono (py_says (Z := fun r s O => INY O) z (fun r s N iN => iN)) (fun rv N hN km => ?_))
  have n1 : N.1.2 = n := km.2.1.trans e
  refine vLa_law_373 rfl ⟨by rw [n1]; exact inn 1 rfl hn (by omega), by rw [n1]; exact inn 2 rfl hn (by omega), ?_⟩
  simp only [km.2.2]
  refine ci_km (ci_mono hN (fun s O hO km2 => ?_))
  have f := hK O hO (km2.2.1.trans n1)
  rw [← i6] at f
  exact vLa_law_388 f
theorem law_8 {M : Mm} {b : Nat × Nat} {K : Int32 → Mm → Prop} {n i : Nat} (z : INY M) (e : M.1.2 = n) (hn : n ≤ 3072) (hi : i + 6 ≤ n) (hK : ∀ N, INY N → N.1.2 = n → X mLa_law 18 [(0, .ref 62), (1, .ref 10), (2, .ref 6027), (3, .int (nI (i + 6)))] [] N b (QI K)) : CI mC_words [.ref 10, .int (gi M 62 (nI i + 1).toNatClampNeg)] M (fun rv N => X mLa_law 401 [(0, .ref 62), (1, .ref 10), (2, .ref 6027), (3, .int (nI i))] [.int rv] N b (QI K)) := by
  refine ci_km (ci_mono (py_words (Z := fun r s O => INY O) z (fun r s N iN => iN)) (fun rv N hN km => ?_))
  have n1 : N.1.2 = n := km.2.1.trans e
  refine vLa_law_401 rfl ⟨by rw [n1]; exact inn 1 rfl hn (by omega), ?_⟩
  simp only [km.2.2]
  refine ci_km (ci_mono hN (fun s O hO km2 => ?_))
  have f := hK O hO (km2.2.1.trans n1)
  rw [← i6] at f
  exact vLa_law_411 f
theorem law_9 {M : Mm} {b : Nat × Nat} {K : Int32 → Mm → Prop} {n i : Nat} (z : INY M) (e : M.1.2 = n) (hn : n ≤ 3072) (hi : i + 6 ≤ n) (hK : ∀ N, INY N → N.1.2 = n → X mLa_law 18 [(0, .ref 62), (1, .ref 10), (2, .ref 6027), (3, .int (nI (i + 6)))] [] N b (QI K)) : CI mC_meets [.ref 10, .int (gi M 62 (nI i + 1).toNatClampNeg), .int (gi M 62 (nI i + 2).toNatClampNeg)] M (fun rv N => X mLa_law 429 [(0, .ref 62), (1, .ref 10), (2, .ref 6027), (3, .int (nI i))] [.int rv] N b (QI K)) := by
  refine ci_km (ci_mono (py_meets (Z := fun r s O => INY O) z (fun r s N iN => iN)) (fun rv N hN km => ?_))
  have n1 : N.1.2 = n := km.2.1.trans e
  refine vLa_law_429 rfl ⟨by rw [n1]; exact inn 1 rfl hn (by omega), by rw [n1]; exact inn 2 rfl hn (by omega), ?_⟩
  simp only [km.2.2]
  refine ci_km (ci_mono hN (fun s O hO km2 => ?_))
  have f := hK O hO (km2.2.1.trans n1)
  rw [← i6] at f
  exact vLa_law_444 f
theorem law_10 {M : Mm} {b : Nat × Nat} {K : Int32 → Mm → Prop} {n i : Nat} (z : INY M) (e : M.1.2 = n) (hn : n ≤ 3072) (hi : i + 6 ≤ n) (hK : ∀ N, INY N → N.1.2 = n → X mLa_law 18 [(0, .ref 62), (1, .ref 10), (2, .ref 6027), (3, .int (nI (i + 6)))] [] N b (QI K)) : CI mC_steps [.ref 10, .int (gi M 62 (nI i + 1).toNatClampNeg)] M (fun rv N => X mLa_law 457 [(0, .ref 62), (1, .ref 10), (2, .ref 6027), (3, .int (nI i))] [.int rv] N b (QI K)) := by
  refine ci_km (ci_mono (py_steps (Z := fun r s O => INY O) z (fun r s N iN => iN)) (fun rv N hN km => ?_))
  have n1 : N.1.2 = n := km.2.1.trans e
  refine vLa_law_457 rfl ⟨by rw [n1]; exact inn 1 rfl hn (by omega), ?_⟩
  simp only [km.2.2]
  refine ci_km (ci_mono hN (fun s O hO km2 => ?_))
  have f := hK O hO (km2.2.1.trans n1)
  rw [← i6] at f
  exact vLa_law_467 f
theorem law_11 {M : Mm} {b : Nat × Nat} {K : Int32 → Mm → Prop} {n i : Nat} (z : INY M) (e : M.1.2 = n) (hn : n ≤ 3072) (hi : i + 6 ≤ n) (hK : ∀ N, INY N → N.1.2 = n → X mLa_law 18 [(0, .ref 62), (1, .ref 10), (2, .ref 6027), (3, .int (nI (i + 6)))] [] N b (QI K)) : CI mC_each [.ref 10, .int (gi M 62 (nI i + 1).toNatClampNeg), .int (gi M 62 (nI i + 2).toNatClampNeg)] M (fun rv N => X mLa_law 485 [(0, .ref 62), (1, .ref 10), (2, .ref 6027), (3, .int (nI i))] [.int rv] N b (QI K)) := by
  refine ci_km (ci_mono (py_each (Z := fun r s O => INY O) z (fun r s N iN => iN)) (fun rv N hN km => ?_))
  have n1 : N.1.2 = n := km.2.1.trans e
  refine vLa_law_485 rfl ⟨by rw [n1]; exact inn 1 rfl hn (by omega), by rw [n1]; exact inn 2 rfl hn (by omega), ?_⟩
  simp only [km.2.2]
  refine ci_km (ci_mono hN (fun s O hO km2 => ?_))
  have f := hK O hO (km2.2.1.trans n1)
  rw [← i6] at f
  exact vLa_law_500 f
theorem law_12 {M : Mm} {b : Nat × Nat} {K : Int32 → Mm → Prop} {n i : Nat} (z : INY M) (e : M.1.2 = n) (hn : n ≤ 3072) (hi : i + 6 ≤ n) (hK : ∀ N, INY N → N.1.2 = n → X mLa_law 18 [(0, .ref 62), (1, .ref 10), (2, .ref 6027), (3, .int (nI (i + 6)))] [] N b (QI K)) : CI mC_clash [.ref 10, .int (gi M 62 (nI i + 1).toNatClampNeg), .int (gi M 62 (nI i + 2).toNatClampNeg)] M (fun rv N => X mLa_law 518 [(0, .ref 62), (1, .ref 10), (2, .ref 6027), (3, .int (nI i))] [.int rv] N b (QI K)) := by
  refine ci_km (ci_mono (py_clash (Z := fun r s O => INY O) z (fun r s N iN => iN)) (fun rv N hN km => ?_))
  have n1 : N.1.2 = n := km.2.1.trans e
  refine vLa_law_518 rfl ⟨by rw [n1]; exact inn 1 rfl hn (by omega), by rw [n1]; exact inn 2 rfl hn (by omega), ?_⟩
  simp only [km.2.2]
  refine ci_km (ci_mono hN (fun s O hO km2 => ?_))
  have f := hK O hO (km2.2.1.trans n1)
  rw [← i6] at f
  exact vLa_law_533 f
theorem law_13 {M : Mm} {b : Nat × Nat} {K : Int32 → Mm → Prop} {n i : Nat} (z : INY M) (e : M.1.2 = n) (hn : n ≤ 3072) (hi : i + 6 ≤ n) (hK : ∀ N, INY N → N.1.2 = n → X mLa_law 18 [(0, .ref 62), (1, .ref 10), (2, .ref 6027), (3, .int (nI (i + 6)))] [] N b (QI K)) : CI mC_sides [.ref 10, .int (gi M 62 (nI i + 1).toNatClampNeg), .int (gi M 62 (nI i + 2).toNatClampNeg), .int (gi M 62 (nI i + 3).toNatClampNeg)] M (fun rv N => X mLa_law 556 [(0, .ref 62), (1, .ref 10), (2, .ref 6027), (3, .int (nI i))] [.int rv] N b (QI K)) := by
  refine ci_km (ci_mono (py_sides (Z := fun r s O => INY O) z (fun r s N iN => iN)) (fun rv N hN km => ?_))
  have n1 : N.1.2 = n := km.2.1.trans e
  refine vLa_law_556 rfl ⟨by rw [n1]; exact inn 1 rfl hn (by omega), by rw [n1]; exact inn 2 rfl hn (by omega), by rw [n1]; exact inn 3 rfl hn (by omega), ?_⟩
  simp only [km.2.2]
  refine ci_km (ci_mono hN (fun s O hO km2 => ?_))
  have f := hK O hO (km2.2.1.trans n1)
  rw [← i6] at f
  exact vLa_law_576 f
theorem law_14 {M : Mm} {b : Nat × Nat} {K : Int32 → Mm → Prop} {n i : Nat} (z : INY M) (e : M.1.2 = n) (hn : n ≤ 3072) (hi : i + 6 ≤ n) (hK : ∀ N, INY N → N.1.2 = n → X mLa_law 18 [(0, .ref 62), (1, .ref 10), (2, .ref 6027), (3, .int (nI (i + 6)))] [] N b (QI K)) : CI mC_hangs [.ref 10, .int (gi M 62 (nI i + 1).toNatClampNeg), .int (gi M 62 (nI i + 2).toNatClampNeg)] M (fun rv N => X mLa_law 594 [(0, .ref 62), (1, .ref 10), (2, .ref 6027), (3, .int (nI i))] [.int rv] N b (QI K)) := by
  refine ci_km (ci_mono (py_hangs (Z := fun r s O => INY O) z (fun r s N iN => iN)) (fun rv N hN km => ?_))
  have n1 : N.1.2 = n := km.2.1.trans e
  refine vLa_law_594 rfl ⟨by rw [n1]; exact inn 1 rfl hn (by omega), by rw [n1]; exact inn 2 rfl hn (by omega), ?_⟩
  simp only [km.2.2]
  refine ci_km (ci_mono hN (fun s O hO km2 => ?_))
  have f := hK O hO (km2.2.1.trans n1)
  rw [← i6] at f
  exact vLa_law_609 f
theorem law_15 {M : Mm} {b : Nat × Nat} {K : Int32 → Mm → Prop} {n i : Nat} (z : INY M) (e : M.1.2 = n) (hn : n ≤ 3072) (hi : i + 6 ≤ n) (hK : ∀ N, INY N → N.1.2 = n → X mLa_law 18 [(0, .ref 62), (1, .ref 10), (2, .ref 6027), (3, .int (nI (i + 6)))] [] N b (QI K)) : CI mC_held [.ref 10, .int (gi M 62 (nI i + 1).toNatClampNeg), .int (gi M 62 (nI i + 2).toNatClampNeg)] M (fun rv N => X mLa_law 627 [(0, .ref 62), (1, .ref 10), (2, .ref 6027), (3, .int (nI i))] [.int rv] N b (QI K)) := by
  refine ci_km (ci_mono (py_held (Z := fun r s O => INY O) z (fun r s N iN => iN)) (fun rv N hN km => ?_))
  have n1 : N.1.2 = n := km.2.1.trans e
  refine vLa_law_627 rfl ⟨by rw [n1]; exact inn 1 rfl hn (by omega), by rw [n1]; exact inn 2 rfl hn (by omega), ?_⟩
  simp only [km.2.2]
  refine ci_km (ci_mono hN (fun s O hO km2 => ?_))
  have f := hK O hO (km2.2.1.trans n1)
  rw [← i6] at f
  exact vLa_law_642 f
theorem law_16 {M : Mm} {b : Nat × Nat} {K : Int32 → Mm → Prop} {n i : Nat} (z : INY M) (e : M.1.2 = n) (hn : n ≤ 3072) (hi : i + 6 ≤ n) (hK : ∀ N, INY N → N.1.2 = n → X mLa_law 18 [(0, .ref 62), (1, .ref 10), (2, .ref 6027), (3, .int (nI (i + 6)))] [] N b (QI K)) : CJ mC_cases [.ref 10, .int (gi M 62 (nI i + 1).toNatClampNeg)] M (fun rv N => X mLa_law 655 [(0, .ref 62), (1, .ref 10), (2, .ref 6027), (3, .int (nI i))] [.long rv] N b (QI K)) := by
  refine cj_km (cj_mono (py_cases (Z := fun r s O => INY O) z (fun r s N iN => iN)) (fun rv N hN km => ?_))
  have n1 : N.1.2 = n := km.2.1.trans e
  refine vLa_law_655 rfl ⟨by rw [n1]; exact inn 1 rfl hn (by omega), ?_⟩
  simp only [km.2.2]
  refine cj_km (cj_mono hN (fun s O hO km2 => ?_))
  have f := hK O hO (km2.2.1.trans n1)
  rw [← i6] at f
  exact vLa_law_665 f
theorem law_17 {M : Mm} {b : Nat × Nat} {K : Int32 → Mm → Prop} {n i : Nat} (z : INY M) (e : M.1.2 = n) (hn : n ≤ 3072) (hi : i + 6 ≤ n) (hK : ∀ N, INY N → N.1.2 = n → X mLa_law 18 [(0, .ref 62), (1, .ref 10), (2, .ref 6027), (3, .int (nI (i + 6)))] [] N b (QI K)) : CI mC_many [.ref 10, .int (gi M 62 (nI i + 1).toNatClampNeg)] M (fun rv N => X mLa_law 678 [(0, .ref 62), (1, .ref 10), (2, .ref 6027), (3, .int (nI i))] [.int rv] N b (QI K)) := by
  refine ci_km (ci_mono (py_many (Z := fun r s O => INY O) z (fun r s N iN => iN)) (fun rv N hN km => ?_))
  have n1 : N.1.2 = n := km.2.1.trans e
  refine vLa_law_678 rfl ⟨by rw [n1]; exact inn 1 rfl hn (by omega), ?_⟩
  simp only [km.2.2]
  refine ci_km (ci_mono hN (fun s O hO km2 => ?_))
  have f := hK O hO (km2.2.1.trans n1)
  rw [← i6] at f
  exact vLa_law_688 f
theorem law_18 {M : Mm} {b : Nat × Nat} {K : Int32 → Mm → Prop} {n i : Nat} (z : INY M) (e : M.1.2 = n) (hn : n ≤ 3072) (hi : i + 6 ≤ n) (hK : ∀ N, INY N → N.1.2 = n → X mLa_law 18 [(0, .ref 62), (1, .ref 10), (2, .ref 6027), (3, .int (nI (i + 6)))] [] N b (QI K)) : CI mC_reckon [.ref 10, .int (gi M 62 (nI i + 1).toNatClampNeg), .int (gi M 62 (nI i + 2).toNatClampNeg), .int (gi M 62 (nI i + 3).toNatClampNeg), .int (gi M 62 (nI i + 4).toNatClampNeg), .int (gi M 62 (nI i + 5).toNatClampNeg)] M (fun rv N => X mLa_law 721 [(0, .ref 62), (1, .ref 10), (2, .ref 6027), (3, .int (nI i))] [.int rv] N b (QI K)) := by
  refine ci_km (ci_mono (py_reckon (Z := fun r s O => INY O) z (fun r s N iN => iN)) (fun rv N hN km => ?_))
  have n1 : N.1.2 = n := km.2.1.trans e
  refine vLa_law_721 rfl ⟨by rw [n1]; exact inn 1 rfl hn (by omega), by rw [n1]; exact inn 2 rfl hn (by omega), by rw [n1]; exact inn 3 rfl hn (by omega), by rw [n1]; exact inn 4 rfl hn (by omega), by rw [n1]; exact inn 5 rfl hn (by omega), ?_⟩
  simp only [km.2.2]
  refine ci_km (ci_mono hN (fun s O hO km2 => ?_))
  have f := hK O hO (km2.2.1.trans n1)
  rw [← i6] at f
  exact vLa_law_751 f
theorem law_19 {M : Mm} {b : Nat × Nat} {K : Int32 → Mm → Prop} {n i : Nat} (z : INY M) (e : M.1.2 = n) (hn : n ≤ 3072) (hi : i + 6 ≤ n) (hK : ∀ N, INY N → N.1.2 = n → X mLa_law 18 [(0, .ref 62), (1, .ref 10), (2, .ref 6027), (3, .int (nI (i + 6)))] [] N b (QI K)) : CI mC_widest [.ref 10, .int (gi M 62 (nI i + 1).toNatClampNeg)] M (fun rv N => X mLa_law 764 [(0, .ref 62), (1, .ref 10), (2, .ref 6027), (3, .int (nI i))] [.int rv] N b (QI K)) := by
  refine ci_km (ci_mono (py_widest (Z := fun r s O => INY O) z (fun r s N iN => iN)) (fun rv N hN km => ?_))
  have n1 : N.1.2 = n := km.2.1.trans e
  refine vLa_law_764 rfl ⟨by rw [n1]; exact inn 1 rfl hn (by omega), ?_⟩
  simp only [km.2.2]
  refine ci_km (ci_mono hN (fun s O hO km2 => ?_))
  have f := hK O hO (km2.2.1.trans n1)
  rw [← i6] at f
  exact vLa_law_774 f
theorem law_20 {M : Mm} {b : Nat × Nat} {K : Int32 → Mm → Prop} {n i : Nat} (z : INY M) (e : M.1.2 = n) (hn : n ≤ 3072) (hi : i + 6 ≤ n) (hK : ∀ N, INY N → N.1.2 = n → X mLa_law 18 [(0, .ref 62), (1, .ref 10), (2, .ref 6027), (3, .int (nI (i + 6)))] [] N b (QI K)) : CI mC_near [.ref 10, .int (gi M 62 (nI i + 1).toNatClampNeg), .int (gi M 62 (nI i + 2).toNatClampNeg), .int (gi M 62 (nI i + 3).toNatClampNeg)] M (fun rv N => X mLa_law 797 [(0, .ref 62), (1, .ref 10), (2, .ref 6027), (3, .int (nI i))] [.int rv] N b (QI K)) := by
  refine ci_km (ci_mono (py_near (Z := fun r s O => INY O) z (fun r s N iN => iN)) (fun rv N hN km => ?_))
  have n1 : N.1.2 = n := km.2.1.trans e
  refine vLa_law_797 rfl ⟨by rw [n1]; exact inn 1 rfl hn (by omega), by rw [n1]; exact inn 2 rfl hn (by omega), by rw [n1]; exact inn 3 rfl hn (by omega), ?_⟩
  simp only [km.2.2]
  refine ci_km (ci_mono hN (fun s O hO km2 => ?_))
  have f := hK O hO (km2.2.1.trans n1)
  rw [← i6] at f
  exact vLa_law_817 f
theorem law_21 {M : Mm} {b : Nat × Nat} {K : Int32 → Mm → Prop} {n i : Nat} (z : INY M) (e : M.1.2 = n) (hn : n ≤ 3072) (hi : i + 6 ≤ n) (hK : ∀ N, INY N → N.1.2 = n → X mLa_law 18 [(0, .ref 62), (1, .ref 10), (2, .ref 6027), (3, .int (nI (i + 6)))] [] N b (QI K)) : CI mC_bring [.ref 10, .int (gi M 62 (nI i + 1).toNatClampNeg)] M (fun rv N => X mLa_law 830 [(0, .ref 62), (1, .ref 10), (2, .ref 6027), (3, .int (nI i))] [.int rv] N b (QI K)) := by
  refine ci_km (ci_mono (py_bring (Z := fun r s O => INY O ∧ r = s) z (fun r s N iN q => ⟨iN, q⟩)) (fun rv N hN km => ?_))
  have n1 : N.1.2 = n := km.2.1.trans e
  refine vLa_law_830 rfl ⟨by rw [n1]; exact inn 1 rfl hn (by omega), ?_⟩
  simp only [km.2.2]
  refine ci_km (ci_mono hN (fun s O hO km2 => ?_))
  have f := hK O hO.1 (km2.2.1.trans n1)
  rw [← i6] at f
  exact vLa_law_840 f
theorem law_22 {M : Mm} {b : Nat × Nat} {K : Int32 → Mm → Prop} {n i : Nat} (z : INY M) (e : M.1.2 = n) (hn : n ≤ 3072) (hi : i + 6 ≤ n) (hK : ∀ N, INY N → N.1.2 = n → X mLa_law 18 [(0, .ref 62), (1, .ref 10), (2, .ref 6027), (3, .int (nI (i + 6)))] [] N b (QI K)) : CI mC_copies [.ref 10, .int (gi M 62 (nI i + 1).toNatClampNeg), .int (gi M 62 (nI i + 2).toNatClampNeg)] M (fun rv N => X mLa_law 858 [(0, .ref 62), (1, .ref 10), (2, .ref 6027), (3, .int (nI i))] [.int rv] N b (QI K)) := by
  refine ci_km (ci_mono (py_copies (Z := fun r s O => INY O ∧ r = s) z (fun r s N iN q => ⟨iN, q⟩)) (fun rv N hN km => ?_))
  have n1 : N.1.2 = n := km.2.1.trans e
  refine vLa_law_858 rfl ⟨by rw [n1]; exact inn 1 rfl hn (by omega), by rw [n1]; exact inn 2 rfl hn (by omega), ?_⟩
  simp only [km.2.2]
  refine ci_km (ci_mono hN (fun s O hO km2 => ?_))
  have f := hK O hO.1 (km2.2.1.trans n1)
  rw [← i6] at f
  exact vLa_law_873 f
theorem law_23 {M : Mm} {b : Nat × Nat} {K : Int32 → Mm → Prop} {n i : Nat} (z : INY M) (e : M.1.2 = n) (hn : n ≤ 3072) (hi : i + 6 ≤ n) (hK : ∀ N, INY N → N.1.2 = n → X mLa_law 18 [(0, .ref 62), (1, .ref 10), (2, .ref 6027), (3, .int (nI (i + 6)))] [] N b (QI K)) : CI mC_argue [.ref 10, .int (gi M 62 (nI i + 1).toNatClampNeg), .int (gi M 62 (nI i + 2).toNatClampNeg), .int (gi M 62 (nI i + 3).toNatClampNeg)] M (fun rv N => X mLa_law 896 [(0, .ref 62), (1, .ref 10), (2, .ref 6027), (3, .int (nI i))] [.int rv] N b (QI K)) := by
  refine ci_km (ci_mono (py_argue (Z := fun r s O => INY O) z (fun r s N iN => iN)) (fun rv N hN km => ?_))
  have n1 : N.1.2 = n := km.2.1.trans e
  refine vLa_law_896 rfl ⟨by rw [n1]; exact inn 1 rfl hn (by omega), by rw [n1]; exact inn 2 rfl hn (by omega), by rw [n1]; exact inn 3 rfl hn (by omega), ?_⟩
  simp only [km.2.2]
  refine ci_km (ci_mono hN (fun s O hO km2 => ?_))
  have f := hK O hO (km2.2.1.trans n1)
  rw [← i6] at f
  exact vLa_law_916 f
theorem law_24 {M : Mm} {b : Nat × Nat} {K : Int32 → Mm → Prop} {n i : Nat} (z : INY M) (e : M.1.2 = n) (hn : n ≤ 3072) (hi : i + 6 ≤ n) (hK : ∀ N, INY N → N.1.2 = n → X mLa_law 18 [(0, .ref 62), (1, .ref 10), (2, .ref 6027), (3, .int (nI (i + 6)))] [] N b (QI K)) : CI mC_game [.ref 10, .int (gi M 62 (nI i + 1).toNatClampNeg), .int (gi M 62 (nI i + 2).toNatClampNeg), .int (gi M 62 (nI i + 3).toNatClampNeg)] M (fun rv N => X mLa_law 939 [(0, .ref 62), (1, .ref 10), (2, .ref 6027), (3, .int (nI i))] [.int rv] N b (QI K)) := by
  refine ci_km (ci_mono (py_game (Z := fun r s O => INY O) z (fun r s N iN => iN)) (fun rv N hN km => ?_))
  have n1 : N.1.2 = n := km.2.1.trans e
  refine vLa_law_939 rfl ⟨by rw [n1]; exact inn 1 rfl hn (by omega), by rw [n1]; exact inn 2 rfl hn (by omega), by rw [n1]; exact inn 3 rfl hn (by omega), ?_⟩
  simp only [km.2.2]
  refine ci_km (ci_mono hN (fun s O hO km2 => ?_))
  have f := hK O hO (km2.2.1.trans n1)
  rw [← i6] at f
  exact vLa_law_959 f
theorem law_25 {M : Mm} {b : Nat × Nat} {K : Int32 → Mm → Prop} {n i : Nat} (z : INY M) (e : M.1.2 = n) (hn : n ≤ 3072) (hi : i + 6 ≤ n) (hK : ∀ N, INY N → N.1.2 = n → X mLa_law 18 [(0, .ref 62), (1, .ref 10), (2, .ref 6027), (3, .int (nI (i + 6)))] [] N b (QI K)) : CI mC_turn [.ref 10, .int (gi M 62 (nI i + 1).toNatClampNeg)] M (fun rv N => X mLa_law 972 [(0, .ref 62), (1, .ref 10), (2, .ref 6027), (3, .int (nI i))] [.int rv] N b (QI K)) := by
  refine ci_km (ci_mono (pz_turn (Z := fun r s O => INY O ∧ r = s) z (fun r s N iN q => ⟨iN, q⟩)) (fun rv N hN km => ?_))
  have n1 : N.1.2 = n := km.2.1.trans e
  refine vLa_law_972 rfl ⟨by rw [n1]; exact inn 1 rfl hn (by omega), ?_⟩
  simp only [km.2.2]
  refine ci_km (ci_mono hN (fun s O hO km2 => ?_))
  have f := hK O hO.1 (km2.2.1.trans n1)
  rw [← i6] at f
  exact vLa_law_981 ⟨fun _ => f, fun q => absurd hO.2 q⟩
theorem law_26 {M : Mm} {b : Nat × Nat} {K : Int32 → Mm → Prop} {n i : Nat} (z : INY M) (e : M.1.2 = n) (hn : n ≤ 3072) (hi : i + 6 ≤ n) (hK : ∀ N, INY N → N.1.2 = n → X mLa_law 18 [(0, .ref 62), (1, .ref 10), (2, .ref 6027), (3, .int (nI (i + 6)))] [] N b (QI K)) : CI mC_turns [.ref 10, .int (gi M 62 (nI i + 1).toNatClampNeg), .int (gi M 62 (nI i + 2).toNatClampNeg), .int (gi M 62 (nI i + 3).toNatClampNeg)] M (fun rv N => X mLa_law 1005 [(0, .ref 62), (1, .ref 10), (2, .ref 6027), (3, .int (nI i))] [.int rv] N b (QI K)) := by
  refine ci_km (ci_mono (py_turns (Z := fun r s O => INY O) z (fun r s N iN => iN)) (fun rv N hN km => ?_))
  have n1 : N.1.2 = n := km.2.1.trans e
  refine vLa_law_1005 rfl ⟨by rw [n1]; exact inn 1 rfl hn (by omega), by rw [n1]; exact inn 2 rfl hn (by omega), by rw [n1]; exact inn 3 rfl hn (by omega), ?_⟩
  simp only [km.2.2]
  refine ci_km (ci_mono hN (fun s O hO km2 => ?_))
  have f := hK O hO (km2.2.1.trans n1)
  rw [← i6] at f
  exact vLa_law_1025 f
theorem law_27 {M : Mm} {b : Nat × Nat} {K : Int32 → Mm → Prop} {n i : Nat} (z : INY M) (e : M.1.2 = n) (hn : n ≤ 3072) (hi : i + 6 ≤ n) (hK : ∀ N, INY N → N.1.2 = n → X mLa_law 18 [(0, .ref 62), (1, .ref 10), (2, .ref 6027), (3, .int (nI (i + 6)))] [] N b (QI K)) : CI mC_keep [.ref 10] M (fun rv N => X mLa_law 1033 [(0, .ref 62), (1, .ref 10), (2, .ref 6027), (3, .int (nI i))] [.int rv] N b (QI K)) := by
  refine ci_km (ci_mono (py_keep (Z := fun r s O => INY O ∧ r = s) z (fun r s N iN q => ⟨iN, q⟩)) (fun rv N hN km => ?_))
  have n1 : N.1.2 = n := km.2.1.trans e
  refine vLa_law_1033 rfl ?_
  refine ci_km (ci_mono hN (fun s O hO km2 => ?_))
  have f := hK O hO.1 (km2.2.1.trans n1)
  rw [← i6] at f
  exact vLa_law_1038 f
theorem law_28 {M : Mm} {b : Nat × Nat} {K : Int32 → Mm → Prop} {n i : Nat} (z : INY M) (e : M.1.2 = n) (hn : n ≤ 3072) (hi : i + 6 ≤ n) (hK : ∀ N, INY N → N.1.2 = n → X mLa_law 18 [(0, .ref 62), (1, .ref 10), (2, .ref 6027), (3, .int (nI (i + 6)))] [] N b (QI K)) : CI mC_swap [.ref 10] M (fun rv N => X mLa_law 1046 [(0, .ref 62), (1, .ref 10), (2, .ref 6027), (3, .int (nI i))] [.int rv] N b (QI K)) := by
  refine ci_km (ci_mono (py_swap (Z := fun r s O => INY O ∧ r = s) z (fun r s N iN q => ⟨iN, q⟩)) (fun rv N hN km => ?_))
  have n1 : N.1.2 = n := km.2.1.trans e
  refine vLa_law_1046 rfl ?_
  refine ci_km (ci_mono hN (fun s O hO km2 => ?_))
  have f := hK O hO.1 (km2.2.1.trans n1)
  rw [← i6] at f
  exact vLa_law_1051 f
theorem law_29 {M : Mm} {b : Nat × Nat} {K : Int32 → Mm → Prop} {n i : Nat} (z : INY M) (e : M.1.2 = n) (hn : n ≤ 3072) (hi : i + 6 ≤ n) (hK : ∀ N, INY N → N.1.2 = n → X mLa_law 18 [(0, .ref 62), (1, .ref 10), (2, .ref 6027), (3, .int (nI (i + 6)))] [] N b (QI K)) : CI mC_differ [.ref 10, .int (gi M 62 (nI i + 1).toNatClampNeg)] M (fun rv N => X mLa_law 1064 [(0, .ref 62), (1, .ref 10), (2, .ref 6027), (3, .int (nI i))] [.int rv] N b (QI K)) := by
  refine ci_km (ci_mono (py_differ (Z := fun r s O => INY O) z (fun r s N iN => iN)) (fun rv N hN km => ?_))
  have n1 : N.1.2 = n := km.2.1.trans e
  refine vLa_law_1064 rfl ⟨by rw [n1]; exact inn 1 rfl hn (by omega), ?_⟩
  simp only [km.2.2]
  refine ci_km (ci_mono hN (fun s O hO km2 => ?_))
  have f := hK O hO (km2.2.1.trans n1)
  rw [← i6] at f
  exact vLa_law_1074 f
theorem law_30 {M : Mm} {b : Nat × Nat} {K : Int32 → Mm → Prop} {n i : Nat} (z : INY M) (e : M.1.2 = n) (hn : n ≤ 3072) (hi : i + 6 ≤ n) (hK : ∀ N, INY N → N.1.2 = n → X mLa_law 18 [(0, .ref 62), (1, .ref 10), (2, .ref 6027), (3, .int (nI (i + 6)))] [] N b (QI K)) : CI mC_brief [.ref 10, .int (gi M 62 (nI i + 1).toNatClampNeg)] M (fun rv N => X mLa_law 1087 [(0, .ref 62), (1, .ref 10), (2, .ref 6027), (3, .int (nI i))] [.int rv] N b (QI K)) := by
  refine ci_km (ci_mono (py_brief (Z := fun r s O => INY O) z (fun r s N iN => iN)) (fun rv N hN km => ?_))
  have n1 : N.1.2 = n := km.2.1.trans e
  refine vLa_law_1087 rfl ⟨by rw [n1]; exact inn 1 rfl hn (by omega), ?_⟩
  simp only [km.2.2]
  refine ci_km (ci_mono hN (fun s O hO km2 => ?_))
  have f := hK O hO (km2.2.1.trans n1)
  rw [← i6] at f
  exact vLa_law_1097 f
theorem law_31 {M : Mm} {b : Nat × Nat} {K : Int32 → Mm → Prop} {n i : Nat} (z : INY M) (e : M.1.2 = n) (hn : n ≤ 3072) (hi : i + 6 ≤ n) (hK : ∀ N, INY N → N.1.2 = n → X mLa_law 18 [(0, .ref 62), (1, .ref 10), (2, .ref 6027), (3, .int (nI (i + 6)))] [] N b (QI K)) : CI mC_sheet [.ref 10, .int (gi M 62 (nI i + 1).toNatClampNeg), .int (gi M 62 (nI i + 2).toNatClampNeg), .int (gi M 62 (nI i + 3).toNatClampNeg)] M (fun rv N => X mLa_law 1120 [(0, .ref 62), (1, .ref 10), (2, .ref 6027), (3, .int (nI i))] [.int rv] N b (QI K)) := by
  refine ci_km (ci_mono (py_sheet (Z := fun r s O => INY O ∧ r = s) z (fun r s N iN q => ⟨iN, q⟩)) (fun rv N hN km => ?_))
  have n1 : N.1.2 = n := km.2.1.trans e
  refine vLa_law_1120 rfl ⟨by rw [n1]; exact inn 1 rfl hn (by omega), by rw [n1]; exact inn 2 rfl hn (by omega), by rw [n1]; exact inn 3 rfl hn (by omega), ?_⟩
  simp only [km.2.2]
  refine ci_km (ci_mono hN (fun s O hO km2 => ?_))
  have f := hK O hO.1 (km2.2.1.trans n1)
  rw [← i6] at f
  exact vLa_law_1140 f
theorem law_32 {M : Mm} {b : Nat × Nat} {K : Int32 → Mm → Prop} {n i : Nat} (z : INY M) (e : M.1.2 = n) (hn : n ≤ 3072) (hi : i + 6 ≤ n) (hK : ∀ N, INY N → N.1.2 = n → X mLa_law 18 [(0, .ref 62), (1, .ref 10), (2, .ref 6027), (3, .int (nI (i + 6)))] [] N b (QI K)) : CI mC_lay [.ref 10, .int (gi M 62 (nI i + 1).toNatClampNeg), .int (gi M 62 (nI i + 2).toNatClampNeg), .int (gi M 62 (nI i + 3).toNatClampNeg)] M (fun rv N => X mLa_law 1163 [(0, .ref 62), (1, .ref 10), (2, .ref 6027), (3, .int (nI i))] [.int rv] N b (QI K)) := by
  refine ci_km (ci_mono (py_lay (Z := fun r s O => INY O ∧ r = s) z (fun r s N iN q => ⟨iN, q⟩)) (fun rv N hN km => ?_))
  have n1 : N.1.2 = n := km.2.1.trans e
  refine vLa_law_1163 rfl ⟨by rw [n1]; exact inn 1 rfl hn (by omega), by rw [n1]; exact inn 2 rfl hn (by omega), by rw [n1]; exact inn 3 rfl hn (by omega), ?_⟩
  simp only [km.2.2]
  refine ci_km (ci_mono hN (fun s O hO km2 => ?_))
  have f := hK O hO.1 (km2.2.1.trans n1)
  rw [← i6] at f
  exact vLa_law_1183 f
theorem law_33 {M : Mm} {b : Nat × Nat} {K : Int32 → Mm → Prop} {n i : Nat} (z : INY M) (e : M.1.2 = n) (hn : n ≤ 3072) (hi : i + 6 ≤ n) (hK : ∀ N, INY N → N.1.2 = n → X mLa_law 18 [(0, .ref 62), (1, .ref 10), (2, .ref 6027), (3, .int (nI (i + 6)))] [] N b (QI K)) : CI mC_read [.ref 10, .int (gi M 62 (nI i + 1).toNatClampNeg), .int (gi M 62 (nI i + 2).toNatClampNeg), .int (gi M 62 (nI i + 3).toNatClampNeg), .int (gi M 62 (nI i + 4).toNatClampNeg), .int (gi M 62 (nI i + 5).toNatClampNeg)] M (fun rv N => X mLa_law 1216 [(0, .ref 62), (1, .ref 10), (2, .ref 6027), (3, .int (nI i))] [.int rv] N b (QI K)) := by
  refine ci_km (ci_mono (py_read (Z := fun r s O => INY O) z (fun r s N iN => iN)) (fun rv N hN km => ?_))
  have n1 : N.1.2 = n := km.2.1.trans e
  refine vLa_law_1216 rfl ⟨by rw [n1]; exact inn 1 rfl hn (by omega), by rw [n1]; exact inn 2 rfl hn (by omega), by rw [n1]; exact inn 3 rfl hn (by omega), by rw [n1]; exact inn 4 rfl hn (by omega), by rw [n1]; exact inn 5 rfl hn (by omega), ?_⟩
  simp only [km.2.2]
  refine ci_km (ci_mono hN (fun s O hO km2 => ?_))
  have f := hK O hO (km2.2.1.trans n1)
  rw [← i6] at f
  exact vLa_law_1246 f
theorem law_34 {M : Mm} {b : Nat × Nat} {K : Int32 → Mm → Prop} {n i : Nat} (z : INY M) (e : M.1.2 = n) (hn : n ≤ 3072) (hi : i + 6 ≤ n) (hK : ∀ N, INY N → N.1.2 = n → X mLa_law 18 [(0, .ref 62), (1, .ref 10), (2, .ref 6027), (3, .int (nI (i + 6)))] [] N b (QI K)) : CI mC_count [.ref 10, .int (gi M 62 (nI i + 1).toNatClampNeg)] M (fun rv N => X mLa_law 1259 [(0, .ref 62), (1, .ref 10), (2, .ref 6027), (3, .int (nI i))] [.int rv] N b (QI K)) := by
  refine ci_km (ci_mono (py_count (Z := fun r s O => INY O) z (fun r s N iN => iN)) (fun rv N hN km => ?_))
  have n1 : N.1.2 = n := km.2.1.trans e
  refine vLa_law_1259 rfl ⟨by rw [n1]; exact inn 1 rfl hn (by omega), ?_⟩
  simp only [km.2.2]
  refine ci_km (ci_mono hN (fun s O hO km2 => ?_))
  have f := hK O hO (km2.2.1.trans n1)
  rw [← i6] at f
  exact vLa_law_1269 f
theorem law_at {b : Nat × Nat} {K : Int32 → Mm → Prop} {n : Nat} (hn : n ≤ 3072) (hK : ∀ N, K 1 N) : ∀ f i M, n < i + f → i ≤ n → INY M → M.1.2 = n → X mLa_law 18 [(0, .ref 62), (1, .ref 10), (2, .ref 6027), (3, .int (nI i))] [] M b (QI K) := by
  intro f
  induction f with
  | zero => intro i M h1 h2; omega
  | succ f ih =>
    intro i M h1 h2 z e
    by_cases l : n < i + 6
    · have l2 : (Int32.ofNat M.1.2) - 6 < nI i := by rw [e]; exact (lw_c hn (by omega)).mpr l
      exact vLa_law_18 rfl ⟨fun q => absurd l2 q, fun _ => hK M, fun q => absurd l2 q⟩
    · have l2 : ¬ (Int32.ofNat M.1.2) - 6 < nI i := by rw [e]; exact fun q => l ((lw_c hn (by omega)).mp q)
      have hi : i + 6 ≤ n := by omega
      have nx : ∀ N, INY N → N.1.2 = n → X mLa_law 18 [(0, .ref 62), (1, .ref 10), (2, .ref 6027), (3, .int (nI (i + 6)))] [] N b (QI K) := fun N zN eN => ih (i + 6) N (by omega) hi zN eN
      refine vLa_law_18 rfl ⟨fun _ => by rw [e]; exact vin (by omega) (by omega), fun q => absurd q l2, fun _ => ⟨fun _ => ⟨by rw [e]; exact inn 1 rfl hn (by omega), by rw [e]; exact inn 2 rfl hn (by omega), law_0 z e hn hi nx⟩, fun _ => ⟨by rw [e]; exact inn 1 rfl hn (by omega), law_1 z e hn hi nx⟩, fun _ => law_2 z e hn hi nx, fun _ => law_3 z e hn hi nx, fun _ => law_4 z e hn hi nx, fun _ => ⟨by rw [e]; exact inn 1 rfl hn (by omega), law_5 z e hn hi nx⟩, fun _ => ⟨by rw [e]; exact inn 1 rfl hn (by omega), by rw [e]; exact inn 2 rfl hn (by omega), law_6 z e hn hi nx⟩, fun _ => ⟨by rw [e]; exact inn 1 rfl hn (by omega), by rw [e]; exact inn 2 rfl hn (by omega), law_7 z e hn hi nx⟩, fun _ => ⟨by rw [e]; exact inn 1 rfl hn (by omega), law_8 z e hn hi nx⟩, fun _ => ⟨by rw [e]; exact inn 1 rfl hn (by omega), by rw [e]; exact inn 2 rfl hn (by omega), law_9 z e hn hi nx⟩, fun _ => ⟨by rw [e]; exact inn 1 rfl hn (by omega), law_10 z e hn hi nx⟩, fun _ => ⟨by rw [e]; exact inn 1 rfl hn (by omega), by rw [e]; exact inn 2 rfl hn (by omega), law_11 z e hn hi nx⟩, fun _ => ⟨by rw [e]; exact inn 1 rfl hn (by omega), by rw [e]; exact inn 2 rfl hn (by omega), law_12 z e hn hi nx⟩, fun _ => ⟨by rw [e]; exact inn 1 rfl hn (by omega), by rw [e]; exact inn 2 rfl hn (by omega), by rw [e]; exact inn 3 rfl hn (by omega), law_13 z e hn hi nx⟩, fun _ => ⟨by rw [e]; exact inn 1 rfl hn (by omega), by rw [e]; exact inn 2 rfl hn (by omega), law_14 z e hn hi nx⟩, fun _ => ⟨by rw [e]; exact inn 1 rfl hn (by omega), by rw [e]; exact inn 2 rfl hn (by omega), law_15 z e hn hi nx⟩, fun _ => ⟨by rw [e]; exact inn 1 rfl hn (by omega), law_16 z e hn hi nx⟩, fun _ => ⟨by rw [e]; exact inn 1 rfl hn (by omega), law_17 z e hn hi nx⟩, fun _ => ⟨by rw [e]; exact inn 1 rfl hn (by omega), by rw [e]; exact inn 2 rfl hn (by omega), by rw [e]; exact inn 3 rfl hn (by omega), by rw [e]; exact inn 4 rfl hn (by omega), by rw [e]; exact inn 5 rfl hn (by omega), law_18 z e hn hi nx⟩, fun _ => ⟨by rw [e]; exact inn 1 rfl hn (by omega), law_19 z e hn hi nx⟩, fun _ => ⟨by rw [e]; exact inn 1 rfl hn (by omega), by rw [e]; exact inn 2 rfl hn (by omega), by rw [e]; exact inn 3 rfl hn (by omega), law_20 z e hn hi nx⟩, fun _ => ⟨by rw [e]; exact inn 1 rfl hn (by omega), law_21 z e hn hi nx⟩, fun _ => ⟨by rw [e]; exact inn 1 rfl hn (by omega), by rw [e]; exact inn 2 rfl hn (by omega), law_22 z e hn hi nx⟩, fun _ => ⟨by rw [e]; exact inn 1 rfl hn (by omega), by rw [e]; exact inn 2 rfl hn (by omega), by rw [e]; exact inn 3 rfl hn (by omega), law_23 z e hn hi nx⟩, fun _ => ⟨by rw [e]; exact inn 1 rfl hn (by omega), by rw [e]; exact inn 2 rfl hn (by omega), by rw [e]; exact inn 3 rfl hn (by omega), law_24 z e hn hi nx⟩, fun _ => ⟨by rw [e]; exact inn 1 rfl hn (by omega), law_25 z e hn hi nx⟩, fun _ => ⟨by rw [e]; exact inn 1 rfl hn (by omega), by rw [e]; exact inn 2 rfl hn (by omega), by rw [e]; exact inn 3 rfl hn (by omega), law_26 z e hn hi nx⟩, fun _ => law_27 z e hn hi nx, fun _ => law_28 z e hn hi nx, fun _ => ⟨by rw [e]; exact inn 1 rfl hn (by omega), law_29 z e hn hi nx⟩, fun _ => ⟨by rw [e]; exact inn 1 rfl hn (by omega), law_30 z e hn hi nx⟩, fun _ => ⟨by rw [e]; exact inn 1 rfl hn (by omega), by rw [e]; exact inn 2 rfl hn (by omega), by rw [e]; exact inn 3 rfl hn (by omega), law_31 z e hn hi nx⟩, fun _ => ⟨by rw [e]; exact inn 1 rfl hn (by omega), by rw [e]; exact inn 2 rfl hn (by omega), by rw [e]; exact inn 3 rfl hn (by omega), law_32 z e hn hi nx⟩, fun _ => ⟨by rw [e]; exact inn 1 rfl hn (by omega), by rw [e]; exact inn 2 rfl hn (by omega), by rw [e]; exact inn 3 rfl hn (by omega), by rw [e]; exact inn 4 rfl hn (by omega), by rw [e]; exact inn 5 rfl hn (by omega), law_33 z e hn hi nx⟩, fun _ => ⟨by rw [e]; exact inn 1 rfl hn (by omega), law_34 z e hn hi nx⟩, fun _ => ?_⟩⟩
      have g := nx M z e
      rw [← i6] at g; exact g
set_option maxRecDepth 20000 in
theorem iv_mem {sh : List Nat} {n : Nat} {xs : Nat → Int32} : IV (mem sh n xs lmI lmG) 385 2689 4995 5059 5123 0 0 0 := by
  have g : ∀ a j, (a == 62) = false → gi (mem sh n xs lmI lmG) a j = LK lmI a j := fun a j h => mem_gi h
  have hg : ∀ q ∈ cgt, GK lmG q.1 q.2.1 = some q.2.2 := by decide +kernel
  have h5 : GK lmG 10 4 = some 385 ∧ GK lmG 10 5 = some 2689 ∧ GK lmG 10 6 = some 4995 ∧ GK lmG 10 7 = some 5059 ∧ GK lmG 10 8 = some 5123 := by decide +kernel
  have hr1 : ∀ q ∈ lrt, GK lmG 385 q.1 = some (385 + q.2) := by decide +kernel
  have hr2 : ∀ q ∈ lrt, GK lmG 2689 q.1 = some (2689 + q.2) := by decide +kernel
  have hw1 : ∀ w, w < 24 → GK lmG (385 + 81) w = some (385 + 776 + 64 * w) := by decide +kernel
  have hw2 : ∀ w, w < 24 → GK lmG (2689 + 81) w = some (2689 + 776 + 64 * w) := by decide +kernel
  have t1 : ∀ k, k < 400 → LK lmI 145 k = 0 := by decide +kernel
  have t2 : ∀ k, k < 400 → LK lmI 6486 k = 0 := by decide +kernel
  have s1 : ∀ e, e < 4 → LK lmI (sa e) 2 = 0 ∧ LK lmI 7708 e = 0 ∧ LK lmI (sa e) 1 = LK lmI 7644 e ∧ (sa e == 62) = false ∧ (5588 + 128 * e == 62) = false := by decide +kernel
  have s2 : ∀ e, e < 4 → ∀ i, i < 40 → LK lmI (5588 + 128 * e) i = 0 ∧ LK lmI 7773 (40 * e + i) = 0 := by decide +kernel
  have v1 : LK lmI 385 1 = 0 := by decide +kernel
  have v2 : LK lmI 4995 2 = 0 ∧ LK lmI 5059 2 = 0 ∧ LK lmI 5123 2 = 0 := by decide +kernel
  have v3 : LK lmI 6027 0 = 0 ∧ LK lmI 6543 4 = -4 ∧ LK lmI 6607 4 = -4 ∧ LK lmI 6027 24 = 0 ∧ LK lmI 70 1 = 0 ∧ LK lmI 6027 11 = 0 := by decide +kernel
  refine ⟨⟨⟨hg, h5, ⟨Or.inl rfl, Or.inr rfl, Or.inl rfl, Or.inr (Or.inl rfl), Or.inr (Or.inr rfl)⟩, ⟨⟨rfl, hr1, hw1⟩, ⟨rfl, hr2, hw2⟩⟩, by decide⟩, ?_, by decide, ?_, ?_, ?_⟩, ⟨⟨mem_mr (by decide +kernel), ?_, by decide, fun w hw => absurd hw (by omega)⟩, by decide, ?_, ?_, ?_⟩, ⟨?_, by decide, ?_, fun k hk => ?_⟩, fun e he => ?_⟩
  · rw [g _ _ rfl]; exact v1
  · left; rw [g _ _ rfl]; exact v2.1
  · left; rw [g _ _ rfl]; exact v2.2.1
  · left; rw [g _ _ rfl]; exact v2.2.2
  · rw [g _ _ rfl]; exact v3.1
  · left; rw [g _ _ rfl]; exact v3.2.1
  · left; rw [g _ _ rfl]; exact v3.2.2.1
  · unfold UM; rw [g _ _ rfl, v3.2.2.2.1]; decide
  · rw [g _ _ rfl]; exact v3.2.2.2.2.1
  · rw [g _ _ rfl]; exact v3.2.2.2.2.2
  · rw [g _ _ rfl, g _ _ rfl, t1 k hk, t2 k hk]; exact ⟨0, by decide, by decide, rfl⟩
  · obtain ⟨a1, a2, a3, a4, a5⟩ := s1 e he
    refine ⟨⟨0, by decide, ?_, ?_⟩, ?_, fun i hi => ?_⟩
    · rw [g _ _ a4]; exact a1
    · rw [g _ _ rfl]; exact a2
    · rw [g _ _ a4, g _ _ rfl]; exact a3
    · rw [g _ _ a5, g _ _ rfl, (s2 e he i hi).1, (s2 e he i hi).2]
set_option maxRecDepth 20000 in
theorem inv_mem {sh : List Nat} {n : Nat} {xs : Nat → Int32} : INY (mem sh n xs lmI lmG) := by
  have g : ∀ a j, (a == 62) = false → gi (mem sh n xs lmI lmG) a j = LK lmI a j := fun a j h => mem_gi h
  have b1 : LK lmI 10 9 = LK lmI 6027 9 ∧ LK lmI 10 10 = LK lmI 6027 16 := by decide +kernel
  have b2 : ∀ i, i < 7 → LK lmI 4995 i = LK lmI 6543 i ∧ LK lmI 5059 i = LK lmI 6607 i := by decide +kernel
  have b3 : ∀ b, b < 8 → LK lmI (385 + 140) b = LK lmI 6157 b := by decide +kernel
  have d1 : ∀ d, d < 8 → LK lmI (385 + 460) d = 0 ∧ LK lmI (385 + 524) d = 0 := by decide +kernel
  have d2 : LK lmI 385 10 = 0 ∧ LK lmI 385 11 = 0 ∧ LK lmI 385 12 = 0 ∧ LK lmI 385 13 = 0 ∧ LK lmI 6027 23 = 0 ∧ LK lmI 6027 24 = 0 := by decide +kernel
  have d3 : ∀ c, c < 64 → LK lmI (385 + 205) c = 0 ∧ LK lmI (385 + 269) c = 0 := by decide +kernel
  have d4 : ∀ k, k < 7 → LK lmI (385 + 590) k = 0 := by decide +kernel
  have d5 : ∀ c, c < 64 → LK lmI (385 + 333) c = -4 ∧ LK lmI (385 + 397) c = -4 := by decide +kernel
  have d6 : LK lmI 6543 3 = 0 ∧ LK lmI 6543 6 = 1 ∧ LK lmI 6607 3 = 0 ∧ LK lmI 6607 6 = 1 ∧ LK lmI 6543 5 = -4 ∧ LK lmI 6607 5 = -4 := by decide +kernel
  have ey : EY (mem sh n xs lmI lmG) 385 0 (fun _ _ => 0) := by
    refine ⟨fun w hw => absurd hw (by omega), fun w hw => absurd hw (by omega), ⟨⟨fun d hd v hv => ?_, fun b hb v hv => ?_, fun v hv => ?_, fun v hv => ?_⟩, ?_, ?_, fun c hc v hv => ?_⟩, ?_, ?_, fun v hv => absurd hv (by omega), ⟨by decide, fun k hk v hv => ⟨fun _ => ?_, fun z => absurd z (by omega)⟩, fun c hc => ⟨?_, ?_⟩, fun w hw => absurd hw (by omega)⟩, ⟨⟨?_, ?_, ?_⟩, ?_, ?_, ?_⟩⟩
    · rw [g _ _ rfl, (d1 d hd).1, b_0]; simp
    · rw [g _ _ rfl, (d1 b hb).2, b_0]; simp
    · rw [g _ _ rfl, d2.1, b_0]; simp
    · rw [g _ _ rfl, d2.2.1, b_0]; simp
    · rw [g _ _ rfl]; exact d2.2.2.1
    · rw [g _ _ rfl]; exact d2.2.2.2.1
    · rw [g _ _ rfl, g _ _ rfl, (d3 c hc).1, (d3 c hc).2, b_0]; exact ⟨rfl, rfl⟩
    · rw [g _ _ rfl]; exact d2.2.2.2.2.1
    · rw [g _ _ rfl]; exact d2.2.2.2.2.2
    · rw [g _ _ rfl, d4 k hk, b_0]
    · rw [g _ _ rfl, (d5 c hc).1]; rfl
    · rw [g _ _ rfl, (d5 c hc).2]; rfl
    · rw [g _ _ rfl, d6.1]; exact Or.inl rfl
    · rw [g _ _ rfl, d6.2.1]; exact Or.inr (Or.inl rfl)
    · rw [g _ _ rfl, d6.2.2.2.2.1]; exact Or.inr (Or.inr rfl)
    · rw [g _ _ rfl, d6.2.2.1]; exact Or.inl rfl
    · rw [g _ _ rfl, d6.2.2.2.1]; exact Or.inr (Or.inl rfl)
    · rw [g _ _ rfl, d6.2.2.2.2.2]; exact Or.inr (Or.inr rfl)
  refine ⟨385, 2689, 4995, 5059, 5123, 0, 0, 0, iv_mem, ⟨⟨Or.inl rfl, Or.inl rfl, Or.inr (Or.inl rfl)⟩, ?_, ?_, fun i hi => ?_, fun i hi => ?_, fun b hb => ?_, ⟨rfl, by decide⟩, fun w hw => absurd hw (by omega)⟩, _, ey⟩
  · rw [g _ _ rfl, g _ _ rfl]; exact b1.1
  · rw [g _ _ rfl, g _ _ rfl]; exact b1.2
  · rw [g _ _ rfl, g _ _ rfl]; exact (b2 i hi).1
  · rw [g _ _ rfl, g _ _ rfl]; exact (b2 i hi).2
  · rw [g _ _ rfl, g _ _ rfl]; exact b3 b hb
set_option maxRecDepth 20000 in
theorem law_start {n : Nat} {xs : Nat → Int32} {K : Int32 → Mm → Prop} (hL : n ≤ 3072) (hK : ∀ N, K 1 N) : X mLa_law 0 [(0, .ref 62)] [] (mem [] n xs [] []) (mC mLa_law, mS mLa_law) (QI K) := by
  have hs : ([] : List Nat).length = 0 := rfl
  refine vLa_law_0 (b' := (28, 1927)) (by decide) ?_
  rw [mem_len hs 10 10 rfl, mem_nwl hs 10 10 rfl rfl rfl rfl]
  refine sC_init (sh := [] ++ [10]) rfl (fun sh hs => ?_)
  refine vLa_law_7 (b' := (0, 0)) (by decide) ?_
  rw [mem_len hs 11 6027 rfl, mem_nwl hs 11 6027 rfl rfl (by decide +kernel) (by decide +kernel)]
  refine sM_init (ap_len hs 11) (fun sh hs => ?_)
  refine vLa_law_15 ?_
  exact law_at hL hK (n + 1) 0 _ (by omega) (Nat.zero_le _) inv_mem rfl
