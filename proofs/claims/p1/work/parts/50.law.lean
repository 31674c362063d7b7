theorem call_km {m : MI} {as : List Value} {M : Mm} {Q : Option Value → Mm → Prop} (h : CALL m as M Q) : CALL m as M (fun r N => Q r N ∧ KM M N) := by
  intro l g hw hok p e h1 h2 h3 s mid args below h4 h5 h6 h7
  obtain ⟨n, o, a1, a2, a3, ⟨r, N, b1, b2, b3, b4⟩, b5⟩ := h l g hw hok p e h1 h2 h3 s mid args below h4 h5 h6 h7
  exact ⟨n, o, a1, a2, a3, ⟨r, N, b1, b2, ⟨b3, b4.2.2.1⟩, b4⟩, b5⟩
theorem ci_km {m : MI} {as : List Value} {M : Mm} {K : Int32 → Mm → Prop} (h : CI m as M (fun r N => KM M N → K r N)) : CI m as M K := call_mono (call_km h) (fun r N ⟨⟨v, h1, h2⟩, h3⟩ => ⟨v, h1, h2 h3⟩)
theorem cj_km {m : MI} {as : List Value} {M : Mm} {K : Int64 → Mm → Prop} (h : CJ m as M (fun r N => KM M N → K r N)) : CJ m as M K := call_mono (call_km h) (fun r N ⟨⟨v, h1, h2⟩, h3⟩ => ⟨v, h1, h2 h3⟩)
theorem law_fin {N : Mm} {b : Nat × Nat} {K : Int32 → Mm → Prop} (e : N.1.2 = 6) (h : K 1 N) : X mLa_law 18 [(0, .ref 62), (1, .ref 10), (2, .ref 6027), (3, .int (0 + 6))] [] N b (QI K) := by
  have l : (Int32.ofNat N.1.2) - 6 < 0 + 6 := by rw [e]; decide
  exact vLa_law_18 rfl ⟨fun q => absurd l q, fun _ => h, fun q => absurd l q⟩
theorem in6 {n : Nat} {x : Int32} (i : Nat) (h : n = 6) (hi : i < 6) (e : x = nI i) : vp_in x n := by
  rw [h, e]; exact vin hi (by decide)
theorem law_0 {M : Mm} {b : Nat × Nat} {K : Int32 → Mm → Prop} (z : ZM M) (e6 : M.1.2 = 6) (hK : ∀ N, K 1 N) : CI mC_feed [.ref 10, .long ((((gi M 62 (0 + 1 : Int32).toNatClampNeg).toInt64) <<< (((32 : Int32)).toInt64 &&& 63)) ||| (((gi M 62 (0 + 2 : Int32).toNatClampNeg).toInt64) &&& 4294967295))] M (fun rv N => X mLa_law 212 [(0, .ref 62), (1, .ref 10), (2, .ref 6027), (3, .int 0)] [.int rv] N b (QI K)) := by
  refine ci_km (zC_feed z (fun N y km => ?_))
  have n6 : N.1.2 = 6 := km.2.1.trans e6
  refine vLa_law_212 rfl ⟨in6 1 n6 (by decide) rfl, in6 2 n6 (by decide) rfl, ?_⟩
  simp only [km.2.2]
  refine ci_km (yM_feed y (fun N2 km2 => ?_))
  exact vLa_law_236 ⟨fun _ => law_fin (km2.2.1.trans n6) (hK N2), fun q => absurd rfl q⟩
theorem law_1 {M : Mm} {b : Nat × Nat} {K : Int32 → Mm → Prop} (z : ZM M) (e6 : M.1.2 = 6) (hK : ∀ N, K 1 N) : CI mC_end [.ref 10, .int (gi M 62 (0 + 1 : Int32).toNatClampNeg)] M (fun rv N => X mLa_law 250 [(0, .ref 62), (1, .ref 10), (2, .ref 6027), (3, .int 0)] [.int rv] N b (QI K)) := by
  refine ci_km (zC_end z (fun N y km => ?_))
  have n6 : N.1.2 = 6 := km.2.1.trans e6
  refine vLa_law_250 rfl ⟨in6 1 n6 (by decide) rfl, ?_⟩
  simp only [km.2.2]
  refine ci_km (yM_end y (fun N2 km2 => ?_))
  exact vLa_law_259 ⟨fun _ => law_fin (km2.2.1.trans n6) (hK N2), fun q => absurd rfl q⟩
theorem law_2 {M : Mm} {b : Nat × Nat} {K : Int32 → Mm → Prop} (z : ZM M) (e6 : M.1.2 = 6) (hK : ∀ N, K 1 N) : CI mC_library [.ref 10] M (fun rv N => X mLa_law 268 [(0, .ref 62), (1, .ref 10), (2, .ref 6027), (3, .int 0)] [.int rv] N b (QI K)) := by
  refine ci_km (zC_library z (fun N y km => ?_))
  have n6 : N.1.2 = 6 := km.2.1.trans e6
  refine vLa_law_268 rfl ?_
  refine ci_km (yM_library y (fun N2 km2 => ?_))
  exact vLa_law_272 ⟨fun _ => law_fin (km2.2.1.trans n6) (hK N2), fun q => absurd rfl q⟩
theorem law_3 {M : Mm} {b : Nat × Nat} {K : Int32 → Mm → Prop} (z : ZM M) (e6 : M.1.2 = 6) (hK : ∀ N, K 1 N) : CI mC_rule [.ref 10] M (fun rv N => X mLa_law 281 [(0, .ref 62), (1, .ref 10), (2, .ref 6027), (3, .int 0)] [.int rv] N b (QI K)) := by
  refine ci_km (zC_rule z (fun N y km => ?_))
  have n6 : N.1.2 = 6 := km.2.1.trans e6
  refine vLa_law_281 rfl ?_
  refine ci_km (yM_rule y (fun N2 km2 => ?_))
  exact vLa_law_285 ⟨fun _ => law_fin (km2.2.1.trans n6) (hK N2), fun q => absurd rfl q⟩
theorem law_4 {M : Mm} {b : Nat × Nat} {K : Int32 → Mm → Prop} (z : ZM M) (e6 : M.1.2 = 6) (hK : ∀ N, K 1 N) : CI mC_fault [.ref 10] M (fun rv N => X mLa_law 294 [(0, .ref 62), (1, .ref 10), (2, .ref 6027), (3, .int 0)] [.int rv] N b (QI K)) := by
  refine ci_km (zC_fault z (fun N y km => ?_))
  have n6 : N.1.2 = 6 := km.2.1.trans e6
  refine vLa_law_294 rfl ?_
  refine ci_km (yM_fault y (fun N2 km2 => ?_))
  exact vLa_law_298 ⟨fun _ => law_fin (km2.2.1.trans n6) (hK N2), fun q => absurd rfl q⟩
theorem law_5 {M : Mm} {b : Nat × Nat} {K : Int32 → Mm → Prop} (z : ZM M) (e6 : M.1.2 = 6) (hK : ∀ N, K 1 N) : CI mC_weighs [.ref 10, .int (gi M 62 (0 + 1 : Int32).toNatClampNeg)] M (fun rv N => X mLa_law 312 [(0, .ref 62), (1, .ref 10), (2, .ref 6027), (3, .int 0)] [.int rv] N b (QI K)) := by
  refine ci_km (zC_weighs z (fun N y km => ?_))
  have n6 : N.1.2 = 6 := km.2.1.trans e6
  refine vLa_law_312 rfl ⟨in6 1 n6 (by decide) rfl, ?_⟩
  simp only [km.2.2]
  refine ci_km (yM_weighs y (fun N2 km2 => ?_))
  exact vLa_law_321 ⟨fun _ => law_fin (km2.2.1.trans n6) (hK N2), fun q => absurd rfl q⟩
theorem law_6 {M : Mm} {b : Nat × Nat} {K : Int32 → Mm → Prop} (z : ZM M) (e6 : M.1.2 = 6) (hK : ∀ N, K 1 N) : CI mC_word [.ref 10, .int (gi M 62 (0 + 1 : Int32).toNatClampNeg), .int (gi M 62 (0 + 2 : Int32).toNatClampNeg)] M (fun rv N => X mLa_law 340 [(0, .ref 62), (1, .ref 10), (2, .ref 6027), (3, .int 0)] [.int rv] N b (QI K)) := by
  refine ci_km (zC_word z (fun N y km => ?_))
  have n6 : N.1.2 = 6 := km.2.1.trans e6
  refine vLa_law_340 rfl ⟨in6 1 n6 (by decide) rfl, in6 2 n6 (by decide) rfl, ?_⟩
  simp only [km.2.2]
  refine ci_km (yM_word y (fun N2 km2 => ?_))
  exact vLa_law_354 ⟨fun _ => law_fin (km2.2.1.trans n6) (hK N2), fun q => absurd rfl q⟩
theorem law_7 {M : Mm} {b : Nat × Nat} {K : Int32 → Mm → Prop} (z : ZM M) (e6 : M.1.2 = 6) (hK : ∀ N, K 1 N) : CI mC_says [.ref 10, .int (gi M 62 (0 + 1 : Int32).toNatClampNeg), .int (gi M 62 (0 + 2 : Int32).toNatClampNeg)] M (fun rv N => X mLa_law 373 [(0, .ref 62), (1, .ref 10), (2, .ref 6027), (3, .int 0)] [.int rv] N b (QI K)) := by
  refine ci_km (zC_says z (fun N y km => ?_))
  have n6 : N.1.2 = 6 := km.2.1.trans e6
  refine vLa_law_373 rfl ⟨in6 1 n6 (by decide) rfl, in6 2 n6 (by decide) rfl, ?_⟩
  simp only [km.2.2]
  refine ci_km (yM_says y (fun N2 km2 => ?_))
  exact vLa_law_387 ⟨fun _ => law_fin (km2.2.1.trans n6) (hK N2), fun q => absurd rfl q⟩
theorem law_8 {M : Mm} {b : Nat × Nat} {K : Int32 → Mm → Prop} (z : ZM M) (e6 : M.1.2 = 6) (hK : ∀ N, K 1 N) : CI mC_words [.ref 10, .int (gi M 62 (0 + 1 : Int32).toNatClampNeg)] M (fun rv N => X mLa_law 401 [(0, .ref 62), (1, .ref 10), (2, .ref 6027), (3, .int 0)] [.int rv] N b (QI K)) := by
  refine ci_km (zC_words z (fun N y km => ?_))
  have n6 : N.1.2 = 6 := km.2.1.trans e6
  refine vLa_law_401 rfl ⟨in6 1 n6 (by decide) rfl, ?_⟩
  simp only [km.2.2]
  refine ci_km (yM_words y (fun N2 km2 => ?_))
  exact vLa_law_410 ⟨fun _ => law_fin (km2.2.1.trans n6) (hK N2), fun q => absurd rfl q⟩
theorem law_9 {M : Mm} {b : Nat × Nat} {K : Int32 → Mm → Prop} (z : ZM M) (e6 : M.1.2 = 6) (hK : ∀ N, K 1 N) : CI mC_meets [.ref 10, .int (gi M 62 (0 + 1 : Int32).toNatClampNeg), .int (gi M 62 (0 + 2 : Int32).toNatClampNeg)] M (fun rv N => X mLa_law 429 [(0, .ref 62), (1, .ref 10), (2, .ref 6027), (3, .int 0)] [.int rv] N b (QI K)) := by
  refine ci_km (zC_meets z (fun N y km => ?_))
  have n6 : N.1.2 = 6 := km.2.1.trans e6
  refine vLa_law_429 rfl ⟨in6 1 n6 (by decide) rfl, in6 2 n6 (by decide) rfl, ?_⟩
  simp only [km.2.2]
  refine ci_km (yM_meets y (fun N2 km2 => ?_))
  exact vLa_law_443 ⟨fun _ => law_fin (km2.2.1.trans n6) (hK N2), fun q => absurd rfl q⟩
theorem law_10 {M : Mm} {b : Nat × Nat} {K : Int32 → Mm → Prop} (z : ZM M) (e6 : M.1.2 = 6) (hK : ∀ N, K 1 N) : CI mC_steps [.ref 10, .int (gi M 62 (0 + 1 : Int32).toNatClampNeg)] M (fun rv N => X mLa_law 457 [(0, .ref 62), (1, .ref 10), (2, .ref 6027), (3, .int 0)] [.int rv] N b (QI K)) := by
  refine ci_km (zC_steps z (fun N y km => ?_))
  have n6 : N.1.2 = 6 := km.2.1.trans e6
  refine vLa_law_457 rfl ⟨in6 1 n6 (by decide) rfl, ?_⟩
  simp only [km.2.2]
  refine ci_km (yM_steps y (fun N2 km2 => ?_))
  exact vLa_law_466 ⟨fun _ => law_fin (km2.2.1.trans n6) (hK N2), fun q => absurd rfl q⟩
theorem law_11 {M : Mm} {b : Nat × Nat} {K : Int32 → Mm → Prop} (z : ZM M) (e6 : M.1.2 = 6) (hK : ∀ N, K 1 N) : CI mC_each [.ref 10, .int (gi M 62 (0 + 1 : Int32).toNatClampNeg), .int (gi M 62 (0 + 2 : Int32).toNatClampNeg)] M (fun rv N => X mLa_law 485 [(0, .ref 62), (1, .ref 10), (2, .ref 6027), (3, .int 0)] [.int rv] N b (QI K)) := by
  refine ci_km (zC_each z (fun N y km => ?_))
  have n6 : N.1.2 = 6 := km.2.1.trans e6
  refine vLa_law_485 rfl ⟨in6 1 n6 (by decide) rfl, in6 2 n6 (by decide) rfl, ?_⟩
  simp only [km.2.2]
  refine ci_km (yM_each y (fun N2 km2 => ?_))
  exact vLa_law_499 ⟨fun _ => law_fin (km2.2.1.trans n6) (hK N2), fun q => absurd rfl q⟩
theorem law_12 {M : Mm} {b : Nat × Nat} {K : Int32 → Mm → Prop} (z : ZM M) (e6 : M.1.2 = 6) (hK : ∀ N, K 1 N) : CI mC_clash [.ref 10, .int (gi M 62 (0 + 1 : Int32).toNatClampNeg), .int (gi M 62 (0 + 2 : Int32).toNatClampNeg)] M (fun rv N => X mLa_law 518 [(0, .ref 62), (1, .ref 10), (2, .ref 6027), (3, .int 0)] [.int rv] N b (QI K)) := by
  refine ci_km (zC_clash z (fun N y km => ?_))
  have n6 : N.1.2 = 6 := km.2.1.trans e6
  refine vLa_law_518 rfl ⟨in6 1 n6 (by decide) rfl, in6 2 n6 (by decide) rfl, ?_⟩
  simp only [km.2.2]
  refine ci_km (yM_clash y (fun N2 km2 => ?_))
  exact vLa_law_532 ⟨fun _ => law_fin (km2.2.1.trans n6) (hK N2), fun q => absurd rfl q⟩
theorem law_13 {M : Mm} {b : Nat × Nat} {K : Int32 → Mm → Prop} (z : ZM M) (e6 : M.1.2 = 6) (hK : ∀ N, K 1 N) : CI mC_sides [.ref 10, .int (gi M 62 (0 + 1 : Int32).toNatClampNeg), .int (gi M 62 (0 + 2 : Int32).toNatClampNeg), .int (gi M 62 (0 + 3 : Int32).toNatClampNeg)] M (fun rv N => X mLa_law 556 [(0, .ref 62), (1, .ref 10), (2, .ref 6027), (3, .int 0)] [.int rv] N b (QI K)) := by
  refine ci_km (zC_sides z (fun N y km => ?_))
  have n6 : N.1.2 = 6 := km.2.1.trans e6
  refine vLa_law_556 rfl ⟨in6 1 n6 (by decide) rfl, in6 2 n6 (by decide) rfl, in6 3 n6 (by decide) rfl, ?_⟩
  simp only [km.2.2]
  refine ci_km (yM_sides y (fun N2 km2 => ?_))
  exact vLa_law_575 ⟨fun _ => law_fin (km2.2.1.trans n6) (hK N2), fun q => absurd rfl q⟩
theorem law_14 {M : Mm} {b : Nat × Nat} {K : Int32 → Mm → Prop} (z : ZM M) (e6 : M.1.2 = 6) (hK : ∀ N, K 1 N) : CI mC_hangs [.ref 10, .int (gi M 62 (0 + 1 : Int32).toNatClampNeg), .int (gi M 62 (0 + 2 : Int32).toNatClampNeg)] M (fun rv N => X mLa_law 594 [(0, .ref 62), (1, .ref 10), (2, .ref 6027), (3, .int 0)] [.int rv] N b (QI K)) := by
  refine ci_km (zC_hangs z (fun N y km => ?_))
  have n6 : N.1.2 = 6 := km.2.1.trans e6
  refine vLa_law_594 rfl ⟨in6 1 n6 (by decide) rfl, in6 2 n6 (by decide) rfl, ?_⟩
  simp only [km.2.2]
  refine ci_km (yM_hangs y (fun N2 km2 => ?_))
  exact vLa_law_608 ⟨fun _ => law_fin (km2.2.1.trans n6) (hK N2), fun q => absurd rfl q⟩
theorem law_15 {M : Mm} {b : Nat × Nat} {K : Int32 → Mm → Prop} (z : ZM M) (e6 : M.1.2 = 6) (hK : ∀ N, K 1 N) : CI mC_held [.ref 10, .int (gi M 62 (0 + 1 : Int32).toNatClampNeg), .int (gi M 62 (0 + 2 : Int32).toNatClampNeg)] M (fun rv N => X mLa_law 627 [(0, .ref 62), (1, .ref 10), (2, .ref 6027), (3, .int 0)] [.int rv] N b (QI K)) := by
  refine ci_km (zC_held z (fun N y km => ?_))
  have n6 : N.1.2 = 6 := km.2.1.trans e6
  refine vLa_law_627 rfl ⟨in6 1 n6 (by decide) rfl, in6 2 n6 (by decide) rfl, ?_⟩
  simp only [km.2.2]
  refine ci_km (yM_held y (fun N2 km2 => ?_))
  exact vLa_law_641 ⟨fun _ => law_fin (km2.2.1.trans n6) (hK N2), fun q => absurd rfl q⟩
theorem law_16 {M : Mm} {b : Nat × Nat} {K : Int32 → Mm → Prop} (z : ZM M) (e6 : M.1.2 = 6) (hK : ∀ N, K 1 N) : CJ mC_cases [.ref 10, .int (gi M 62 (0 + 1 : Int32).toNatClampNeg)] M (fun rv N => X mLa_law 655 [(0, .ref 62), (1, .ref 10), (2, .ref 6027), (3, .int 0)] [.long rv] N b (QI K)) := by
  refine cj_km (zC_cases z (fun N y km => ?_))
  have n6 : N.1.2 = 6 := km.2.1.trans e6
  refine vLa_law_655 rfl ⟨in6 1 n6 (by decide) rfl, ?_⟩
  simp only [km.2.2]
  refine cj_km (yM_cases y (fun N2 km2 => ?_))
  exact vLa_law_664 ⟨fun _ => law_fin (km2.2.1.trans n6) (hK N2), fun q => absurd rfl q⟩
theorem law_17 {M : Mm} {b : Nat × Nat} {K : Int32 → Mm → Prop} (z : ZM M) (e6 : M.1.2 = 6) (hK : ∀ N, K 1 N) : CI mC_many [.ref 10, .int (gi M 62 (0 + 1 : Int32).toNatClampNeg)] M (fun rv N => X mLa_law 679 [(0, .ref 62), (1, .ref 10), (2, .ref 6027), (3, .int 0)] [.int rv] N b (QI K)) := by
  refine ci_km (zC_many z (fun N y km => ?_))
  have n6 : N.1.2 = 6 := km.2.1.trans e6
  refine vLa_law_679 rfl ⟨in6 1 n6 (by decide) rfl, ?_⟩
  simp only [km.2.2]
  refine ci_km (yM_many y (fun N2 km2 => ?_))
  exact vLa_law_688 ⟨fun _ => law_fin (km2.2.1.trans n6) (hK N2), fun q => absurd rfl q⟩
theorem law_18 {M : Mm} {b : Nat × Nat} {K : Int32 → Mm → Prop} (z : ZM M) (e6 : M.1.2 = 6) (hK : ∀ N, K 1 N) : CI mC_reckon [.ref 10, .int (gi M 62 (0 + 1 : Int32).toNatClampNeg), .int (gi M 62 (0 + 2 : Int32).toNatClampNeg), .int (gi M 62 (0 + 3 : Int32).toNatClampNeg), .int (gi M 62 (0 + 4 : Int32).toNatClampNeg), .int (gi M 62 (0 + 5 : Int32).toNatClampNeg)] M (fun rv N => X mLa_law 722 [(0, .ref 62), (1, .ref 10), (2, .ref 6027), (3, .int 0)] [.int rv] N b (QI K)) := by
  refine ci_km (zC_reckon z (fun N y km => ?_))
  have n6 : N.1.2 = 6 := km.2.1.trans e6
  refine vLa_law_722 rfl ⟨in6 1 n6 (by decide) rfl, in6 2 n6 (by decide) rfl, in6 3 n6 (by decide) rfl, in6 4 n6 (by decide) rfl, in6 5 n6 (by decide) rfl, ?_⟩
  simp only [km.2.2]
  refine ci_km (yM_reckon y (fun N2 km2 => ?_))
  exact vLa_law_751 ⟨fun _ => law_fin (km2.2.1.trans n6) (hK N2), fun q => absurd rfl q⟩
theorem law_19 {M : Mm} {b : Nat × Nat} {K : Int32 → Mm → Prop} (z : ZM M) (e6 : M.1.2 = 6) (hK : ∀ N, K 1 N) : CI mC_widest [.ref 10, .int (gi M 62 (0 + 1 : Int32).toNatClampNeg)] M (fun rv N => X mLa_law 765 [(0, .ref 62), (1, .ref 10), (2, .ref 6027), (3, .int 0)] [.int rv] N b (QI K)) := by
  refine ci_km (zC_widest z (fun N y km => ?_))
  have n6 : N.1.2 = 6 := km.2.1.trans e6
  refine vLa_law_765 rfl ⟨in6 1 n6 (by decide) rfl, ?_⟩
  simp only [km.2.2]
  refine ci_km (yM_widest y (fun N2 km2 => ?_))
  exact vLa_law_774 ⟨fun _ => law_fin (km2.2.1.trans n6) (hK N2), fun q => absurd rfl q⟩
theorem law_20 {M : Mm} {b : Nat × Nat} {K : Int32 → Mm → Prop} (z : ZM M) (e6 : M.1.2 = 6) (hK : ∀ N, K 1 N) : CI mC_near [.ref 10, .int (gi M 62 (0 + 1 : Int32).toNatClampNeg), .int (gi M 62 (0 + 2 : Int32).toNatClampNeg), .int (gi M 62 (0 + 3 : Int32).toNatClampNeg)] M (fun rv N => X mLa_law 798 [(0, .ref 62), (1, .ref 10), (2, .ref 6027), (3, .int 0)] [.int rv] N b (QI K)) := by
  refine ci_km (zC_near z (fun N y km => ?_))
  have n6 : N.1.2 = 6 := km.2.1.trans e6
  refine vLa_law_798 rfl ⟨in6 1 n6 (by decide) rfl, in6 2 n6 (by decide) rfl, in6 3 n6 (by decide) rfl, ?_⟩
  simp only [km.2.2]
  refine ci_km (yM_near y (fun N2 km2 => ?_))
  exact vLa_law_817 ⟨fun _ => law_fin (km2.2.1.trans n6) (hK N2), fun q => absurd rfl q⟩
theorem law_21 {M : Mm} {b : Nat × Nat} {K : Int32 → Mm → Prop} (z : ZM M) (e6 : M.1.2 = 6) (hK : ∀ N, K 1 N) : CI mC_bring [.ref 10, .int (gi M 62 (0 + 1 : Int32).toNatClampNeg)] M (fun rv N => X mLa_law 831 [(0, .ref 62), (1, .ref 10), (2, .ref 6027), (3, .int 0)] [.int rv] N b (QI K)) := by
  refine ci_km (zC_bring z (fun N y km => ?_))
  have n6 : N.1.2 = 6 := km.2.1.trans e6
  refine vLa_law_831 rfl ⟨in6 1 n6 (by decide) rfl, ?_⟩
  simp only [km.2.2]
  refine ci_km (yM_bring y (fun N2 km2 => ?_))
  exact vLa_law_840 ⟨fun _ => law_fin (km2.2.1.trans n6) (hK N2), fun q => absurd rfl q⟩
theorem law_22 {M : Mm} {b : Nat × Nat} {K : Int32 → Mm → Prop} (z : ZM M) (e6 : M.1.2 = 6) (hK : ∀ N, K 1 N) : CI mC_copies [.ref 10, .int (gi M 62 (0 + 1 : Int32).toNatClampNeg), .int (gi M 62 (0 + 2 : Int32).toNatClampNeg)] M (fun rv N => X mLa_law 859 [(0, .ref 62), (1, .ref 10), (2, .ref 6027), (3, .int 0)] [.int rv] N b (QI K)) := by
  refine ci_km (zC_copies z (fun N y km => ?_))
  have n6 : N.1.2 = 6 := km.2.1.trans e6
  refine vLa_law_859 rfl ⟨in6 1 n6 (by decide) rfl, in6 2 n6 (by decide) rfl, ?_⟩
  simp only [km.2.2]
  refine ci_km (yM_copies y (fun N2 km2 => ?_))
  exact vLa_law_873 ⟨fun _ => law_fin (km2.2.1.trans n6) (hK N2), fun q => absurd rfl q⟩
theorem law_23 {M : Mm} {b : Nat × Nat} {K : Int32 → Mm → Prop} (z : ZM M) (e6 : M.1.2 = 6) (hK : ∀ N, K 1 N) : CI mC_argue [.ref 10, .int (gi M 62 (0 + 1 : Int32).toNatClampNeg), .int (gi M 62 (0 + 2 : Int32).toNatClampNeg), .int (gi M 62 (0 + 3 : Int32).toNatClampNeg)] M (fun rv N => X mLa_law 897 [(0, .ref 62), (1, .ref 10), (2, .ref 6027), (3, .int 0)] [.int rv] N b (QI K)) := by
  refine ci_km (zC_argue z (fun N y km => ?_))
  have n6 : N.1.2 = 6 := km.2.1.trans e6
  refine vLa_law_897 rfl ⟨in6 1 n6 (by decide) rfl, in6 2 n6 (by decide) rfl, in6 3 n6 (by decide) rfl, ?_⟩
  simp only [km.2.2]
  refine ci_km (yM_argue y (fun N2 km2 => ?_))
  exact vLa_law_916 ⟨fun _ => law_fin (km2.2.1.trans n6) (hK N2), fun q => absurd rfl q⟩
theorem law_24 {M : Mm} {b : Nat × Nat} {K : Int32 → Mm → Prop} (z : ZM M) (e6 : M.1.2 = 6) (hK : ∀ N, K 1 N) : CI mC_game [.ref 10, .int (gi M 62 (0 + 1 : Int32).toNatClampNeg), .int (gi M 62 (0 + 2 : Int32).toNatClampNeg), .int (gi M 62 (0 + 3 : Int32).toNatClampNeg)] M (fun rv N => X mLa_law 940 [(0, .ref 62), (1, .ref 10), (2, .ref 6027), (3, .int 0)] [.int rv] N b (QI K)) := by
  refine ci_km (zC_game z (fun N y km => ?_))
  have n6 : N.1.2 = 6 := km.2.1.trans e6
  refine vLa_law_940 rfl ⟨in6 1 n6 (by decide) rfl, in6 2 n6 (by decide) rfl, in6 3 n6 (by decide) rfl, ?_⟩
  simp only [km.2.2]
  refine ci_km (yM_game y (fun N2 km2 => ?_))
  exact vLa_law_959 ⟨fun _ => law_fin (km2.2.1.trans n6) (hK N2), fun q => absurd rfl q⟩
theorem law_25 {M : Mm} {b : Nat × Nat} {K : Int32 → Mm → Prop} (z : ZM M) (e6 : M.1.2 = 6) (hK : ∀ N, K 1 N) : CI mC_turn [.ref 10, .int (gi M 62 (0 + 1 : Int32).toNatClampNeg)] M (fun rv N => X mLa_law 973 [(0, .ref 62), (1, .ref 10), (2, .ref 6027), (3, .int 0)] [.int rv] N b (QI K)) := by
  refine ci_km (zC_turn z (fun N y km => ?_))
  have n6 : N.1.2 = 6 := km.2.1.trans e6
  refine vLa_law_973 rfl ⟨in6 1 n6 (by decide) rfl, ?_⟩
  simp only [km.2.2]
  refine ci_km (yM_turn y (fun N2 km2 => ?_))
  exact vLa_law_982 ⟨fun _ => law_fin (km2.2.1.trans n6) (hK N2), fun q => absurd rfl q⟩
theorem law_26 {M : Mm} {b : Nat × Nat} {K : Int32 → Mm → Prop} (z : ZM M) (e6 : M.1.2 = 6) (hK : ∀ N, K 1 N) : CI mC_turns [.ref 10, .int (gi M 62 (0 + 1 : Int32).toNatClampNeg), .int (gi M 62 (0 + 2 : Int32).toNatClampNeg), .int (gi M 62 (0 + 3 : Int32).toNatClampNeg)] M (fun rv N => X mLa_law 1006 [(0, .ref 62), (1, .ref 10), (2, .ref 6027), (3, .int 0)] [.int rv] N b (QI K)) := by
  refine ci_km (zC_turns z (fun N y km => ?_))
  have n6 : N.1.2 = 6 := km.2.1.trans e6
  refine vLa_law_1006 rfl ⟨in6 1 n6 (by decide) rfl, in6 2 n6 (by decide) rfl, in6 3 n6 (by decide) rfl, ?_⟩
  simp only [km.2.2]
  refine ci_km (yM_turns y (fun N2 km2 => ?_))
  exact vLa_law_1025 ⟨fun _ => law_fin (km2.2.1.trans n6) (hK N2), fun q => absurd rfl q⟩
theorem law_27 {M : Mm} {b : Nat × Nat} {K : Int32 → Mm → Prop} (z : ZM M) (e6 : M.1.2 = 6) (hK : ∀ N, K 1 N) : CI mC_keep [.ref 10] M (fun rv N => X mLa_law 1034 [(0, .ref 62), (1, .ref 10), (2, .ref 6027), (3, .int 0)] [.int rv] N b (QI K)) := by
  refine ci_km (zC_keep z (fun N y km => ?_))
  have n6 : N.1.2 = 6 := km.2.1.trans e6
  refine vLa_law_1034 rfl ?_
  refine ci_km (yM_keep y (fun N2 km2 => ?_))
  exact vLa_law_1038 ⟨fun _ => law_fin (km2.2.1.trans n6) (hK N2), fun q => absurd rfl q⟩
theorem law_28 {M : Mm} {b : Nat × Nat} {K : Int32 → Mm → Prop} (z : ZM M) (e6 : M.1.2 = 6) (hK : ∀ N, K 1 N) : CI mC_swap [.ref 10] M (fun rv N => X mLa_law 1047 [(0, .ref 62), (1, .ref 10), (2, .ref 6027), (3, .int 0)] [.int rv] N b (QI K)) := by
  refine ci_km (zC_swap z (fun N y km => ?_))
  have n6 : N.1.2 = 6 := km.2.1.trans e6
  refine vLa_law_1047 rfl ?_
  refine ci_km (yM_swap y (fun N2 km2 => ?_))
  exact vLa_law_1051 ⟨fun _ => law_fin (km2.2.1.trans n6) (hK N2), fun q => absurd rfl q⟩
theorem law_29 {M : Mm} {b : Nat × Nat} {K : Int32 → Mm → Prop} (z : ZM M) (e6 : M.1.2 = 6) (hK : ∀ N, K 1 N) : CI mC_differ [.ref 10, .int (gi M 62 (0 + 1 : Int32).toNatClampNeg)] M (fun rv N => X mLa_law 1065 [(0, .ref 62), (1, .ref 10), (2, .ref 6027), (3, .int 0)] [.int rv] N b (QI K)) := by
  refine ci_km (zC_differ z (fun N y km => ?_))
  have n6 : N.1.2 = 6 := km.2.1.trans e6
  refine vLa_law_1065 rfl ⟨in6 1 n6 (by decide) rfl, ?_⟩
  simp only [km.2.2]
  refine ci_km (yM_differ y (fun N2 km2 => ?_))
  exact vLa_law_1074 ⟨fun _ => law_fin (km2.2.1.trans n6) (hK N2), fun q => absurd rfl q⟩
theorem law_30 {M : Mm} {b : Nat × Nat} {K : Int32 → Mm → Prop} (z : ZM M) (e6 : M.1.2 = 6) (hK : ∀ N, K 1 N) : CI mC_brief [.ref 10, .int (gi M 62 (0 + 1 : Int32).toNatClampNeg)] M (fun rv N => X mLa_law 1088 [(0, .ref 62), (1, .ref 10), (2, .ref 6027), (3, .int 0)] [.int rv] N b (QI K)) := by
  refine ci_km (zC_brief z (fun N y km => ?_))
  have n6 : N.1.2 = 6 := km.2.1.trans e6
  refine vLa_law_1088 rfl ⟨in6 1 n6 (by decide) rfl, ?_⟩
  simp only [km.2.2]
  refine ci_km (yM_brief y (fun N2 km2 => ?_))
  exact vLa_law_1097 ⟨fun _ => law_fin (km2.2.1.trans n6) (hK N2), fun q => absurd rfl q⟩
theorem law_31 {M : Mm} {b : Nat × Nat} {K : Int32 → Mm → Prop} (z : ZM M) (e6 : M.1.2 = 6) (hK : ∀ N, K 1 N) : CI mC_sheet [.ref 10, .int (gi M 62 (0 + 1 : Int32).toNatClampNeg), .int (gi M 62 (0 + 2 : Int32).toNatClampNeg), .int (gi M 62 (0 + 3 : Int32).toNatClampNeg)] M (fun rv N => X mLa_law 1121 [(0, .ref 62), (1, .ref 10), (2, .ref 6027), (3, .int 0)] [.int rv] N b (QI K)) := by
  refine ci_km (zC_sheet z (fun N y km => ?_))
  have n6 : N.1.2 = 6 := km.2.1.trans e6
  refine vLa_law_1121 rfl ⟨in6 1 n6 (by decide) rfl, in6 2 n6 (by decide) rfl, in6 3 n6 (by decide) rfl, ?_⟩
  simp only [km.2.2]
  refine ci_km (yM_sheet y (fun N2 km2 => ?_))
  exact vLa_law_1140 ⟨fun _ => law_fin (km2.2.1.trans n6) (hK N2), fun q => absurd rfl q⟩
theorem law_32 {M : Mm} {b : Nat × Nat} {K : Int32 → Mm → Prop} (z : ZM M) (e6 : M.1.2 = 6) (hK : ∀ N, K 1 N) : CI mC_lay [.ref 10, .int (gi M 62 (0 + 1 : Int32).toNatClampNeg), .int (gi M 62 (0 + 2 : Int32).toNatClampNeg), .int (gi M 62 (0 + 3 : Int32).toNatClampNeg)] M (fun rv N => X mLa_law 1164 [(0, .ref 62), (1, .ref 10), (2, .ref 6027), (3, .int 0)] [.int rv] N b (QI K)) := by
  refine ci_km (zC_lay z (fun N y km => ?_))
  have n6 : N.1.2 = 6 := km.2.1.trans e6
  refine vLa_law_1164 rfl ⟨in6 1 n6 (by decide) rfl, in6 2 n6 (by decide) rfl, in6 3 n6 (by decide) rfl, ?_⟩
  simp only [km.2.2]
  refine ci_km (yM_lay y (fun N2 km2 => ?_))
  exact vLa_law_1183 ⟨fun _ => law_fin (km2.2.1.trans n6) (hK N2), fun q => absurd rfl q⟩
theorem law_33 {M : Mm} {b : Nat × Nat} {K : Int32 → Mm → Prop} (z : ZM M) (e6 : M.1.2 = 6) (hK : ∀ N, K 1 N) : CI mC_read [.ref 10, .int (gi M 62 (0 + 1 : Int32).toNatClampNeg), .int (gi M 62 (0 + 2 : Int32).toNatClampNeg), .int (gi M 62 (0 + 3 : Int32).toNatClampNeg), .int (gi M 62 (0 + 4 : Int32).toNatClampNeg), .int (gi M 62 (0 + 5 : Int32).toNatClampNeg)] M (fun rv N => X mLa_law 1217 [(0, .ref 62), (1, .ref 10), (2, .ref 6027), (3, .int 0)] [.int rv] N b (QI K)) := by
  refine ci_km (zC_read z (fun N y km => ?_))
  have n6 : N.1.2 = 6 := km.2.1.trans e6
  refine vLa_law_1217 rfl ⟨in6 1 n6 (by decide) rfl, in6 2 n6 (by decide) rfl, in6 3 n6 (by decide) rfl, in6 4 n6 (by decide) rfl, in6 5 n6 (by decide) rfl, ?_⟩
  simp only [km.2.2]
  refine ci_km (yM_read y (fun N2 km2 => ?_))
  exact vLa_law_1246 ⟨fun _ => law_fin (km2.2.1.trans n6) (hK N2), fun q => absurd rfl q⟩
theorem law_34 {M : Mm} {b : Nat × Nat} {K : Int32 → Mm → Prop} (z : ZM M) (e6 : M.1.2 = 6) (hK : ∀ N, K 1 N) : CI mC_count [.ref 10, .int (gi M 62 (0 + 1 : Int32).toNatClampNeg)] M (fun rv N => X mLa_law 1260 [(0, .ref 62), (1, .ref 10), (2, .ref 6027), (3, .int 0)] [.int rv] N b (QI K)) := by
  refine ci_km (zC_count z (fun N y km => ?_))
  have n6 : N.1.2 = 6 := km.2.1.trans e6
  refine vLa_law_1260 rfl ⟨in6 1 n6 (by decide) rfl, ?_⟩
  simp only [km.2.2]
  refine ci_km (yM_count y (fun N2 km2 => ?_))
  exact vLa_law_1269 ⟨fun _ => law_fin (km2.2.1.trans n6) (hK N2), fun q => absurd rfl q⟩
theorem law_at {M : Mm} {b : Nat × Nat} {K : Int32 → Mm → Prop} (z : ZM M) (hL : M.1.2 ≤ 6) (hK : ∀ N, K 1 N) : X mLa_law 18 [(0, .ref 62), (1, .ref 10), (2, .ref 6027), (3, .int 0)] [] M b (QI K) := by
  by_cases e6 : M.1.2 = 6
  · have l : ¬ (Int32.ofNat M.1.2) - 6 < 0 := by rw [e6]; decide
    refine vLa_law_18 rfl ⟨fun _ => in6 0 e6 (by decide) rfl, fun q => absurd q l, fun _ => ⟨fun _ => ⟨in6 1 e6 (by decide) rfl, in6 2 e6 (by decide) rfl, law_0 z e6 hK⟩, fun _ => ⟨in6 1 e6 (by decide) rfl, law_1 z e6 hK⟩, fun _ => law_2 z e6 hK, fun _ => law_3 z e6 hK, fun _ => law_4 z e6 hK, fun _ => ⟨in6 1 e6 (by decide) rfl, law_5 z e6 hK⟩, fun _ => ⟨in6 1 e6 (by decide) rfl, in6 2 e6 (by decide) rfl, law_6 z e6 hK⟩, fun _ => ⟨in6 1 e6 (by decide) rfl, in6 2 e6 (by decide) rfl, law_7 z e6 hK⟩, fun _ => ⟨in6 1 e6 (by decide) rfl, law_8 z e6 hK⟩, fun _ => ⟨in6 1 e6 (by decide) rfl, in6 2 e6 (by decide) rfl, law_9 z e6 hK⟩, fun _ => ⟨in6 1 e6 (by decide) rfl, law_10 z e6 hK⟩, fun _ => ⟨in6 1 e6 (by decide) rfl, in6 2 e6 (by decide) rfl, law_11 z e6 hK⟩, fun _ => ⟨in6 1 e6 (by decide) rfl, in6 2 e6 (by decide) rfl, law_12 z e6 hK⟩, fun _ => ⟨in6 1 e6 (by decide) rfl, in6 2 e6 (by decide) rfl, in6 3 e6 (by decide) rfl, law_13 z e6 hK⟩, fun _ => ⟨in6 1 e6 (by decide) rfl, in6 2 e6 (by decide) rfl, law_14 z e6 hK⟩, fun _ => ⟨in6 1 e6 (by decide) rfl, in6 2 e6 (by decide) rfl, law_15 z e6 hK⟩, fun _ => ⟨in6 1 e6 (by decide) rfl, law_16 z e6 hK⟩, fun _ => ⟨in6 1 e6 (by decide) rfl, law_17 z e6 hK⟩, fun _ => ⟨in6 1 e6 (by decide) rfl, in6 2 e6 (by decide) rfl, in6 3 e6 (by decide) rfl, in6 4 e6 (by decide) rfl, in6 5 e6 (by decide) rfl, law_18 z e6 hK⟩, fun _ => ⟨in6 1 e6 (by decide) rfl, law_19 z e6 hK⟩, fun _ => ⟨in6 1 e6 (by decide) rfl, in6 2 e6 (by decide) rfl, in6 3 e6 (by decide) rfl, law_20 z e6 hK⟩, fun _ => ⟨in6 1 e6 (by decide) rfl, law_21 z e6 hK⟩, fun _ => ⟨in6 1 e6 (by decide) rfl, in6 2 e6 (by decide) rfl, law_22 z e6 hK⟩, fun _ => ⟨in6 1 e6 (by decide) rfl, in6 2 e6 (by decide) rfl, in6 3 e6 (by decide) rfl, law_23 z e6 hK⟩, fun _ => ⟨in6 1 e6 (by decide) rfl, in6 2 e6 (by decide) rfl, in6 3 e6 (by decide) rfl, law_24 z e6 hK⟩, fun _ => ⟨in6 1 e6 (by decide) rfl, law_25 z e6 hK⟩, fun _ => ⟨in6 1 e6 (by decide) rfl, in6 2 e6 (by decide) rfl, in6 3 e6 (by decide) rfl, law_26 z e6 hK⟩, fun _ => law_27 z e6 hK, fun _ => law_28 z e6 hK, fun _ => ⟨in6 1 e6 (by decide) rfl, law_29 z e6 hK⟩, fun _ => ⟨in6 1 e6 (by decide) rfl, law_30 z e6 hK⟩, fun _ => ⟨in6 1 e6 (by decide) rfl, in6 2 e6 (by decide) rfl, in6 3 e6 (by decide) rfl, law_31 z e6 hK⟩, fun _ => ⟨in6 1 e6 (by decide) rfl, in6 2 e6 (by decide) rfl, in6 3 e6 (by decide) rfl, law_32 z e6 hK⟩, fun _ => ⟨in6 1 e6 (by decide) rfl, in6 2 e6 (by decide) rfl, in6 3 e6 (by decide) rfl, in6 4 e6 (by decide) rfl, in6 5 e6 (by decide) rfl, law_33 z e6 hK⟩, fun _ => ⟨in6 1 e6 (by decide) rfl, law_34 z e6 hK⟩, fun _ => law_fin e6 (hK M)⟩⟩
  · have l : (Int32.ofNat M.1.2) - 6 < 0 := by
      have : ∀ n, n < 6 → (Int32.ofNat n) - 6 < 0 := by decide +kernel
      exact this _ (by omega)
    exact vLa_law_18 rfl ⟨fun q => absurd l q, fun _ => hK M, fun q => absurd l q⟩
theorem zm_mem {sh : List Nat} {n : Nat} {xs : Nat → Int32} : ZM (mem sh n xs lmI lmG) := by
  have hy : ∀ q ∈ yl, ∀ j, j < q.2.2.1 → q.2.1 ≤ j → LK lmI q.1 j = q.2.2.2 := by decide +kernel
  have hz : ∀ q ∈ zl, ∀ j, j < q.2.2.1 → q.2.1 ≤ j → LK lmI q.1 j = q.2.2.2 := by decide +kernel
  have ny : ∀ q ∈ yl, (q.1 == 62) = false := by decide +kernel
  have nz : ∀ q ∈ zl, (q.1 == 62) = false := by decide +kernel
  have hg : ∀ q ∈ zg, GK lmG q.1 q.2.1 = some q.2.2 := by decide +kernel
  refine ⟨⟨mem_mr (by decide +kernel), fun q hq j h1 h2 => (mem_gi (ny q hq)).trans (hy q hq j h2 h1), fun _ _ => rfl⟩, hg, fun q hq j h1 h2 => (mem_gi (nz q hq)).trans (hz q hq j h2 h1)⟩
set_option maxRecDepth 20000 in
theorem law_start {n : Nat} {xs : Nat → Int32} {K : Int32 → Mm → Prop} (hL : n ≤ 6) (hK : ∀ N, K 1 N) : X mLa_law 0 [(0, .ref 62)] [] (mem [] n xs [] []) (mC mLa_law, mS mLa_law) (QI K) := by
  have hs : ([] : List Nat).length = 0 := rfl
  refine vLa_law_0 (b' := (28, 1927)) (by decide) ?_
  rw [mem_len hs 10 10 rfl, mem_nwl hs 10 10 rfl rfl rfl rfl]
  refine sC_init (sh := [] ++ [10]) rfl (fun sh hs => ?_)
  refine vLa_law_7 (b' := (0, 0)) (by decide) ?_
  rw [mem_len hs 11 6027 rfl, mem_nwl hs 11 6027 rfl rfl (by decide +kernel) (by decide +kernel)]
  refine sM_init (ap_len hs 11) (fun sh hs => ?_)
  refine vLa_law_15 ?_
  exact law_at zm_mem hL hK
