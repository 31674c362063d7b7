/-! ===== the class reads a rule as the lines tell it ===== -/
section EQC
variable {M : Mm} {T : Nat → Int32} {t : Nat}
/-- what a row's telling leaves of the tokens, and what it tells -/
def qtS (T : Nat → Int32) (t i : Nat) (s : Tst) : Tst := if i = 0 then tkD T t (adv T t s) else if i = 1 then tkN 9 (adv T t s) else if i = 2 then s else if i = 3 then tk1 T t 3 (adv T t s) else if i = 4 then tkO T t (adv T t s) else if i = 5 then tk1 T t 4 (adv T t s) else tk1 T t 5 (adv T t s)
def qtv (T : Nat → Int32) (t i : Nat) (s : Tst) : Int32 := if i = 0 then tkDv T t (adv T t s) else if i = 1 then tkNv 9 (adv T t s) else if i = 2 then 1 else if i = 3 then tk1v T t 3 (adv T t s) else if i = 4 then tkOv T t (adv T t s) else if i = 5 then (if tk1v T t 4 (adv T t s) ≤ 1 then tk1v T t 4 (adv T t s) else -4) else tk1v T t 5 (adv T t s)
theorem qt0 {s : Tst} : qtS T t 0 s = tkD T t (adv T t s) := by unfold qtS; rw [if_pos rfl]
theorem qv0 {s : Tst} : qtv T t 0 s = tkDv T t (adv T t s) := by unfold qtv; rw [if_pos rfl]
theorem qt1 {s : Tst} : qtS T t 1 s = tkN 9 (adv T t s) := by unfold qtS; rw [if_neg (by decide), if_pos rfl]
theorem qv1 {s : Tst} : qtv T t 1 s = tkNv 9 (adv T t s) := by unfold qtv; rw [if_neg (by decide), if_pos rfl]
theorem qt2 {s : Tst} : qtS T t 2 s = s := by unfold qtS; rw [if_neg (by decide), if_neg (by decide), if_pos rfl]
theorem qv2 {s : Tst} : qtv T t 2 s = 1 := by unfold qtv; rw [if_neg (by decide), if_neg (by decide), if_pos rfl]
theorem qt3 {s : Tst} : qtS T t 3 s = tk1 T t 3 (adv T t s) := by unfold qtS; rw [if_neg (by decide), if_neg (by decide), if_neg (by decide), if_pos rfl]
theorem qv3 {s : Tst} : qtv T t 3 s = tk1v T t 3 (adv T t s) := by unfold qtv; rw [if_neg (by decide), if_neg (by decide), if_neg (by decide), if_pos rfl]
theorem qt4 {s : Tst} : qtS T t 4 s = tkO T t (adv T t s) := by unfold qtS; rw [if_neg (by decide), if_neg (by decide), if_neg (by decide), if_neg (by decide), if_pos rfl]
theorem qv4 {s : Tst} : qtv T t 4 s = tkOv T t (adv T t s) := by unfold qtv; rw [if_neg (by decide), if_neg (by decide), if_neg (by decide), if_neg (by decide), if_pos rfl]
theorem qt5 {s : Tst} : qtS T t 5 s = tk1 T t 4 (adv T t s) := by unfold qtS; rw [if_neg (by decide), if_neg (by decide), if_neg (by decide), if_neg (by decide), if_neg (by decide), if_pos rfl]
theorem qv5 {s : Tst} : qtv T t 5 s = (if tk1v T t 4 (adv T t s) ≤ 1 then tk1v T t 4 (adv T t s) else -4) := by unfold qtv; rw [if_neg (by decide), if_neg (by decide), if_neg (by decide), if_neg (by decide), if_neg (by decide), if_pos rfl]
theorem qt6 {s : Tst} : qtS T t 6 s = tk1 T t 5 (adv T t s) := by unfold qtS; rw [if_neg (by decide), if_neg (by decide), if_neg (by decide), if_neg (by decide), if_neg (by decide), if_neg (by decide)]
theorem qv6 {s : Tst} : qtv T t 6 s = tk1v T t 5 (adv T t s) := by unfold qtv; rw [if_neg (by decide), if_neg (by decide), if_neg (by decide), if_neg (by decide), if_neg (by decide), if_neg (by decide)]
theorem or_sw {p q r : Prop} : (p ∨ q ∨ r) → (q ∨ p ∨ r) := fun h => h.elim (fun x => Or.inr (Or.inl x)) (fun h => h.elim Or.inl (fun x => Or.inr (Or.inr x)))
theorem eRr_tell {r i : Nat} {s : Tst} {K : Mm → Prop} (hk : r % 64 = 3) (hi : i < 7) (g0 : gr M 324 0 = some 199) (td : TD M T t s) (h : ∀ N, PX r M N → TD N T t (qtS T t i s) → (∀ j, gi N r j = if j = i then qtv T t i s else gi M r j) → K N) : CV mRr_tell [.ref 324, .ref r, .int (nI i)] M K := by
  have x1 : r ≠ 199 := by omega
  have x2 : r ≠ 70 := by omega
  have x3 : r ≠ 145 := by omega
  have fin : ∀ N v, PT M N → TD N T t (qtS T t i s) → v = qtv T t i s → K (si N r i v) := by
    intro N v pN tN e
    refine h _ (px_tr (px_pt pN) px_si) (td_si x1 x2 x3 tN) (fun j => ?_)
    rw [gxs, e, pN.2.2 r x1]
  have ii : i = 0 ∨ i = 1 ∨ i = 2 ∨ i = 3 ∨ i = 4 ∨ i = 5 ∨ i = 6 := by omega
  rcases ii with rfl | rfl | rfl | rfl | rfl | rfl | rfl
  · refine call_of rfl (Nat.le_of_ble_eq_true rfl) rfl (vRr_tell_0 rfl hk g0 ⟨fun _ => nTo_takeDoctors td (fun N pN tN => vRr_tell_48 hk (fin N _ pN (by rw [qt0]; exact tN) qv0.symm)), fun q => absurd q (by decide), fun q => absurd q (by decide), fun q => absurd q (by decide), fun q => absurd q (by decide), fun q => absurd q (by decide), fun q => absurd rfl q.1⟩)
  · refine call_of rfl (Nat.le_of_ble_eq_true rfl) rfl (vRr_tell_0 rfl hk g0 ⟨fun q => absurd q (by decide), fun _ => nTo_takeNumber td (fun N pN tN => vRr_tell_64 hk (fin N _ pN (by rw [qt1]; exact tN) qv1.symm)), fun q => absurd q (by decide), fun q => absurd q (by decide), fun q => absurd q (by decide), fun q => absurd q (by decide), fun q => absurd rfl q.2.1⟩)
  · refine call_of rfl (Nat.le_of_ble_eq_true rfl) rfl (vRr_tell_0 rfl hk g0 ⟨fun q => absurd q (by decide), fun q => absurd q (by decide), fun _ => fin M _ (pt_rf M) (by rw [qt2]; exact td) qv2.symm, fun q => absurd q (by decide), fun q => absurd q (by decide), fun q => absurd q (by decide), fun q => absurd rfl q.2.2.1⟩)
  · refine call_of rfl (Nat.le_of_ble_eq_true rfl) rfl (vRr_tell_0 rfl hk g0 ⟨fun q => absurd q (by decide), fun q => absurd q (by decide), fun q => absurd q (by decide), fun _ => nTo_takeOneOf (j := 3) td (by decide) (fun N pN tN => vRr_tell_88 hk (fin N _ pN (by rw [qt3]; exact tN) qv3.symm)), fun q => absurd q (by decide), fun q => absurd q (by decide), fun q => absurd rfl q.2.2.2.1⟩)
  · refine call_of rfl (Nat.le_of_ble_eq_true rfl) rfl (vRr_tell_0 rfl hk g0 ⟨fun q => absurd q (by decide), fun q => absurd q (by decide), fun q => absurd q (by decide), fun q => absurd q (by decide), fun _ => nTo_takeDoctor td (fun N pN tN => vRr_tell_102 hk (fin N _ pN (by rw [qt4]; exact tN) qv4.symm)), fun q => absurd q (by decide), fun q => absurd rfl q.2.2.2.2.1⟩)
  · refine call_of rfl (Nat.le_of_ble_eq_true rfl) rfl (vRr_tell_0 rfl hk g0 ⟨fun q => absurd q (by decide), fun q => absurd q (by decide), fun q => absurd q (by decide), fun q => absurd q (by decide), fun q => absurd q (by decide), fun _ => nTo_takeOneOf (j := 4) td (by decide) (fun N pN tN => vRr_tell_118 hk hk ?_), fun q => absurd rfl q.2.2.2.2.2⟩)
    refine h _ (px_tr (px_pt pN) (px_tr px_si px_si)) (by rw [qt5]; exact td_si x1 x2 x3 (td_si x1 x2 x3 tN)) (fun j => ?_)
    rw [qv5]
    have e5 : gi (si N r 5 (tk1v T t 4 (adv T t s))) r 5 = tk1v T t 4 (adv T t s) := by rw [gxs, if_pos rfl]
    rw [e5, gxs]
    by_cases q : j = 5
    · rw [if_pos q, if_pos q]
    · rw [if_neg q, if_neg q, gxs, if_neg q, pN.2.2 r x1]
  · refine call_of rfl (Nat.le_of_ble_eq_true rfl) rfl (vRr_tell_0 rfl hk g0 ⟨fun q => absurd q (by decide), fun q => absurd q (by decide), fun q => absurd q (by decide), fun q => absurd q (by decide), fun q => absurd q (by decide), fun q => absurd q (by decide), fun _ => nTo_takeOneOf (j := 5) td (by decide) (fun N pN tN => vRr_tell_155 hk (fin N _ pN (by rw [qt6]; exact tN) qv6.symm))⟩)
/-- a rule's line's name, on both sides -/
theorem lr_rel {c : Tst} {s : Rst} (hs : s.2.1 ≤ 400) (h : RL c s) (f : c.2.2.2.2.1 = 0) :
    ((if c.1 = 2 then amo T t 2 c else -1) = -1 ∧ row (lnk T t s) = -4) ∨
    (∃ i, i < 7 ∧ (if c.1 = 2 then amo T t 2 c else -1) = nI i ∧ row (lnk T t s) = nI i ∧ ([12, 11, 13, 14, 15, 16, 17] : List Int32)[i]? = some (lnk T t s)) := by
  obtain ⟨e1, e2, ks, -⟩ := h.2.2 f
  by_cases k2 : c.1 = 2
  · have s1 : s.2.2.1 = 1 := (ks2 ks).mp k2
    have el : lnk T t s = nmF (tkl T t s.1 (s.2.1 - s.1)) := by unfold lnk; rw [if_pos s1, nmv_d T t _ _ hs]
    have ea : amo T t 2 c = fnd (tkl T t s.1 (s.2.1 - s.1)) NL2 0 := by rw [am2, rl_tok h f]
    rw [if_pos k2, el, ea]
    rcases frq2 (tkl T t s.1 (s.2.1 - s.1)) with ⟨e, n⟩ | ⟨i, hi, e, cc⟩
    · refine Or.inl ⟨e, ?_⟩
      unfold row
      rw [if_neg (n 12 (by decide)), if_neg (n 11 (by decide)), if_neg (n 13 (by decide)), if_neg (n 14 (by decide)), if_neg (n 15 (by decide)), if_neg (n 16 (by decide)), if_neg (n 17 (by decide))]
    · refine Or.inr ⟨i, hi, e, ?_, cc⟩
      generalize nmF (tkl T t s.1 (s.2.1 - s.1)) = k at cc
      match i, hi, cc with
      | 0, _, cc => rw [← Option.some.inj cc]; decide
      | 1, _, cc => rw [← Option.some.inj cc]; decide
      | 2, _, cc => rw [← Option.some.inj cc]; decide
      | 3, _, cc => rw [← Option.some.inj cc]; decide
      | 4, _, cc => rw [← Option.some.inj cc]; decide
      | 5, _, cc => rw [← Option.some.inj cc]; decide
      | 6, _, cc => rw [← Option.some.inj cc]; decide
  · have s1 : ¬ s.2.2.1 = 1 := fun z => k2 ((ks2 ks).mpr z)
    have el : lnk T t s = -4 := by unfold lnk; rw [if_neg s1]
    rw [if_neg k2, el]
    exact Or.inl ⟨rfl, by decide⟩
theorem ru2_f {tl : Nat → Int32} {s : Rst} (h : ¬ (ru1 T t tl s).2.2.2.2.1 = 0) : ru2 T t tl s = ru1 T t tl s := by
  unfold ru2
  generalize ru1 T t tl s = s1 at h ⊢
  by_cases q1 : lnk T t s = 12
  · rw [if_pos q1]; exact rms_f h
  rw [if_neg q1]
  by_cases q2 : lnk T t s = 11
  · rw [if_pos q2]; exact rnf h
  rw [if_neg q2]
  by_cases q3 : lnk T t s = 13
  · rw [if_pos q3]
  rw [if_neg q3]
  by_cases q4 : lnk T t s = 14
  · rw [if_pos q4]; exact oos_f h
  rw [if_neg q4]
  by_cases q5 : lnk T t s = 15
  · rw [if_pos q5]; exact rds_f h
  rw [if_neg q5]
  by_cases q6 : lnk T t s = 16
  · rw [if_pos q6]; exact oos_f h
  · rw [if_neg q6]; exact oos_f h
/-- what a row tells is the same -/
theorem rl_tell {c : Tst} {s : Rst} {tl : Nat → Int32} {i : Nat} (tc : TC M T t) (ht : t ≤ 400) (hs : s.2.1 ≤ 400) (hi : i < 7) (h : RL c s) (f : c.2.2.2.2.1 = 0) (er : row (lnk T t s) = nI i) (ek : ([12, 11, 13, 14, 15, 16, 17] : List Int32)[i]? = some (lnk T t s)) (t0 : tl i = 0) :
    NXT T t (qtS T t i c) (ru2 T t tl s) ∧ ((qtS T t i c).2.2.2.2.1 = 0 → qtv T t i c = ruv T t tl s) := by
  have e1 : ru1 T t tl s = nxs T t s := by
    unfold ru1
    rw [er, ncl (by omega), t0, if_pos rfl, if_neg (nI4 (by omega)), wts_t (by decide), wts_t (by decide)]
  have z : RL (adv T t c) (nxs T t s) := rl_adv tc h f
  have z4 : (nxs T t s).2.1 ≤ 400 := nxs_400 ht hs
  match i, hi, ek with
  | 0, _, ek =>
    have k : lnk T t s = 12 := (Option.some.inj ek).symm
    have a1 : ru2 T t tl s = rms T t (nxs T t s) := by unfold ru2; rw [if_pos k, e1]
    have a2 : ruv T t tl s = rmv T t (nxs T t s) := by unfold ruv; rw [if_pos k, e1]
    rw [a1, a2, qt0, qv0]
    obtain ⟨g1, g2⟩ := rl_main (T := T) (t := t) z
    exact ⟨⟨_, g1, rms_d⟩, fun y => (g2 y).1⟩
  | 1, _, ek =>
    have k : lnk T t s = 11 := (Option.some.inj ek).symm
    have a1 : ru2 T t tl s = nxs T t (isn 0 9 (nxs T t s)) := by unfold ru2; rw [if_neg (by rw [k]; decide), if_pos k, e1]
    have a2 : ruv T t tl s = (nxs T t s).2.2.2.1 := by unfold ruv; rw [if_neg (by rw [k]; decide), if_pos k, e1]
    rw [a1, a2, qt1, qv1]
    obtain ⟨g1, g2⟩ := rl_num (g := 9) (by decide) z
    exact ⟨⟨_, g1, rfl⟩, fun y => (g2 y).1⟩
  | 2, _, ek =>
    have k : lnk T t s = 13 := (Option.some.inj ek).symm
    have a1 : ru2 T t tl s = nxs T t s := by unfold ru2; rw [if_neg (by rw [k]; decide), if_neg (by rw [k]; decide), if_pos k, e1]
    have a2 : ruv T t tl s = 1 := by unfold ruv; rw [if_neg (by rw [k]; decide), if_neg (by rw [k]; decide), if_pos k]
    rw [a1, a2, qt2, qv2]
    exact ⟨⟨s, h, rfl⟩, fun _ => rfl⟩
  | 3, _, ek =>
    have k : lnk T t s = 14 := (Option.some.inj ek).symm
    have a1 : ru2 T t tl s = oos T t 20 18 19 (nxs T t s) := by unfold ru2; rw [if_neg (by rw [k]; decide), if_neg (by rw [k]; decide), if_neg (by rw [k]; decide), if_pos k, e1]
    have a2 : ruv T t tl s = (if nmk T t (nxs T t s) = 20 then 0 else if nmk T t (nxs T t s) = 18 then 1 else 2) := by unfold ruv; rw [if_neg (by rw [k]; decide), if_neg (by rw [k]; decide), if_neg (by rw [k]; decide), if_pos k, e1]
    rw [a1, a2, qt3, qv3]
    obtain ⟨g1, g2⟩ := rl_one (j := 3) (x := 20) (y := 18) (z := 19) z4 z (am3 T t) frq3
    refine ⟨⟨_, g1, oos_d⟩, fun y => ?_⟩
    obtain ⟨⟨m, hm, ev, em⟩, -⟩ := g2 y
    rw [ev]
    match m, hm, em with
    | 0, _, em => rw [← Option.some.inj em]; decide
    | 1, _, em => rw [← Option.some.inj em]; decide
    | 2, _, em => rw [← Option.some.inj em]; decide
  | 4, _, ek =>
    have k : lnk T t s = 15 := (Option.some.inj ek).symm
    have a1 : ru2 T t tl s = rds T t (nxs T t s) := by unfold ru2; rw [if_neg (by rw [k]; decide), if_neg (by rw [k]; decide), if_neg (by rw [k]; decide), if_neg (by rw [k]; decide), if_pos k, e1]
    have a2 : ruv T t tl s = rdv T t (nxs T t s) := by unfold ruv; rw [if_neg (by rw [k]; decide), if_neg (by rw [k]; decide), if_neg (by rw [k]; decide), if_neg (by rw [k]; decide), if_pos k, e1]
    rw [a1, a2, qt4, qv4]
    obtain ⟨g1, g2⟩ := rl_doc (T := T) (t := t) z4 z
    exact ⟨⟨_, g1, rds_d⟩, fun y => (g2 y).1⟩
  | 5, _, ek =>
    have k : lnk T t s = 16 := (Option.some.inj ek).symm
    have a1 : ru2 T t tl s = oos T t 22 23 24 (nxs T t s) := by unfold ru2; rw [if_neg (by rw [k]; decide), if_neg (by rw [k]; decide), if_neg (by rw [k]; decide), if_neg (by rw [k]; decide), if_neg (by rw [k]; decide), if_pos k, e1]
    have a2 : ruv T t tl s = (if nmk T t (nxs T t s) = 22 then 1 else if nmk T t (nxs T t s) = 23 then 0 else -4) := by unfold ruv; rw [if_neg (by rw [k]; decide), if_neg (by rw [k]; decide), if_neg (by rw [k]; decide), if_neg (by rw [k]; decide), if_neg (by rw [k]; decide), if_pos k, e1]
    have ec : ∀ r : Rst, ooc T t 22 23 24 r = ooc T t 23 22 24 r := fun r => by
      unfold ooc
      congr 1
      by_cases q : nmk T t r = 22 ∨ nmk T t r = 23 ∨ nmk T t r = 24
      · rw [if_pos q, if_pos (or_sw q)]
      · rw [if_neg q, if_neg (fun y => q (or_sw y))]
    rw [a1, a2, qt5, qv5]
    obtain ⟨g1, g2⟩ := rl_one (j := 4) (x := 23) (y := 22) (z := 24) z4 z (am4 T t) frq4
    refine ⟨⟨_, g1, by rw [oos_d, ec]⟩, fun y => ?_⟩
    obtain ⟨⟨m, hm, ev, em⟩, -⟩ := g2 y
    rw [ev]
    match m, hm, em with
    | 0, _, em => rw [← Option.some.inj em]; decide
    | 1, _, em => rw [← Option.some.inj em]; decide
    | 2, _, em => rw [← Option.some.inj em]; decide
  | 6, _, ek =>
    have k : lnk T t s = 17 := (Option.some.inj ek).symm
    have a1 : ru2 T t tl s = oos T t 20 18 21 (nxs T t s) := by unfold ru2; rw [if_neg (by rw [k]; decide), if_neg (by rw [k]; decide), if_neg (by rw [k]; decide), if_neg (by rw [k]; decide), if_neg (by rw [k]; decide), if_neg (by rw [k]; decide), e1]
    have a2 : ruv T t tl s = (if nmk T t (nxs T t s) = 20 then 0 else if nmk T t (nxs T t s) = 18 then 1 else 2) := by unfold ruv; rw [if_neg (by rw [k]; decide), if_neg (by rw [k]; decide), if_neg (by rw [k]; decide), if_neg (by rw [k]; decide), if_neg (by rw [k]; decide), if_neg (by rw [k]; decide), e1]
    rw [a1, a2, qt6, qv6]
    obtain ⟨g1, g2⟩ := rl_one (j := 5) (x := 20) (y := 18) (z := 21) z4 z (am5 T t) frq5
    refine ⟨⟨_, g1, oos_d⟩, fun y => ?_⟩
    obtain ⟨⟨m, hm, ev, em⟩, -⟩ := g2 y
    rw [ev]
    match m, hm, em with
    | 0, _, em => rw [← Option.some.inj em]; decide
    | 1, _, em => rw [← Option.some.inj em]; decide
    | 2, _, em => rw [← Option.some.inj em]; decide
/-- the class's draft of a rule -/
def CUq (M : Mm) (r : Nat) (ρ : QSt) (u : Int32) : Prop := (∀ i, i < 7 → gi M r i = ρ.2.2 i) ∧ ∀ i, i < 7 → (bt u i = true ↔ ¬ ρ.2.1 i = 0)
theorem eRr_readInto {r : Nat} {x0 v0 p0 : Int32} {K : Int32 → Mm → Prop} (hk : r % 64 = 3) (g0 : gr M 324 0 = some 199) (tc : TC M T t)
    (h1 : ∀ N, PX r M N → RN N r → ¬ (qpS T t 401 (qS0 T t x0 v0 p0) 0).1.1.2.2.2.2.1 = 0 → gi N 199 5 = (qpS T t 401 (qS0 T t x0 v0 p0) 0).1.1.2.2.2.2.1 → gi N 199 6 = (qpS T t 401 (qS0 T t x0 v0 p0) 0).1.1.2.2.2.2.2 → K (-1) N)
    (h3 : ∀ N, PX r M N → RN N r → (qpS T t 401 (qS0 T t x0 v0 p0) 0).1.1.2.2.2.2.1 = 0 → gi N 199 5 = 0 → (∀ i, i < 7 → gi N r i = (qpS T t 401 (qS0 T t x0 v0 p0) 0).1.2.2 i) → (qpS T t 401 (qS0 T t x0 v0 p0) 0).2 ≤ 400 → K (nI (qpS T t 401 (qS0 T t x0 v0 p0) 0).2) N) : CI mRr_readInto [.ref 324, .ref r] M K := by
  have ht := tc.2.2.2.1
  have x1 : r ≠ 199 := by omega
  have x2 : r ≠ 70 := by omega
  have x3 : r ≠ 145 := by omega
  have pA : PX r M (si (si (si (si (si (si (si M r 0 31) r 1 2) r 2 0) r 3 0) r 4 (-4)) r 5 (-4)) r 6 1) := px_tr px_si (px_tr px_si (px_tr px_si (px_tr px_si (px_tr px_si (px_tr px_si px_si)))))
  have vA : ∀ i, i < 7 → gi (si (si (si (si (si (si (si M r 0 31) r 1 2) r 2 0) r 3 0) r 4 (-4)) r 5 (-4)) r 6 1) r i = dv i := by
    intro i hi
    simp only [gxs]
    match i, hi with
    | 0, _ => rfl
    | 1, _ => rfl
    | 2, _ => rfl
    | 3, _ => rfl
    | 4, _ => rfl
    | 5, _ => rfl
    | 6, _ => rfl
  refine call_of rfl (Nat.le_of_ble_eq_true rfl) rfl (vRr_readInto_0 hk (call_of rfl (Nat.le_of_ble_eq_true rfl) rfl (vRu_clear_0 hk (vRr_readInto_4 rfl g0 ?_))))
  generalize si (si (si (si (si (si (si M r 0 31) r 1 2) r 2 0) r 3 0) r 4 (-4)) r 5 (-4)) r 6 1 = A at pA vA ⊢
  have tA : TC A T t := tc_gi pA.1 (pA.2.2 70 (by decide) (Ne.symm x2)) (pA.2.2 145 (by decide) (Ne.symm x3)) tc
  refine nTo_begin tA rfl (fun B pB tB => vRr_readInto_11 rfl (by rw [pB.1, pA.1]; exact g0) (nTo_advance tB (fun C pC tC => ?_)))
  have pMC : PX r M C := px_tr pA (px_pt (pt_tr pB pC))
  have vC : ∀ i, i < 7 → gi C r i = dv i := fun i hi => by rw [pC.2.2 r x1, pB.2.2 r x1]; exact vA i hi
  have rC : RN C r := by unfold RN; rw [vC 2 (by decide)]; exact Or.inl rfl
  have rp : ∀ {N O : Mm}, PT N O → RN N r → RN O r := fun p a => by unfold RN; rw [p.2.2 r x1]; exact a
  have cC : CUq C r (qS0 T t x0 v0 p0) 0 := ⟨vC, fun i hi => by rw [b_0]; exact ⟨fun z => absurd z (by decide), fun z => absurd rfl z⟩⟩
  have rlC : RL (adv T t (0, 0, 0, gi A 199 4, 0, 0)) (qS0 T t x0 v0 p0).1 := rl_adv0 tc rfl rfl rfl
  have pos0 : (qS0 T t x0 v0 p0).1.2.2.2.2.1 = 0 → ¬ (qS0 T t x0 v0 p0).1.2.2.1 = 0 → 0 < (qS0 T t x0 v0 p0).1.2.1 := fun f n => by
    have := (go_nxs (T := T) (t := t) (s := (0, 0, x0, v0, 0, p0))).2 f
    exact this.2 n
  generalize qS0 T t x0 v0 p0 = ρ0 at h1 h3 cC rlC pos0
  generalize eF : qpS T t 401 ρ0 0 = F at h1 h3
  have bout : ∀ N s u ρ v, PX r M N → TD N T t s → RN N r → RL s ρ.1 → (s.2.2.2.2.1 = 0 → CUq N r ρ u) → v ≤ 400 → (ρ, v) = F → K (if gi N 199 5 = 0 then nI v else (-1)) N := by
    intro N s u ρ v pN tN rN rl lk hv e
    subst e
    have n5 := tN.2.2.2.2.2.1
    have n6 := tN.2.2.2.2.2.2.1
    by_cases z : s.2.2.2.2.1 = 0
    · have zr : ρ.1.2.2.2.2.1 = 0 := rl.1.symm.trans z
      rw [n5, if_pos z]
      exact h3 N pN rN zr (n5.trans z) (lk z).1 hv
    · have zr : ¬ ρ.1.2.2.2.2.1 = 0 := fun y => z (rl.1.trans y)
      rw [n5, if_neg z]
      exact h1 N pN rN zr (n5.trans rl.1) (n6.trans (rl.2.1 z))
  have key : ∀ n v N s u ρ, v + n = 400 → PX r M N → TD N T t s → RN N r → RL s ρ.1 → (s.2.2.2.2.1 = 0 → CUq N r ρ u) → (ρ.1.2.2.2.2.1 = 0 → ¬ ρ.1.2.2.1 = 0 → v < ρ.1.2.1) → qpS T t (n + 1) ρ v = F → X mRr_readInto 22 [(0, .ref 324), (1, .ref r), (2, .int u), (3, .int (nI v))] [] N (mC mRr_readInto, mS mRr_readInto) (QI K) := by
    intro n
    induction n with
    | zero =>
      intro v N s u ρ hv pN tN rN rl lk pos e
      have gN : gr N 324 0 = some 199 := by rw [pN.1]; exact g0
      have ev : v = 400 := by omega
      have l : (400 : Int32) ≤ nI v := by rw [ev]; exact Int32.le_refl _
      have ex : ¬ ρ.1.2.2.2.2.1 = 0 ∨ ρ.1.2.2.1 = 0 := by
        by_cases f : ρ.1.2.2.2.2.1 = 0
        · right
          by_cases q : ρ.1.2.2.1 = 0
          · exact q
          · exfalso
            have p := pos f q
            have fs : s.2.2.2.2.1 = 0 := rl.1.trans f
            have b2 := tN.2.2.2.2.2.2.2.2
            rw [(rl.2.2 fs).2.1] at b2
            omega
        · exact Or.inl f
      exact vRr_readInto_22 rfl gN ⟨fun _ => bout N s u ρ v pN tN rN rl lk (by omega) ((qpS_stop T t ex).symm.trans e), fun q => absurd l q.1, fun q => absurd l q.1⟩
    | succ n ih =>
      intro v N s u ρ hv pN tN rN rl lk pos e
      have gN : gr N 324 0 = some 199 := by rw [pN.1]; exact g0
      have n5 := tN.2.2.2.2.2.1
      have n1 := tN.2.1
      have stop : (¬ ρ.1.2.2.2.2.1 = 0 ∨ ρ.1.2.2.1 = 0) → (ρ, v) = F := fun ex => (qpS_stop T t ex).symm.trans e
      have b74 : s.2.2.2.2.1 = 0 → ¬ ρ.1.2.2.1 = 0 → X mRr_readInto 74 [(0, .ref 324), (1, .ref r), (2, .int u), (3, .int (nI v))] [.int (if s.1 = 2 then amo T t 2 s else -1)] N (mC mRr_readInto, mS mRr_readInto) (QI K) := by
        intro z ns
        have zr : ρ.1.2.2.2.2.1 = 0 := rl.1.symm.trans z
        have cl := lk z
        have b2 := tN.2.2.2.2.2.2.2.2
        have hs4 : ρ.1.2.1 ≤ 400 := by rw [← (rl.2.2 z).2.1]; exact b2
        have e' : qpS T t (n + 1) (qlS T t ρ) (v + 1) = F := (qpS_go T t (fun y => y.elim (fun y => y zr) ns)).symm.trans e
        have b128 : ∀ O x u', PX r M O → TD O T t x → RN O r → RL (tkC T t x) (qlS T t ρ).1 → ((qlS T t ρ).1.2.2.2.2.1 = 0 → CUq O r (qlS T t ρ) u') → X mRr_readInto 128 [(0, .ref 324), (1, .ref r), (2, .int u'), (3, .int (nI v))] [] O (mC mRr_readInto, mS mRr_readInto) (QI K) := by
          intro O x u' pO tO rO rl' clO
          refine vRr_readInto_128 rfl (by rw [pO.1]; exact g0) (nTo_closeLine tO (fun P pP tP => vRr_readInto_135 ?_))
          rw [nI_s]
          refine ih (v + 1) P _ u' (qlS T t ρ) (by omega) (px_tr pO (px_pt pP)) tP (rp pP rO) rl' (fun y => ?_) (fun y1 y2 => ?_) e'
          · obtain ⟨c1, c2⟩ := clO (rl'.1.symm.trans y)
            exact ⟨fun i hi => by rw [pP.2.2 r x1]; exact c1 i hi, c2⟩
          · have g := ql_go y1
            have := pos zr ns
            omega
        have tf : ∀ {x : Tst}, ¬ x.2.2.2.2.1 = 0 → tkC T t x = x := fun hx => by unfold tkC; rw [if_neg hx]
        rcases lr_rel (T := T) (t := t) hs4 rl z with ⟨ek, er⟩ | ⟨i, hi, ek, er, ec⟩
        · rw [ek]
          have rf := rl_fail (k := 2) rl z (by decide)
          have fx : ¬ (tfl 2 s).2.2.2.2.1 = 0 := tfl_ne (by decide)
          refine vRr_readInto_74 rfl gN ⟨fun q => absurd q (by decide), fun _ => nTo_fail tN (fun O pO tO => vRr_readInto_89 (b128 O _ u (px_tr pN (px_pt pO)) tO (rp pO rN) ?_ (fun y => absurd er (ql_row y).1)))⟩
          rw [tf fx, ql_1a er]; exact rf
        · rw [ek]
          have nr : ¬ row (lnk T t ρ.1) = -4 := by rw [er]; exact nI4 (by omega)
          have ci : (row (lnk T t ρ.1)).toNatClampNeg = i := by rw [er]; exact ncl (by omega)
          have p0 : (0 : Int32) ≤ nI i := nI_pos' (by omega)
          refine vRr_readInto_74 rfl gN ⟨fun _ => sC_holds (vRr_readInto_99 rfl gN ⟨fun q => ?_, fun q => ?_⟩), fun q => absurd p0 q⟩
          · have nb : ¬ bt u i = true := fun y => by
              rw [if_pos ((bitu _ (by omega)).mpr y)] at q
              exact absurd q (by decide)
            have t0 : ρ.2.1 i = 0 := by
              by_cases y : ρ.2.1 i = 0
              · exact y
              · exact absurd ((cl.2 i hi).mpr y) nb
            obtain ⟨nx, nv⟩ := rl_tell (tl := ρ.2.1) tc ht hs4 hi rl z er ec t0
            refine eRr_tell hk hi gN tN (fun O pO tO gO => b128 O _ _ (px_tr pN pO) tO ?_ ?_ (fun y => ?_))
            · unfold RN
              rw [gO 2]
              by_cases q2 : 2 = i
              · rw [if_pos q2, ← q2, qv2]; exact Or.inr rfl
              · rw [if_neg q2]; exact rN
            · rw [ql_1 nr]
              obtain ⟨y, g1, g2⟩ := nx
              unfold ru3
              rw [g2]
              exact rl_close tc g1
            · obtain ⟨-, y3⟩ := ql_row y
              have yx : (qtS T t i s).2.2.2.2.1 = 0 := by
                by_cases yy : (qtS T t i s).2.2.2.2.1 = 0
                · exact yy
                · exfalso
                  unfold ru3 at y3
                  exact (nxt_f nx yy).2 (eln_ok y3).2
              rw [ql_1c nr y3, ci]
              have ev := nv yx
              generalize ru3 T t ρ.2.1 ρ.1 = s3
              unfold CUq
              dsimp only
              refine ⟨fun j hj => ?_, fun j hj => ?_⟩
              · rw [gO j]
                unfold up1
                by_cases q2 : j = i
                · rw [if_pos q2, if_pos q2]; exact ev
                · rw [if_neg q2, if_neg q2]; exact cl.1 j hj
              · rw [b_or, b_one i (by omega) j (by omega), Bool.or_eq_true, decide_eq_true_eq]
                unfold up1
                by_cases q2 : j = i
                · rw [if_pos q2]
                  exact ⟨fun _ => by decide, fun _ => Or.inr q2⟩
                · rw [if_neg q2]
                  exact ⟨fun y => (cl.2 j hj).mp (y.resolve_right q2), fun y => Or.inl ((cl.2 j hj).mpr y)⟩
          · have bb : bt u i = true := by
              by_cases y : bt u i = true
              · exact y
              · rw [if_neg (fun x => y ((bitu _ (by omega)).mp x))] at q
                exact absurd rfl q
            have t1 : ¬ ρ.2.1 i = 0 := (cl.2 i hi).mp bb
            have rf := rl_fail (k := 4) rl z (by decide)
            have fx : ¬ (tfl 4 s).2.2.2.2.1 = 0 := tfl_ne (by decide)
            have fy : ¬ (wts 0 4 ρ.1).2.2.2.2.1 = 0 := wts02 (by decide)
            have e1 : ru1 T t ρ.2.1 ρ.1 = wts 0 4 ρ.1 := by
              unfold ru1
              rw [ci, if_neg t1, if_neg nr, wts_t (g := 1) (by decide), nxs_f fy]
            have e3 : ru3 T t ρ.2.1 ρ.1 = wts 0 4 ρ.1 := by
              have e2 : ru2 T t ρ.2.1 ρ.1 = wts 0 4 ρ.1 := by rw [ru2_f (by rw [e1]; exact fy), e1]
              unfold ru3
              rw [e2, eln_f fy]
            refine nTo_fail tN (fun O pO tO => vRr_readInto_110 (b128 O _ u (px_tr pN (px_pt pO)) tO (rp pO rN) ?_ (fun y => ?_)))
            · rw [tf fx, ql_1 nr, e3]; exact rf
            · exfalso
              have := (ql_row y).2
              rw [e3] at this
              exact fy this
      have kend : s.2.2.2.2.1 = 0 → (s.1 = 1 ↔ ρ.1.2.2.1 = 0) := fun f => ks1 (rl.2.2 f).2.2.1
      have nv : ¬ (400 : Int32) ≤ nI v := by rw [show (400 : Int32) = nI 400 from rfl, nle (by omega) (by decide)]; omega
      refine vRr_readInto_22 rfl gN ⟨fun q => ?_, fun q => ?_, fun q => sTo_among (j := 2) tN (by decide) (vRr_readInto_70 ?_)⟩
      · refine bout N s u ρ v pN tN rN rl lk (by omega) (stop ?_)
        rw [n5, n1] at q
        rcases q with q | q | q
        · exact absurd q nv
        · exact Or.inl (fun y => q.2 (rl.1.trans y))
        · exact Or.inr ((kend q.2.1).mp q.2.2)
      · rw [n5, n1] at q
        have := b74 q.2.1 (fun y => q.2.2.1 ((kend q.2.1).mpr y))
        rw [if_neg q.2.2.2] at this
        exact this
      · rw [n5, n1] at q
        have := b74 q.2.1 (fun y => q.2.2.1 ((kend q.2.1).mpr y))
        rw [if_pos q.2.2.2] at this
        exact this
  exact key 400 0 C _ 0 ρ0 (by omega) pMC tC rC rlC (fun _ => cC) pos0 eF
end EQC
